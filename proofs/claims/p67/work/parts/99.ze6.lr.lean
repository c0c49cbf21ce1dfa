/-! The law's loop: done again as before. -/
section ZE6
variable {T : List XC} {m m' : XM} {a q : Nat} {g : PG} {u : Option PG} {s : Nat} {x : PG} {B c : Nat}
/-- a new cell -/
theorem qLS.new {n1 : Nat} (h : qLS T m a q g u s x B c) (hn : n1 ≤ 300) : qLS (T ++ [(20, n1, [])]) (uz m (S0 ++ T).length) a q g u s x B (c + 1) ∧ (S0 ++ (T ++ [((20, n1, []) : XC)]))[(S0 ++ T).length]? = some (20, n1, []) ∧ q < (S0 ++ T).length ∧ a < (S0 ++ T).length := by
  obtain ⟨h1, h2, h3, h4, h5, h6⟩ := h
  have hal := h3.lt
  have hql := ap_lt h5
  have hl : (S0 ++ T).length = 283 + T.length := by rw [List.length_append, S0_len]
  have e : ∀ b k', CRL b → uz m (S0 ++ T).length b k' = m b k' := fun b k' hb => by rw [uz_ne (by have := hb.2; omega)]
  refine ⟨⟨CLS_fr h1 (Nat.le_refl _) e, h2, h3.push (uz_ne (by omega)) hn, h4, ?_, by rw [uz_ne (by omega)]; exact h6⟩, ?_, hql, hal⟩
  · rw [← List.append_assoc]; exact ap_in h5
  · rw [← List.append_assoc]; exact ap_end
theorem qLS.put {p k : Nat} {v : Int32} (h : qLS T m a q g u s x B c) (hp : 283 ≤ p) (ha : a ≠ p) (hq : q ≠ p) : qLS T (um m p k v) a q g u s x B c := by
  have e : ∀ b k', CRL b → um m p k v b k' = m b k' := fun b k' hb => um_a (by have := hb.2; omega)
  exact ⟨CLS_fr h.1 (Nat.le_refl _) e, h.2.1, h.2.2.1.mv (um_row ha), h.2.2.2.1, h.2.2.2.2.1, by rw [um_row hq]; exact h.2.2.2.2.2⟩
/-- what isRight leaves -/
theorem qLS.two (h : qLS T m a q g u s x B c) (c1 : CLS m' g u s (some x) B) (f : ∀ b, 283 ≤ b → b < (S0 ++ T).length → m' b = m b) : qLS (T ++ [(20, 27, []), (20, 27, [])]) m' a q g u s x B (c + 2) := by
  obtain ⟨h1, h2, h3, h4, h5, h6⟩ := h
  have hal := h3.lt
  have hql := ap_lt h5
  have h7 := (h3.push (c1 := 20) (n1 := 27) (f a h3.2.2.2.2.1 hal) (by omega)).push (c1 := 20) (n1 := 27) (m' := m') rfl (by omega)
  rw [List.append_assoc] at h7
  refine ⟨c1, h2, h7, h4, ?_, by rw [f q h4 hql]; exact h6⟩
  rw [← List.append_assoc]; exact ap_in h5
end ZE6
section ZE7
variable {K : XK} {d : Nat} {T : List XC} {e : Nat} {w : Nat → Value} {m : XM} {a q : Nat} {g : PG} {u : Option PG} {s : Nat} {x : PG} {B c i : Nat} {k5 : Int32} {Q : Option Value → XS → Prop}
theorem qw181_13 {r0 : Int32} {n b : Nat} (h : qLS T m a q (tkn g n) (some g) s x B c) (hi : i < 22) (hB : B + n ≤ 16 * (i + 1)) (hc1 : c + 3 ≤ 200 + 10 * (i + 1)) (n1 : 1 ≤ n) (n8 : n ≤ 8) (hb : b < nBr g) (lw : LW g) (lwt : LW (tkn g n)) (hnb : nBr (tkn g n) = nBr g) (hr : r0 = n32 (rdN (tkn g n)) - n32 (rdN g)) (nx : qNX K d a i e w Q) : qL K (d + 15) 181 13 [(0, .ref 1000000), (1, .ref 0), (3, .ref a), (4, .int (n32 i)), (5, .int k5), (6, .int (n32 s)), (7, .ref q), (8, .int (n32 b)), (9, .int (n32 n)), (12, .int r0)] [] (S0 ++ T, e, w, m) Q := by
  have hc : c ≤ 1000 := by omega
  refine qL_at km181 k181_13 ?_
  show qB K (d + 15) 181 2 _ [(0, .ref 1000000), (1, .ref 0), (3, .ref a), (4, .int (n32 i)), (5, .int k5), (6, .int (n32 s)), (7, .ref q), (8, .int (n32 b)), (9, .int (n32 n)), (12, .int r0)] [] _ _
  iterate 1 refine qB_one rfl rfl ?_
  have hln := h.2.2.1.ln hc
  have hal := h.2.2.1.lt
  have hql := ap_lt h.2.2.2.2.1
  have hz0 : 0 < (S0 ++ T).length := by omega
  refine qB_is km183 (Nat.le_of_ble_eq_true rfl) rfl (Nat.le_of_ble_eq_true rfl) (Nat.le_of_ble_eq_true rfl) (q183 (d := d + 1) h.1 h.2.2.1.2.1 (by omega)) ?_
  rintro v1 σ1 ⟨rfl, y12, rfl, hs⟩
  refine ⟨Or.inr ⟨xaC (xokF (Nat.le_refl _)) (xaC (xokR (by omega)) (xaC (xokR (by omega)) (xaC xokI (xaC xokI (xaC xokI (xaC (xokR (by omega)) (xaC xokI (xaC xokI (xaC xokI xaN))))))))), xsN⟩, ?_⟩
  obtain ⟨h', hQ', hm', hlt⟩ := h.seen hs
  clear h hs
  have h := h'
  clear h'
  generalize hTT : T ++ [((20, 300, []) : XC)] = T2 at h hQ' ⊢
  generalize hqq : (S0 ++ T).length = qq at hQ' hm' hlt hln hal hql hz0 ⊢
  have hc : c + 1 ≤ 1000 := by omega
  iterate 2 refine qB_one rfl rfl ?_
  refine qB_iv km151 (Nat.le_of_ble_eq_true rfl) (qrecv (hcls _) (by decide)) (Nat.le_of_ble_eq_true rfl) (Nat.le_of_ble_eq_true rfl) (q151 (d := d + 2) h.1 (h.hT hc)) ?_
  rintro v1 σ1 ⟨y, rfl, ⟨k, hk, rfl⟩, m1, rfl, c1, f2⟩
  refine ⟨Or.inl rfl, ?_⟩
  replace h := h.k c1 f2 lw hnb.symm
  replace hm' := (f2 qq (by omega)).trans hm'
  refine qB_ifF (fun z => ?_) ?_
  · have := (n32_lt (a := k) (b := 0) (by omega) (by omega)).mp z
    omega
  refine qB_gow (qL_at km181 k181_14 ?_)
  show qB K (d + 15) 181 2 _ [(0, .ref 1000000), (1, .ref 0), (3, .ref a), (4, .int (n32 i)), (5, .int k5), (6, .int (n32 s)), (7, .ref q), (8, .int (n32 b)), (9, .int (n32 n)), (12, .int r0), (13, .ref qq)] [] _ _
  iterate 2 refine qB_one rfl rfl ?_
  refine qB_iv km142 (Nat.le_of_ble_eq_true rfl) (qrecv (hcls _) (by decide)) (Nat.le_of_ble_eq_true rfl) (Nat.le_of_ble_eq_true rfl) (q142 (d := d + 2) (n := n) h.1 (by omega) n1 (by omega) (h.hT hc)) ?_
  rintro v1 σ1 ⟨y, rfl, hy, m2, rfl, c1, f2⟩
  refine ⟨Or.inl rfl, ?_⟩
  replace h := h.k c1 f2 lwt hnb
  replace hm' := (f2 qq (by omega)).trans hm'
  iterate 1 refine qB_one rfl rfl ?_
  refine qB_icF (fun z => z (by rw [hy, hr])) ?_
  refine qB_gow (qL_at km181 k181_15 ?_)
  show qB K (d + 15) 181 2 _ [(0, .ref 1000000), (1, .ref 0), (3, .ref a), (4, .int (n32 i)), (5, .int k5), (6, .int (n32 s)), (7, .ref q), (8, .int (n32 b)), (13, .ref qq)] [] _ _
  iterate 2 refine qB_one rfl rfl ?_
  have hln2 := h.2.2.1.ln hc
  have hqq := ap_lt hQ'
  refine qB_is km183 (Nat.le_of_ble_eq_true rfl) rfl (Nat.le_of_ble_eq_true rfl) (Nat.le_of_ble_eq_true rfl) (q183 (d := d + 1) h.1 h.2.2.1.2.1 (by omega)) ?_
  rintro v1 σ1 ⟨rfl, m3, rfl, hs⟩
  have hal2 := h.2.2.1.lt
  have hql2 := ap_lt h.2.2.2.2.1
  have hz2 : 0 < (S0 ++ T2).length := by omega
  refine ⟨Or.inr ⟨xaC (xokF (Nat.le_refl _)) (xaC (xokR (by omega)) (xaC (xokR (by omega)) (xaC xokI (xaC xokI (xaC xokI (xaC (xokR (by omega)) (xaC xokI (xaC (xokR (by omega)) xaN)))))))), xsC (xokR (by omega)) xsN⟩, ?_⟩
  have hm9 : m3 qq = seenG (tkn g n) := by rw [hs.2.2.1 qq (by omega) (by omega)]; exact hm'
  obtain ⟨h', hQ2, hm2, hlt2⟩ := h.seen hs
  have hQ1 : (S0 ++ (T2 ++ [((20, 300, []) : XC)]))[qq]? = some (20, 300, []) := by rw [← List.append_assoc]; exact ap_in hQ'
  have h := h'
  have hc : c + 1 + 1 ≤ 1000 := by omega
  refine qB_is km216 (Nat.le_of_ble_eq_true rfl) rfl (Nat.le_of_ble_eq_true rfl) (Nat.le_of_ble_eq_true rfl) (qc216 (d := d + 11) hQ1 hQ2 (by omega) (by omega) (by omega) (by have := h.hT hc; rw [List.length_append, S0_len]; exact this) (fun j _ => by rw [hm9, hm2])) ?_
  rintro v1 σ1 ⟨rfl, rfl⟩
  refine ⟨Or.inl rfl, ?_⟩
  refine qB_ifT ne10 ?_
  exact qL_ls km181 k181_17 (qw181_17 h hi (by omega) (by omega) (by rw [hnb]; exact hb) nx) rfl
end ZE7
