/-! The law's loop: its last part. -/
section ZE4
variable {K : XK} {d : Nat} {T : List XC} {e : Nat} {w : Nat → Value} {m : XM} {a q : Nat} {g : PG} {u : Option PG} {s : Nat} {x : PG} {B c i : Nat} {k5 : Int32} {Q : Option Value → XS → Prop}
/-- what the next turn of the loop starts with -/
def qNX (K : XK) (d a i e : Nat) (w : Nat → Value) (Q : Option Value → XS → Prop) : Prop := ∀ (T : List XC) (m : XM) (q : Nat) (g : PG) (u : Option PG) (s : Nat) (x : PG) (B c : Nat), qLS T m a q g u s x B c → B ≤ 16 * (i + 1) → c ≤ 200 + 10 * (i + 1) → qL K (d + 15) 181 3 [(0, .ref 1000000), (1, .ref 0), (3, .ref a), (4, .int (n32 (i + 1)))] [] (S0 ++ T, e, w, m) Q
theorem qw181_35 (h : qLS T m a q g u s x B c) (hB : B ≤ 16 * (i + 1)) (hc1 : c ≤ 200 + 10 * (i + 1)) (nx : qNX K d a i e w Q) : qL K (d + 15) 181 35 [(0, .ref 1000000), (1, .ref 0), (3, .ref a), (4, .int (n32 i))] [] (S0 ++ T, e, w, m) Q := by
  refine qL_at km181 k181_35 ?_
  refine qB_one (ls' := [(4, .int (n32 (i + 1))), (0, .ref 1000000), (1, .ref 0), (3, .ref a)]) (st' := []) rfl (by rw [← n32_add]; rfl) ?_
  exact qB_go (qL_ls km181 k181_3 (nx T m q g u s x B c h hB hc1) rfl)
theorem qw181_31 (h : qLS T m a q g u s x B c) (hi : i < 22) (hB : B ≤ 16 * (i + 1)) (hc1 : c + 1 ≤ 200 + 10 * (i + 1)) (nx : qNX K d a i e w Q) : qL K (d + 15) 181 31 [(0, .ref 1000000), (1, .ref 0), (3, .ref a), (4, .int (n32 i)), (5, .int k5), (6, .int (n32 s)), (7, .ref q)] [] (S0 ++ T, e, w, m) Q := by
  have hc : c ≤ 1000 := by omega
  refine qL_at km181 k181_31 ?_
  show qB K (d + 15) 181 2 _ [(0, .ref 1000000), (1, .ref 0), (3, .ref a), (4, .int (n32 i)), (6, .int (n32 s)), (7, .ref q)] [] _ _
  iterate 2 refine qB_one rfl rfl ?_
  refine qB_iv km154 (Nat.le_of_ble_eq_true rfl) (qrecv (hcls _) (by decide)) (Nat.le_of_ble_eq_true rfl) (Nat.le_of_ble_eq_true rfl) (q154 (d := d + 2) h.1 (h.hT hc)) ?_
  rintro v1 σ1 ⟨y, rfl, hy, m1, rfl, ⟨c1, z0⟩, f2⟩
  refine ⟨Or.inl rfl, ?_⟩
  replace h := h.k c1 f2 h.2.1.2.1 h.2.1.2.2.symm
  iterate 3 refine qB_one rfl rfl ?_
  refine qB_iv km96 (Nat.le_of_ble_eq_true rfl) (qrecv (hcls _) (by decide)) (Nat.le_of_ble_eq_true rfl) (Nat.le_of_ble_eq_true rfl) (q96 (d := d + 2) (j := 3) h.1 (by omega) (h.hT hc)) ?_
  rintro v1 σ1 ⟨rfl, m2, rfl, c1, f1, f2⟩
  refine ⟨Or.inl rfl, ?_⟩
  replace h := h.ask c1 f2
  have z1 : m2 74 1 = n32 0 := by rw [f1 74 1 ⟨by omega, by omega⟩]; exact z0
  iterate 1 refine qB_one rfl rfl ?_
  refine qB_icF (fun z => z (by rw [hy]; rfl)) ?_
  refine qB_gow (qL_at km181 k181_32 ?_)
  show qB K (d + 15) 181 2 _ [(0, .ref 1000000), (1, .ref 0), (3, .ref a), (4, .int (n32 i)), (7, .ref q)] [] _ _
  iterate 1 refine qB_one rfl rfl ?_
  refine qB_iv km152 (Nat.le_of_ble_eq_true rfl) (qrecv (hcls _) (by decide)) (Nat.le_of_ble_eq_true rfl) (Nat.le_of_ble_eq_true rfl) (q152 (d := d + 2) h.1 z1 (h.hT hc)) ?_
  rintro v1 σ1 ⟨rfl, y1, rfl, c1, f1, f2⟩
  refine ⟨Or.inl rfl, ?_⟩
  replace h := h.ask c1 f2
  refine qB_ifF (fun z => z rfl) ?_
  refine qB_gow (qL_at km181 k181_33 ?_)
  show qB K (d + 15) 181 2 _ [(0, .ref 1000000), (1, .ref 0), (3, .ref a), (4, .int (n32 i)), (7, .ref q)] [] _ _
  iterate 2 refine qB_one rfl rfl ?_
  have hln := h.2.2.1.ln hc
  have hal := h.2.2.1.lt
  have hql := ap_lt h.2.2.2.2.1
  have hz0 : 0 < (S0 ++ T).length := by omega
  refine qB_is km183 (Nat.le_of_ble_eq_true rfl) rfl (Nat.le_of_ble_eq_true rfl) (Nat.le_of_ble_eq_true rfl) (q183 (d := d + 1) h.1 h.2.2.1.2.1 (by omega)) ?_
  rintro v1 σ1 ⟨rfl, y2, rfl, hs⟩
  refine ⟨Or.inr ⟨xaC (xokF (Nat.le_refl _)) (xaC (xokR (by omega)) (xaC (xokR (by omega)) (xaC xokI (xaC (xokR (by omega)) xaN)))), xsC (xokR (by omega)) xsN⟩, ?_⟩
  obtain ⟨h', hQ', hm', hlt⟩ := h.seen hs
  clear h hs
  have h := h'
  clear h'
  generalize hTT : T ++ [((20, 300, []) : XC)] = T2 at h hQ' ⊢
  generalize hqq : (S0 ++ T).length = qq at hQ' hm' hlt hln hal hql hz0 ⊢
  have hc : c + 1 ≤ 1000 := by omega
  refine qB_is km216 (Nat.le_of_ble_eq_true rfl) rfl (Nat.le_of_ble_eq_true rfl) (Nat.le_of_ble_eq_true rfl) (qc216 (d := d + 11) h.2.2.2.2.1 hQ' (by omega) (by omega) (by omega) (by have := h.hT hc; rw [List.length_append, S0_len]; exact this) (fun j _ => by rw [h.2.2.2.2.2, hm'])) ?_
  rintro v1 σ1 ⟨rfl, rfl⟩
  refine ⟨Or.inl rfl, ?_⟩
  refine qB_ifT ne10 ?_
  exact qL_ls km181 k181_35 (qw181_35 h hB (by omega) nx) rfl
theorem qw181_29 (h : qLS T m a q g u s x B c) (hi : i < 22) (hB : B ≤ 16 * (i + 1)) (hc1 : c + 1 ≤ 200 + 10 * (i + 1)) (nx : qNX K d a i e w Q) : qL K (d + 15) 181 29 [(0, .ref 1000000), (1, .ref 0), (3, .ref a), (4, .int (n32 i)), (5, .int k5), (6, .int (n32 s)), (7, .ref q)] [] (S0 ++ T, e, w, m) Q := by
  refine qL_at km181 k181_29 ?_
  show qB K (d + 15) 181 2 _ [(0, .ref 1000000), (1, .ref 0), (3, .ref a), (4, .int (n32 i)), (5, .int k5), (6, .int (n32 s)), (7, .ref q)] [] _ _
  iterate 5 refine qB_one rfl rfl ?_
  refine qB_if (fun _ => ?_) (fun _ => ?_)
  · exact qL_ls km181 k181_31 (qw181_31 h hi hB hc1 nx) rfl
  · refine qB_gow (qL_at km181 k181_30 ?_)
    exact qB_go (qL_ls km181 k181_35 (qw181_35 h hB (by omega) nx) rfl)
theorem qw181_27 (h : qLS T m a q g u s x B c) (hi : i < 22) (hB : B ≤ 16 * (i + 1)) (hc1 : c + 1 ≤ 200 + 10 * (i + 1)) {b : Nat} (hb : b < nBr g) (nx : qNX K d a i e w Q) : qL K (d + 15) 181 27 [(0, .ref 1000000), (1, .ref 0), (3, .ref a), (4, .int (n32 i)), (5, .int k5), (6, .int (n32 s)), (7, .ref q), (8, .int (n32 b))] [] (S0 ++ T, e, w, m) Q := by
  have hc : c ≤ 1000 := by omega
  have wf := h.wf
  have a2 := wf.nb
  obtain ⟨k, hk, ek⟩ := qAnd (k5.toUInt32 >>> ((Int32.ofInt 8).toUInt32 &&& Int32.toUInt32 31)).toInt32 (k := 127) (by omega)
  have ve : ∀ k, k < 128 → ¬ n32 k - Int32.ofInt 80 < -(n32 100) ∧ ¬ n32 100 < n32 k - Int32.ofInt 80 := by decide +kernel
  obtain ⟨v1, v2⟩ := ve k (by omega)
  refine qL_at km181 k181_27 ?_
  show qB K (d + 15) 181 2 _ [(0, .ref 1000000), (1, .ref 0), (3, .ref a), (4, .int (n32 i)), (5, .int k5), (6, .int (n32 s)), (7, .ref q), (8, .int (n32 b))] [] _ _
  iterate 6 refine qB_one rfl rfl ?_
  refine qB_one (ls' := [(0, .ref 1000000), (1, .ref 0), (3, .ref a), (4, .int (n32 i)), (5, .int k5), (6, .int (n32 s)), (7, .ref q), (8, .int (n32 b))]) (st' := [.int (n32 k), .int (n32 b), .ref 0]) rfl (by rw [← ek]; rfl) ?_
  iterate 2 refine qB_one rfl rfl ?_
  refine qB_iv km146 (Nat.le_of_ble_eq_true rfl) (qrecv (hcls _) (by decide)) (Nat.le_of_ble_eq_true rfl) (Nat.le_of_ble_eq_true rfl) (q146 (d := d + 2) (b := b) (v := n32 k - Int32.ofInt 80) h.1 hb v1 v2 (h.hT hc)) ?_
  rintro v1 σ1 ⟨y, rfl, hy, m1, rfl, c1, f2⟩
  refine ⟨Or.inl rfl, ?_⟩
  have kk := WF_strG (v := n32 k - Int32.ofInt 80) wf hb
  replace h := h.k c1 f2 (LW_str wf hb h.2.1.1) kk.2.1
  replace hb : b < nBr (strG g b (n32 k - Int32.ofInt 80)) := by rw [kk.2.1]; exact hb
  iterate 5 refine qB_one rfl rfl ?_
  refine qB_iv km98 (Nat.le_of_ble_eq_true rfl) (qrecv (hcls _) (by decide)) (Nat.le_of_ble_eq_true rfl) (Nat.le_of_ble_eq_true rfl) (q98 (d := d + 2) (b := b) (i := 4) h.1 hb (by omega) (h.hT hc)) ?_
  rintro v1 σ1 ⟨rfl, y3, rfl, c1, f1, f2⟩
  refine ⟨Or.inl rfl, ?_⟩
  replace h := h.ask c1 f2
  refine qB_icT hy ?_
  exact qL_ls km181 k181_29 (qw181_29 h hi hB hc1 nx) rfl
end ZE4
