/-! The law's loop: its first part; the loop. -/
section ZE9
variable {K : XK} {d : Nat} {T : List XC} {e : Nat} {w : Nat → Value} {m : XM} {a q : Nat} {g : PG} {u : Option PG} {s : Nat} {x : PG} {B c i : Nat} {k5 : Int32} {Q : Option Value → XS → Prop}
theorem qw181_4 {z : Option PG} (h1 : 1 ≤ K.1) (h2 : K.1 ≤ 100000) (hC : CLS m g u s z B) (lw : LW g) (hM : qMC T m a (nBr g) c) (hi : i < 22) (hB : B ≤ 16 * i) (hc1 : c ≤ 200 + 10 * i) (nx : qNX K d a i e w Q) : qL K (d + 15) 181 4 [(0, .ref 1000000), (1, .ref 0), (3, .ref a), (4, .int (n32 i))] [] (S0 ++ T, e, w, m) Q := by
  have hc : c ≤ 1000 := by omega
  have hln := hM.ln hc
  have hal := hM.lt
  have hz0 : 0 < (S0 ++ T).length := by omega
  have hx : Int32.ofInt 10 + n32 i = n32 (10 + i) := by
    show n32 10 + n32 i = _
    rw [n32_add]
  refine qL_at km181 k181_4 ?_
  show qB K (d + 15) 181 2 _ [(0, .ref 1000000), (1, .ref 0), (3, .ref a), (4, .int (n32 i))] [] _ _
  iterate 3 refine qB_one rfl rfl ?_
  refine qB_one (ls' := [(0, .ref 1000000), (1, .ref 0), (3, .ref a), (4, .int (n32 i))]) (st' := [.int (n32 (10 + i)), .ref 1000000]) rfl (by rw [← hx]; rfl) ?_
  refine qB_is km177 (Nat.le_of_ble_eq_true rfl) rfl (Nat.le_of_ble_eq_true rfl) (Nat.le_of_ble_eq_true rfl) (qc177 (d := d + 14) (k := 10 + i) h1 h2 (by omega) (by omega)) ?_
  rintro v1 σ1 ⟨rfl, rfl⟩
  refine ⟨Or.inl rfl, ?_⟩
  generalize qcl K (10 + i) = k5
  obtain ⟨t, ht, et⟩ := qAnd (k5.toUInt32 >>> ((Int32.ofInt 20).toUInt32 &&& Int32.toUInt32 31)).toInt32 (k := 1) (by omega)
  iterate 5 refine qB_one rfl rfl ?_
  refine qB_one (ls' := [(5, .int k5), (0, .ref 1000000), (1, .ref 0), (3, .ref a), (4, .int (n32 i))]) (st' := [.int (n32 t)]) rfl (by rw [← et]; rfl) ?_
  iterate 2 refine qB_one rfl rfl ?_
  refine qB_is km183 (Nat.le_of_ble_eq_true rfl) rfl (Nat.le_of_ble_eq_true rfl) (Nat.le_of_ble_eq_true rfl) (q183 (d := d + 1) hC hM.2.1 (by omega)) ?_
  rintro v1 σ1 ⟨rfl, m1, rfl, s1, s2, s3, s4⟩
  refine ⟨Or.inr ⟨xaC xokI (xaC xokI (xaC (xokF (Nat.le_refl _)) (xaC (xokR (by omega)) (xaC (xokR (by omega)) (xaC xokI xaN))))), xsN⟩, ?_⟩
  have hM1 := hM.push (c1 := 20) (n1 := 300) (m' := m1) (s3 a hM.2.2.2.2.1 (by omega)) (by omega)
  have hQ : (S0 ++ (T ++ [((20, 300, []) : XC)]))[(S0 ++ T).length]? = some (20, 300, []) := by rw [← List.append_assoc]; exact ap_end
  have hq : 283 ≤ (S0 ++ T).length := by omega
  generalize hTT : T ++ [((20, 300, []) : XC)] = T2 at hM1 hQ ⊢
  generalize hqq : (S0 ++ T).length = q at hQ hq s4 hal hln ⊢
  iterate 3 refine qB_one rfl rfl ?_
  refine qB_iv km153 (Nat.le_of_ble_eq_true rfl) (qrecv (hcls _) (by decide)) (Nat.le_of_ble_eq_true rfl) (Nat.le_of_ble_eq_true rfl) (q153 (d := d + 2) (s := t) s1 (by omega) (hM1.hT (by omega))) ?_
  rintro v1 σ1 ⟨y, rfl, hy, m2, rfl, c1, f2⟩
  refine ⟨Or.inl rfl, ?_⟩
  have h : qLS T2 m2 a q g u t g B (c + 1) := ⟨c1, ⟨lw, lw, rfl⟩, hM1.mv (f2 a hM.2.2.2.2.1), hq, hQ, by rw [f2 q hq]; exact s4⟩
  clear hC hM hM1 s1 s2 s3 s4 c1 f2 hQ
  have hc : c + 1 ≤ 1000 := by omega
  iterate 2 refine qB_one rfl rfl ?_
  refine qB_iv km96 (Nat.le_of_ble_eq_true rfl) (qrecv (hcls _) (by decide)) (Nat.le_of_ble_eq_true rfl) (Nat.le_of_ble_eq_true rfl) (q96 (d := d + 2) (j := 3) h.1 (by omega) (h.hT hc)) ?_
  rintro v1 σ1 ⟨rfl, y18, rfl, c1, f1, f2⟩
  refine ⟨Or.inl rfl, ?_⟩
  replace h := h.ask c1 f2
  refine qB_icF (fun z => z (by rw [hy]; rfl)) ?_
  refine qB_gow (qL_at km181 k181_5 ?_)
  show qB K (d + 15) 181 2 _ [(0, .ref 1000000), (1, .ref 0), (3, .ref a), (4, .int (n32 i)), (5, .int k5), (6, .int (n32 t)), (7, .ref q)] [] _ _
  iterate 1 refine qB_one rfl rfl ?_
  have hl2 := h.2.2.1.ln hc
  have ha2 := h.2.2.1.lt
  have hq2 := ap_lt h.2.2.2.2.1
  have hz2 : 0 < (S0 ++ T2).length := by omega
  refine qB_is km182 (Nat.le_of_ble_eq_true rfl) rfl (Nat.le_of_ble_eq_true rfl) (Nat.le_of_ble_eq_true rfl) (q182 (d := d + 1) h.1 (by omega) lw h.2.2.1.2.1 (by omega)) ?_
  rintro v1 σ1 ⟨rfl, m3, rfl, c1, f2⟩
  refine ⟨Or.inr ⟨xaC (xokF (Nat.le_refl _)) (xaC (xokR (by omega)) (xaC (xokR (by omega)) (xaC xokI (xaC xokI (xaC xokI (xaC (xokR (by omega)) xaN)))))), xsN⟩, ?_⟩
  replace h := h.two c1 f2
  generalize hT3 : T2 ++ [((20, 27, []) : XC), (20, 27, [])] = T3 at h ⊢
  have hc : c + 1 + 2 ≤ 1000 := by omega
  refine qB_ifF ne10 ?_
  refine qB_gow (qL_at km181 k181_6 ?_)
  show qB K (d + 15) 181 2 _ [(0, .ref 1000000), (1, .ref 0), (3, .ref a), (4, .int (n32 i)), (5, .int k5), (6, .int (n32 t)), (7, .ref q)] [] _ _
  iterate 2 refine qB_one rfl rfl ?_
  have hl3 := h.2.2.1.ln hc
  have ha3 := h.2.2.1.lt
  have hq3 := ap_lt h.2.2.2.2.1
  have hz3 : 0 < (S0 ++ T3).length := by omega
  refine qB_is km183 (Nat.le_of_ble_eq_true rfl) rfl (Nat.le_of_ble_eq_true rfl) (Nat.le_of_ble_eq_true rfl) (q183 (d := d + 1) h.1 h.2.2.1.2.1 (by omega)) ?_
  rintro v1 σ1 ⟨rfl, m4, rfl, hs⟩
  refine ⟨Or.inr ⟨xaC (xokF (Nat.le_refl _)) (xaC (xokR (by omega)) (xaC (xokR (by omega)) (xaC xokI (xaC xokI (xaC xokI (xaC (xokR (by omega)) xaN)))))), xsC (xokR (by omega)) xsN⟩, ?_⟩
  obtain ⟨h', hQ', hm', hlt⟩ := h.seen hs
  clear h hs
  have h := h'
  clear h'
  have hc : c + 1 + 2 + 1 ≤ 1000 := by omega
  refine qB_is km216 (Nat.le_of_ble_eq_true rfl) rfl (Nat.le_of_ble_eq_true rfl) (Nat.le_of_ble_eq_true rfl) (qc216 (d := d + 11) h.2.2.2.2.1 hQ' (by omega) (by omega) (by omega) (by have := h.hT hc; rw [List.length_append, S0_len]; exact this) (fun j _ => by rw [h.2.2.2.2.2, hm'])) ?_
  rintro v1 σ1 ⟨rfl, rfl⟩
  refine ⟨Or.inl rfl, ?_⟩
  refine qB_ifT ne10 ?_
  exact qL_ls km181 k181_8 (qw181_8 h hi hB (by omega) nx) rfl
theorem qw181_3 (h1 : 1 ≤ K.1) (h2 : K.1 ≤ 100000) (hQ : ∀ (T : List XC) (m : XM) (n : Nat), qMC T m a n 420 → Q (some (.int 1)) (S0 ++ T, e, w, m)) : ∀ (j i : Nat) (T : List XC) (m : XM) (g : PG) (u : Option PG) (s : Nat) (z : Option PG) (B c : Nat), i + j = 22 → CLS m g u s z B → LW g → qMC T m a (nBr g) c → B ≤ 16 * i → c ≤ 200 + 10 * i → qL K (d + 15) 181 3 [(0, .ref 1000000), (1, .ref 0), (3, .ref a), (4, .int (n32 i))] [] (S0 ++ T, e, w, m) Q := by
  intro j
  induction j with
  | zero =>
    intro i T m g u s z B c hj hC lw hM hB hc
    refine qL_at km181 k181_3 ?_
    iterate 2 refine qB_one rfl rfl ?_
    refine qB_icT ((n32_le (a := 22) (b := i) (by omega) (by omega)).mpr (by omega)) ?_
    refine qL_at km181 k181_36 ?_
    iterate 1 refine qB_one rfl rfl ?_
    obtain ⟨x1, x2, x3, x4, x5⟩ := hM
    exact qB_iret rfl (hQ T m (nBr g) ⟨x1, x2, by omega, by omega, x5⟩)
  | succ j ih =>
    intro i T m g u s z B c hj hC lw hM hB hc
    refine qL_at km181 k181_3 ?_
    iterate 2 refine qB_one rfl rfl ?_
    refine qB_icF (fun y => ?_) ?_
    · have := (n32_le (a := 22) (b := i) (by omega) (by omega)).mp y
      omega
    refine qB_gow (qL_ls km181 k181_4 (qw181_4 h1 h2 hC lw hM (by omega) hB hc ?_) rfl)
    intro T' m' q' g' u' s' x' B' c' h' hB' hc'
    exact ih (i + 1) T' m' g' u' s' (some x') B' c' (by omega) h'.1 h'.2.1.1 h'.2.2.1 hB' hc'
end ZE9
