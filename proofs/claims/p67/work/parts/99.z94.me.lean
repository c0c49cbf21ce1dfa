/-! The script's march: its bearers; the whole of it. -/
section QME
variable {K : XK} {d : Nat} {e : Nat} {w : Nat → Value}
/-- the bearers -/
theorem qw178_1 {a b L nb ns np : Nat} {ws : List (Option Nat)} {S : List XC} (h1 : 1 ≤ K.1) (h2 : K.1 ≤ 100000) (hL : L ≤ S.length) (hG : qG S) (hN : S.length < 880000) : ∀ (i j : Nat) (m : XM), j + i = nb → qMV S m a b L nb ns np j 0 0 ws →
    qL K (d + 6) 178 1 [(0, .ref 1000000), (1, .ref a), (4, .int (n32 j))] [] (S, e, w, m) (qPM S m e w a b nb ns np 20) := by
  intro i
  induction i with
  | zero =>
    intro j m hj h
    have hj' : j = nb := by omega
    subst hj'
    have hms := h.1
    have hns := h.2.2.2.1.2.2
    refine qL_at km178 k178_1 ?_
    iterate 2 refine qB_one rfl rfl ?_
    refine q_getV hms.1 h.2.2.1.1 rfl ?_
    refine qB_icT (Int32.le_refl _) ?_
    refine qL_at km178 k178_3 ?_
    iterate 2 refine qB_one rfl rfl ?_
    refine qB_gow (qL_ls km178 k178_4 (qL_mono (qw178_4 (d := d) h1 h2 ns 0 S m L ws (Nat.zero_add _) h hL hG (by omega)) ?_) rfl)
    rintro v1 σ1 ⟨rfl, S', m', ws', rfl, y1, y2, y3⟩
    exact ⟨rfl, S', m', ws', rfl, y1, y2.up (fun _ _ q => q) (by omega), y3⟩
  | succ i ih =>
    intro j m hj h
    have hms := h.1
    have hnb := h.2.2.1
    have hab := hms.2.2.2.2.2
    have hal := ap_lt hms.1
    refine qL_at km178 k178_1 ?_
    iterate 2 refine qB_one rfl rfl ?_
    refine q_getV hms.1 hnb.1 rfl ?_
    refine qB_icF (fun q => ?_) ?_
    · have := (n32_le (a := nb) (b := j) (by omega) (by omega)).mp q
      omega
    refine qB_gow (qL_at km178 k178_2 ?_)
    show qB K (d + 6) 178 8 _ [(0, .ref 1000000), (1, .ref a), (4, .int (n32 j))] [] _ _
    iterate 3 refine qB_one rfl rfl ?_
    refine q_add (a := 1) (b := j) ?_
    refine qB_is km177 (Nat.le_of_ble_eq_true rfl) rfl (Nat.le_of_ble_eq_true rfl) (Nat.le_of_ble_eq_true rfl) (qc177 (k := 1 + j) h1 h2 (by show S.length ≤ 1000000; omega) (by omega)) ?_
    rintro v1 σ1 ⟨rfl, rfl⟩
    refine ⟨Or.inl rfl, ?_⟩
    obtain ⟨x1, hx1, ex1⟩ := qAnd (qcl K (1 + j)) (k := 1) (by omega)
    obtain ⟨x2, hx2, ex2⟩ := qAnd ((qcl K (1 + j)).toUInt32 >>> ((Int32.ofInt 1).toUInt32 &&& Int32.toUInt32 31)).toInt32 (k := 15) (by omega)
    obtain ⟨x3, hx3, ex3⟩ := qAnd ((qcl K (1 + j)).toUInt32 >>> ((Int32.ofInt 5).toUInt32 &&& Int32.toUInt32 31)).toInt32 (k := 31) (by omega)
    iterate 2 refine qB_one rfl rfl ?_
    refine q_getR hms.1 (qM_at hms (i := 2) (by omega)) rfl ?_
    iterate 6 refine qB_one rfl rfl ?_
    refine q_iastV (i := j) (hms.2.1 2 (by omega)) (by show j < 12; omega) (by show (12 : Nat) ≤ 100000; omega) ?_
    iterate 1 refine qB_one rfl rfl ?_
    refine q_getR hms.1 (qM_at hms (i := 1) (by omega)) rfl ?_
    iterate 2 refine qB_one rfl rfl ?_
    refine q_getR hms.1 (qM_at hms (i := 2) (by omega)) rfl ?_
    iterate 1 refine qB_one rfl rfl ?_
    refine q_ialV (i := j) (hms.2.1 2 (by omega)) (by show j < 12; omega) (by show (12 : Nat) ≤ 100000; omega) rfl ?_
    refine q_iastV (i := j) (hms.2.1 1 (by omega)) (by show j < 12; omega) (by show (12 : Nat) ≤ 100000; omega) ?_
    iterate 1 refine qB_one rfl rfl ?_
    refine q_getR hms.1 (qM_at hms (i := 4) (by omega)) rfl ?_
    iterate 8 refine qB_one rfl rfl ?_
    refine q_iastV (i := j) (hms.2.1 4 (by omega)) (by show j < 12; omega) (by show (12 : Nat) ≤ 100000; omega) ?_
    iterate 1 refine qB_one rfl rfl ?_
    refine q_getR hms.1 (qM_at hms (i := 5) (by omega)) rfl ?_
    iterate 7 refine qB_one rfl rfl ?_
    refine q_rem (A := x3) (B := 21) ex3 rfl (by omega) (by omega) (by omega) ?_
    refine q_iastV (i := j) (hms.2.1 5 (by omega)) (by show j < 12; omega) (by show (12 : Nat) ≤ 100000; omega) ?_
    iterate 1 refine qB_one rfl rfl ?_
    refine q_getR hms.1 (qM_at hms (i := 6) (by omega)) rfl ?_
    iterate 2 refine qB_one rfl rfl ?_
    refine q_iastV (i := j) (hms.2.1 6 (by omega)) (by show j < 12; omega) (by show (12 : Nat) ≤ 100000; omega) ?_
    iterate 1 refine qB_one rfl rfl ?_
    refine q_getR hms.1 (qM_at hms (i := 3) (by omega)) rfl ?_
    iterate 2 refine qB_one rfl rfl ?_
    refine q_getR (b := b) hms.1 (qM_at hms (i := 0) (by omega)) rfl ?_
    iterate 1 refine qB_one rfl rfl ?_
    refine q_ialV (i := 0) (hms.2.1 0 (by omega)) (by show 0 < 6; omega) (by show (6 : Nat) ≤ 100000; omega) rfl ?_
    iterate 3 refine qB_one rfl rfl ?_
    refine q_iastV (i := j) (hms.2.1 3 (by omega)) (by show j < 12; omega) (by show (12 : Nat) ≤ 100000; omega) ?_
    generalize hM : um (um (um (um (um (um m (b + 2) j _) (b + 1) j _) (b + 4) j _) (b + 5) j _) (b + 6) j _) (b + 3) j _ = M
    have hMV : qMV S M a b L nb ns np j 0 0 ws := by
      rw [← hM]
      exact qMV_um (qMV_um (qMV_um (qMV_um (qMV_um (qMV_um h (by omega) (by omega) (by omega) (by omega) (by omega)) (by omega) (by omega) (by omega) (by omega) (by omega)) (by omega) (by omega) (by omega) (by omega) (by omega)) (by omega) (by omega) (by omega) (by omega) (by omega)) (by omega) (by omega) (by omega) (by omega) (by omega)) (by omega) (by omega) (by omega) (by omega) (by omega)
    have hqM : qS S m S M (fun x => a ≤ x) 0 := by
      rw [← hM]
      refine qS_m fun x hx => ?_
      rw [um_f (by omega), um_f (by omega), um_f (by omega), um_f (by omega), um_f (by omega), um_f (by omega)]
    have g2 : qNum M (b + 2) j 1 2 := ⟨1 + x1, by omega, by omega, by
      rw [← hM, um_a (by omega), um_a (by omega), um_a (by omega), um_a (by omega), um_a (by omega), um_eq, show qcl K (1 + j) &&& Int32.ofInt 1 = n32 x1 from ex1]
      exact n32_add 1 x1⟩
    have g4 : qNum M (b + 4) j 1 16 := ⟨1 + x2, by omega, by omega, by
      rw [← hM, um_a (by omega), um_a (by omega), um_a (by omega), um_eq, show ((qcl K (1 + j)).toUInt32 >>> ((Int32.ofInt 1).toUInt32 &&& Int32.toUInt32 31)).toInt32 &&& Int32.ofInt 15 = n32 x2 from ex2]
      exact n32_add 1 x2⟩
    have g5 : qNum M (b + 5) j 0 20 := ⟨x3 % 21, Nat.zero_le _, by omega, by
      rw [← hM, um_a (by omega), um_a (by omega), um_eq]⟩
    have hM1 : qMV S M a b L nb ns np (j + 1) 0 0 ws := ⟨hMV.1, hMV.2.1, hMV.2.2.1, hMV.2.2.2.1, hMV.2.2.2.2.1, fun q hq => by
      by_cases hqj : q < j
      · exact hMV.2.2.2.2.2.1 q hqj
      · have : q = j := by omega
        subst this
        exact ⟨g2, g4, g5⟩, hMV.2.2.2.2.2.2⟩
    refine qB_one (ls' := [(4, .int (n32 (j + 1))), (5, .int (qcl K (1 + j))), (0, .ref 1000000), (1, .ref a)]) (st' := []) rfl (by rw [show n32 (j + 1) = n32 j + n32 1 from (n32_add j 1).symm]; rfl) ?_
    refine qB_go (qL_ls km178 k178_1 (qL_mono (ih (j + 1) M (by omega) hM1) ?_) rfl)
    rintro v1 σ1 ⟨rfl, S', m', ws', rfl, y1, y2, y3⟩
    exact ⟨rfl, S', m', ws', rfl, y1, hqM.tr y2 (fun _ _ q => q) (fun _ _ q => q) (by omega), y3⟩
theorem qc178 {S : List XC} {m : XM} (h1 : 1 ≤ K.1) (h2 : K.1 ≤ 100000) (hG : qG S) (hN : S.length < 800000) : qM K (d + 6) 178 [.ref 1000000] (S, e, w, m) (fun r σ' => r = some (.ref S.length) ∧ ∃ S' m' ws nb ns np, σ' = (S', e, w, m') ∧ qMV S' m' S.length (S.length + 1) S'.length nb ns np nb ns np ws ∧ qS S m S' m' (fun _ => False) 40 ∧ qG S') := by
  refine qL_at km178 k178_0 ?_
  refine q_new (c := 11) (by decide) (qfresh hG (by omega) rfl (by show (xok S.length (Value.ref 1000000) && true) = true; rw [xokF (Nat.le_refl _)]; rfl)) ?_
  show qB K (d + 6) 178 8 _ [(0, .ref 1000000)] _ (S ++ [((11, 24, List.replicate 24 none) : XC)], e, w, _) _
  have q1 : qS S m (S ++ [((11, 24, List.replicate 24 none) : XC)]) (uz m S.length) (fun _ => False) 1 := qS_push (by omega) (fun q hq => (List.mem_replicate.mp hq).2) (fun x hx => uz_ne (by omega))
  have hl1 : (S ++ [((11, 24, List.replicate 24 none) : XC)]).length = S.length + 1 := by rw [List.length_append]; rfl
  iterate 1 refine qB_one rfl rfl ?_
  refine qB_ip km173 (Nat.le_of_ble_eq_true rfl) (qrecv (ap_end (x := (11, 24, List.replicate 24 none))) (by decide)) (Nat.le_of_ble_eq_true rfl) (Nat.le_of_ble_eq_true rfl) (qc173 (d := d + 2) (b := S.length + 1) (ap_end (x := (11, 24, List.replicate 24 none))) hl1 (q1.2.2.2.1 hG) (by omega)) ?_
  rintro v1 σ1 ⟨rfl, S1, m1, rfl, hms, hl, q2⟩
  refine ⟨Or.inr ⟨by show (xok _ (Value.ref 1000000) && true) = true; rw [xokF (Nat.le_refl _)]; rfl, by show (xok _ (Value.ref S.length) && true) = true; rw [xokR (show S.length < List.length _ by rw [hl1]; omega)]; rfl⟩, ?_⟩
  have G1 := q2.2.2.2.1 (q1.2.2.2.1 hG)
  have hq12 : qS S m S1 m1 (fun _ => False) 17 := q1.tr q2 (fun _ _ q => q) (fun b hb q => by omega) (Nat.le_refl _)
  generalize hA : S.length = a at hms hl q1 q2 hl1 ⊢
  iterate 3 refine qB_one rfl rfl ?_
  refine qB_is km177 (Nat.le_of_ble_eq_true rfl) rfl (Nat.le_of_ble_eq_true rfl) (Nat.le_of_ble_eq_true rfl) (qc177 (k := 0) h1 h2 (by show S1.length ≤ 1000000; omega) (by omega)) ?_
  rintro v1 σ1 ⟨rfl, rfl⟩
  refine ⟨Or.inl rfl, ?_⟩
  obtain ⟨x0, hx0, ex0⟩ := qAnd (qcl K 0) (k := 7) (by omega)
  obtain ⟨x1, hx1, ex1⟩ := qAnd ((qcl K 0).toUInt32 >>> ((Int32.ofInt 3).toUInt32 &&& Int32.toUInt32 31)).toInt32 (k := 63) (by omega)
  obtain ⟨x2, hx2, ex2⟩ := qAnd ((qcl K 0).toUInt32 >>> ((Int32.ofInt 9).toUInt32 &&& Int32.toUInt32 31)).toInt32 (k := 7) (by omega)
  obtain ⟨x3, hx3, ex3⟩ := qAnd ((qcl K 0).toUInt32 >>> ((Int32.ofInt 12).toUInt32 &&& Int32.toUInt32 31)).toInt32 (k := 15) (by omega)
  obtain ⟨x4, hx4, ex4⟩ := qAnd ((qcl K 0).toUInt32 >>> ((Int32.ofInt 16).toUInt32 &&& Int32.toUInt32 31)).toInt32 (k := 31) (by omega)
  obtain ⟨x5, hx5, ex5⟩ := qAnd ((qcl K 0).toUInt32 >>> ((Int32.ofInt 21).toUInt32 &&& Int32.toUInt32 31)).toInt32 (k := 31) (by omega)
  obtain ⟨x6, hx6, ex6⟩ := qAnd ((qcl K 0).toUInt32 >>> ((Int32.ofInt 26).toUInt32 &&& Int32.toUInt32 31)).toInt32 (k := 3) (by omega)
  obtain ⟨x7, hx7, ex7⟩ := qAnd ((qcl K 0).toUInt32 >>> ((Int32.ofInt 28).toUInt32 &&& Int32.toUInt32 31)).toInt32 (k := 1) (by omega)
  obtain ⟨x8, hx8, ex8⟩ := qAnd ((qcl K 0).toUInt32 >>> ((Int32.ofInt 29).toUInt32 &&& Int32.toUInt32 31)).toInt32 (k := 3) (by omega)
  have hal := ap_lt hms.1
  iterate 2 refine qB_one rfl rfl ?_
  refine q_narrV (t := .int) (n := 6) (Or.inl rfl) (by omega) (qfresh G1 (by omega) rfl (by show (true && (xok S1.length (Value.ref a) && (xok S1.length (Value.ref 1000000) && true))) = true; rw [xokR hal, xokF (Nat.le_refl _)]; rfl)) ?_
  have hi0 : (S1 ++ [(xkind .int, 6, [])])[S1.length]? = some (20, 6, []) := ap_end
  iterate 7 refine qB_one rfl rfl ?_
  refine q_iastV (i := 0) hi0 (by omega) (by omega) ?_
  iterate 7 refine qB_one rfl rfl ?_
  refine q_iastV (i := 1) hi0 (by omega) (by omega) ?_
  iterate 9 refine qB_one rfl rfl ?_
  refine q_iastV (i := 2) hi0 (by omega) (by omega) ?_
  iterate 7 refine qB_one rfl rfl ?_
  refine q_iastV (i := 3) hi0 (by omega) (by omega) ?_
  iterate 9 refine qB_one rfl rfl ?_
  refine q_iastV (i := 4) hi0 (by omega) (by omega) ?_
  iterate 7 refine qB_one rfl rfl ?_
  refine q_iastV (i := 5) hi0 (by omega) (by omega) ?_
  generalize hM0 : um (um (um (um (um (um (uz m1 S1.length) S1.length 0 _) S1.length 1 _) S1.length 2 _) S1.length 3 _) S1.length 4 _) S1.length 5 _ = M0
  have hms2 : qMS (S1 ++ [(xkind .int, 6, [])]) a (a + 1) (List.replicate 6 none) := hms.mv (E := fun _ => False) (qS_push (m := m1) (m' := m1) (by omega) (fun q hq => by cases hq) (fun _ _ => rfl)) (fun _ q => q.elim)
  iterate 4 refine qB_one rfl rfl ?_
  refine q_getR (b := a + 1) hms2.1 (qM_at hms2 (i := 0) (by omega)) rfl ?_
  iterate 2 refine qB_one rfl rfl ?_
  refine q_copyN (n := 6) (i := 0) (j := 0) (xsrc_at hi0 (Or.inl rfl)) (hms2.2.1 0 (by omega)) (Or.inl rfl) (by omega) (by omega) (by decide) (by omega) (by decide) (Nat.le_of_ble_eq_true rfl) ?_
  iterate 8 refine qB_one rfl rfl ?_
  refine q_putI hms2.1 rfl (Or.inl rfl) ?_
  iterate 8 refine qB_one rfl rfl ?_
  refine q_putI hms2.1 rfl (Or.inl rfl) ?_
  iterate 7 refine qB_one rfl rfl ?_
  refine q_rem (A := x8) (B := 3) ex8 rfl (by omega) (by omega) (by omega) ?_
  refine q_putI hms2.1 rfl (Or.inl rfl) ?_
  iterate 2 refine qB_one rfl rfl ?_
  generalize hM : um (um (um (ucp M0 (a + 1 + 0) 0 6 _ 0) a (368 % 32) _) a (369 % 32) _) a (370 % 32) _ = M
  have hget : ∀ i, i < 6 → M (a + 1) i = M0 S1.length i := fun i hi => by
    rw [← hM, um_a (by omega), um_a (by omega), um_a (by omega), show a + 1 + 0 = a + 1 from rfl, ucp_at, if_pos (by omega)]; rfl
  have hMV : qMV (S1 ++ [(xkind .int, 6, [])]) M a (a + 1) (S1 ++ [((xkind .int, 6, []) : XC)]).length (2 + x6) (1 + x7) (x8 % 3) 0 0 0 (List.replicate 6 none) := by
    refine ⟨hms2, fun i hi => ?_, ⟨?_, by omega, by omega⟩, ⟨?_, by omega, by omega⟩, ⟨?_, by omega⟩, fun i hi => absurd hi (Nat.not_lt_zero _), fun i hi => absurd hi (Nat.not_lt_zero _), fun i hi => absurd hi (Nat.not_lt_zero _)⟩
    · match i, hi with
      | 0, _ => exact ⟨1 + x0, by show 1 ≤ 1 + x0; omega, by show 1 + x0 ≤ 8; omega, by
          rw [hget 0 (by omega), ← hM0, um_k (by omega), um_k (by omega), um_k (by omega), um_k (by omega), um_k (by omega), um_eq, show qcl K 0 &&& Int32.ofInt 7 = n32 x0 from ex0]
          exact n32_add 1 x0⟩
      | 1, _ => exact ⟨x1, Nat.zero_le _, hx1, by
          rw [hget 1 (by omega), ← hM0, um_k (by omega), um_k (by omega), um_k (by omega), um_k (by omega), um_eq]
          exact ex1⟩
      | 2, _ => exact ⟨1 + x2, by show 1 ≤ 1 + x2; omega, by show 1 + x2 ≤ 8; omega, by
          rw [hget 2 (by omega), ← hM0, um_k (by omega), um_k (by omega), um_k (by omega), um_eq, show ((qcl K 0).toUInt32 >>> ((Int32.ofInt 9).toUInt32 &&& Int32.toUInt32 31)).toInt32 &&& Int32.ofInt 7 = n32 x2 from ex2]
          exact n32_add 1 x2⟩
      | 3, _ => exact ⟨x3, Nat.zero_le _, hx3, by
          rw [hget 3 (by omega), ← hM0, um_k (by omega), um_k (by omega), um_eq]
          exact ex3⟩
      | 4, _ => exact ⟨1 + x4, by show 1 ≤ 1 + x4; omega, by show 1 + x4 ≤ 32; omega, by
          rw [hget 4 (by omega), ← hM0, um_k (by omega), um_eq, show ((qcl K 0).toUInt32 >>> ((Int32.ofInt 16).toUInt32 &&& Int32.toUInt32 31)).toInt32 &&& Int32.ofInt 31 = n32 x4 from ex4]
          exact n32_add 1 x4⟩
      | 5, _ => exact ⟨x5, Nat.zero_le _, hx5, by
          rw [hget 5 (by omega), ← hM0, um_eq]
          exact ex5⟩
      | i + 6, hi => exact absurd hi (by omega)
    · rw [← hM, um_k (by decide), um_k (by decide)]
      show um _ a 16 _ a 16 = _
      rw [um_eq, show ((qcl K 0).toUInt32 >>> ((Int32.ofInt 26).toUInt32 &&& Int32.toUInt32 31)).toInt32 &&& Int32.ofInt 3 = n32 x6 from ex6]
      exact n32_add 2 x6
    · rw [← hM, um_k (by decide)]
      show um _ a 17 _ a 17 = _
      rw [um_eq, show ((qcl K 0).toUInt32 >>> ((Int32.ofInt 28).toUInt32 &&& Int32.toUInt32 31)).toInt32 &&& Int32.ofInt 1 = n32 x7 from ex7]
      exact n32_add 1 x7
    · rw [← hM]
      exact um_eq _ _ _ _
  have q3 : qS S1 m1 (S1 ++ [(xkind .int, 6, [])]) M (fun x => a ≤ x) 1 := by
    have z1 : qS S1 m1 (S1 ++ [(xkind .int, 6, [])]) M0 (fun _ => False) 1 := qS_push (by omega) (fun q hq => by cases hq) (fun x hx => by
      rw [← hM0, um_f (by omega), um_f (by omega), um_f (by omega), um_f (by omega), um_f (by omega), um_f (by omega), uz_ne (by omega)])
    have z2 : qS (S1 ++ [(xkind .int, 6, [])]) M0 (S1 ++ [(xkind .int, 6, [])]) M (fun x => a ≤ x) 0 := qS_m fun x hx => by
      rw [← hM, um_f (by omega), um_f (by omega), um_f (by omega), ucp_ne (by omega)]
    exact z1.tr z2 (fun _ _ q => q.elim) (fun _ _ q => q) (Nat.le_refl _)
  have hl2 : (S1 ++ [((xkind .int, 6, []) : XC)]).length = a + 18 := by rw [List.length_append, hl]; rfl
  refine qB_gow (qL_ls km178 k178_1 (qL_mono (qw178_1 (d := d) h1 h2 (Nat.le_refl _) (q3.2.2.2.1 G1) (by rw [hl2]; omega) (2 + x6) 0 M (Nat.zero_add _) hMV) ?_) rfl)
  rintro v1 σ1 ⟨rfl, S', m', ws', rfl, y1, y2, y3⟩
  exact ⟨rfl, S', m', ws', _, _, _, rfl, y1, (hq12.tr (E := fun x => a ≤ x) (c := 18) q3 (fun _ _ q => q.elim) (fun _ _ q => q) (Nat.le_refl _)).tr y2 (fun b hb q => by omega) (fun b hb q => by omega) (by omega), y3⟩
end QME
