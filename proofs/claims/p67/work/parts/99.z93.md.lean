/-! The script's march: its stands. -/
theorem q_aastV {K : XK} {d y rt : Nat} {is : List Instr} {ls : XL} {r : List Value} {S : List XC} {e : Nat} {w : Nat → Value} {m : XM} {Q : Option Value → XS → Prop} {a n v cv nv ci i : Nat} {rs rv : List (Option Nat)} (hS : S[a]? = some (ci, n, rs)) (hV : S[v]? = some (cv, nv, rv)) (hci : ci = 25 ∧ cv = 8 ∨ ci = 26 ∧ cv = 14) (hi : i < n) (hn : n ≤ 1000) (hl : rs.length = n) (h : qB K d y rt is ls r (S.set a (ci, n, rs.set i (some v)), e, w, m) Q) : qB K d y rt (.aastore :: is) ls (.ref v :: .int (n32 i) :: .ref a :: r) (S, e, w, m) Q := by
  refine q_aast hS hV hci (xin_n hi (by omega)) hl ?_
  rw [show (n32 i).toNatClampNeg = i from ix_n32 (by omega)]; exact h
/-- a byte of a word -/
theorem qab {x : Int32} : 0 ≤ (((Int32.ofInt 97 + (x &&& Int32.ofInt 1)).toUInt32 % 65536).toInt32) ∧ (((Int32.ofInt 97 + (x &&& Int32.ofInt 1)).toUInt32 % 65536).toInt32) ≤ 127 ∧ ((((Int32.ofInt 97 + (x &&& Int32.ofInt 1)).toUInt32 % 65536).toInt32) = n32 97 ∨ (((Int32.ofInt 97 + (x &&& Int32.ofInt 1)).toUInt32 % 65536).toInt32) = n32 98) := by
  obtain ⟨j, hj, e⟩ := qAnd x (k := 1) (by omega)
  rw [show x &&& Int32.ofInt 1 = n32 j from e]
  have : j = 0 ∨ j = 1 := by omega
  rcases this with rfl | rfl <;> decide
theorem qMV_ws {S : List XC} {m : XM} {a b L nb ns np j1 j2 j3 t v : Nat} {l : List Int32} {ws : List (Option Nat)} (h : qMV S m a b L nb ns np j1 j2 j3 ws) (hj : j2 < 6) (h8 : qNum m (b + 8) j2 0 1) (h9 : qNum m (b + 9) j2 0 63) (ht : qTm S m t v l) (g1 : b + 16 ≤ t) (g2 : b + 16 ≤ v) (g3 : t < L) (g4 : v < L) (g5 : 1 ≤ l.length) (g6 : l.length ≤ 4) (g7 : ∀ x ∈ l, x = n32 97 ∨ x = n32 98) :
    qMV (S.set (b + 14) (26, 6, ws.set j2 (some t))) m a b L nb ns np j1 (j2 + 1) j3 (ws.set j2 (some t)) := by
  obtain ⟨⟨s1, s2, s3, s4, s5, s6⟩, h2, h3, h4, h5, h6, h7, h10⟩ := h
  have hq : qS S m (S.set (b + 14) (26, 6, ws.set j2 (some t))) m (fun x => x = b + 14) 0 := qS_set s3 (Or.inl (ap_lt ht.1))
  refine ⟨⟨?_, fun i hi => ?_, ?_, by rw [List.length_set]; exact s4, by rw [List.length_set]; exact s5, s6⟩, h2, h3, h4, h5, h6, fun i hi => ?_, h10⟩
  · rw [List.getElem?_set_ne (by omega)]; exact s1
  · rw [List.getElem?_set_ne (by omega)]; exact s2 i hi
  · rw [List.getElem?_set_self (ap_lt s3)]
  · by_cases q : i < j2
    · obtain ⟨z1, z2, t', v', l', w1, w2, w3, w4, w5⟩ := h7 i q
      exact ⟨z1, z2, t', v', l', by rw [List.getElem?_set_ne (by omega)]; exact w1, w2.mv hq (by omega) (by omega), w3, w4, w5⟩
    · have : i = j2 := by omega
      subst this
      exact ⟨h8, h9, t, v, l, by rw [List.getElem?_set_self (by omega)], ht.mv hq (by omega) (by omega), g1, g2, g3, g4, g5, g6, g7⟩
section QMD
variable {K : XK} {d : Nat} {e : Nat} {w : Nat → Value} {Q : Option Value → XS → Prop}
/-- a word's letters -/
theorem qw178_6 {a p x : Nat} {dd k4 : Int32} (hx : x ≤ 3) (hd : (dd.toUInt32 >>> ((Int32.ofInt 7).toUInt32 &&& Int32.toUInt32 31)).toInt32 &&& Int32.ofInt 3 = n32 x) : ∀ (i j : Nat) (S : List XC) (m : XM) (v cap : Nat) (l : List Int32), j + i = x + 1 → l.length = j → (∀ y ∈ l, y = n32 97 ∨ y = n32 98) → qSB S m p v cap l → p ≤ v → a < S.length → qG S → S.length + i < 900000 →
    (∀ (S' : List XC) (m' : XM) (v' cap' : Nat) (l' : List Int32), l'.length = x + 1 → (∀ y ∈ l', y = n32 97 ∨ y = n32 98) → qSB S' m' p v' cap' l' → p ≤ v' → qS S m S' m' (fun b => p ≤ b) i → qL K (d + 6) 178 8 [(0, .ref 1000000), (1, .ref a), (4, .int k4), (6, .ref p)] [] (S', e, w, m') Q) →
    qL K (d + 6) 178 6 [(0, .ref 1000000), (1, .ref a), (4, .int k4), (5, .int dd), (6, .ref p), (7, .int (n32 j))] [] (S, e, w, m) Q := by
  intro i
  induction i with
  | zero =>
    intro j S m v cap l hj hl hb h hpv ha hG hN cont
    refine qL_at km178 k178_6 ?_
    iterate 6 refine qB_one rfl rfl ?_
    refine qB_icT ?_ ?_
    · show (dd.toUInt32 >>> ((Int32.ofInt 7).toUInt32 &&& Int32.toUInt32 31)).toInt32 &&& Int32.ofInt 3 < n32 j
      rw [hd]
      exact (n32_lt (by omega) (by omega)).mpr (by omega)
    exact qL_ls km178 k178_8 (cont S m v cap l (by omega) hb h hpv qS.rf) rfl
  | succ i ih =>
    intro j S m v cap l hj hl hb h hpv ha hG hN cont
    have hpl := ap_lt h.1
    refine qL_at km178 k178_6 ?_
    iterate 6 refine qB_one rfl rfl ?_
    refine qB_icF (fun q => ?_) ?_
    · have q1 : (dd.toUInt32 >>> ((Int32.ofInt 7).toUInt32 &&& Int32.toUInt32 31)).toInt32 &&& Int32.ofInt 3 < n32 j := q
      rw [hd] at q1
      have := (n32_lt (by omega) (by omega)).mp q1
      omega
    refine qB_gow (qL_at km178 k178_7 ?_)
    show qB K (d + 6) 178 8 _ [(0, .ref 1000000), (1, .ref a), (4, .int k4), (5, .int dd), (6, .ref p), (7, .int (n32 j))] [] _ _
    iterate 11 refine qB_one rfl rfl ?_
    refine qB_iv km191 (Nat.le_of_ble_eq_true rfl) (qrecv h.1 (by decide)) (Nat.le_of_ble_eq_true rfl) (Nat.le_of_ble_eq_true rfl) (qc191 h hG (by show S.length < 1000000; omega) (by omega) ⟨qab.1, qab.2.1⟩) ?_
    rintro v1 σ1 ⟨rfl, S', m', v', cap', rfl, h2, hq, hv'⟩
    refine ⟨Or.inr ⟨by show (xok S.length (Value.ref 1000000) && (xok S.length (Value.ref a) && (true && (true && (xok S.length (Value.ref p) && (true && true)))))) = true; rw [xokR ha, xokR hpl, xokF (Nat.le_refl _)]; rfl, rfl⟩, ?_⟩
    have hpv' : p ≤ v' := by
      rcases hv' with z | z
      · rw [z]; exact hpv
      · omega
    iterate 1 refine qB_one rfl rfl ?_
    refine qB_one (ls' := [(7, .int (n32 (j + 1))), (0, .ref 1000000), (1, .ref a), (4, .int k4), (5, .int dd), (6, .ref p)]) (st' := []) rfl (by rw [← n32_add]; rfl) ?_
    refine qB_go (qL_ls km178 k178_6 (ih (j + 1) S' m' v' cap' _ (by omega) ?_ ?_ h2 hpv' (by have := hq.1; omega) (hq.2.2.2.1 hG) (by have := hq.2.1; omega) ?_) rfl)
    · rw [List.length_append, hl]; rfl
    · intro y hy
      rcases List.mem_append.mp hy with hy | hy
      · exact hb y hy
      · rw [List.mem_singleton] at hy
        subst hy
        exact qab.2.2
    · intro S2 m2 v2 cap2 l2 z1 z2 z3 z4 z5
      exact cont S2 m2 v2 cap2 l2 z1 z2 z3 z4 (hq.tr z5 (fun b _ q => by rcases q with q | q <;> omega) (fun b _ q => q) (by omega))
/-- the stands -/
theorem qw178_4 {a b nb ns np : Nat} (h1 : 1 ≤ K.1) (h2 : K.1 ≤ 100000) : ∀ (i j : Nat) (S : List XC) (m : XM) (L : Nat) (ws : List (Option Nat)), j + i = ns → qMV S m a b L nb ns np nb j 0 ws → L ≤ S.length → qG S → S.length + 10 * i < 890000 →
    qL K (d + 6) 178 4 [(0, .ref 1000000), (1, .ref a), (4, .int (n32 j))] [] (S, e, w, m) (qPM S m e w a b nb ns np (10 * i)) := by
  intro i
  induction i with
  | zero =>
    intro j S m L ws hj h hL hG hN
    have hj' : j = ns := by omega
    subst hj'
    have hms := h.1
    refine qL_at km178 k178_4 ?_
    iterate 2 refine qB_one rfl rfl ?_
    refine q_getV hms.1 h.2.2.2.1.1 rfl ?_
    refine qB_icT (Int32.le_refl _) ?_
    refine qL_at km178 k178_9 ?_
    iterate 2 refine qB_one rfl rfl ?_
    exact qB_gow (qL_ls km178 k178_10 (qw178_10 (d := d + 5) h1 h2 (by omega) hL hG np 0 m (Nat.zero_add _) h) rfl)
  | succ i ih =>
    intro j S m L ws hj h hL hG hN
    have hms := h.1
    have hns := h.2.2.2.1
    have hab := hms.2.2.2.2.2
    have hal := ap_lt hms.1
    have hbl := hms.2.2.2.2.1
    refine qL_at km178 k178_4 ?_
    iterate 2 refine qB_one rfl rfl ?_
    refine q_getV hms.1 hns.1 rfl ?_
    refine qB_icF (fun q => ?_) ?_
    · have := (n32_le (a := ns) (b := j) (by omega) (by omega)).mp q
      omega
    refine qB_gow (qL_at km178 k178_5 ?_)
    show qB K (d + 6) 178 8 _ [(0, .ref 1000000), (1, .ref a), (4, .int (n32 j))] [] _ _
    iterate 3 refine qB_one rfl rfl ?_
    refine q_add (a := 6) (b := j) ?_
    refine qB_is km177 (Nat.le_of_ble_eq_true rfl) rfl (Nat.le_of_ble_eq_true rfl) (Nat.le_of_ble_eq_true rfl) (qc177 (k := 6 + j) h1 h2 (by show S.length ≤ 1000000; omega) (by omega)) ?_
    rintro v1 σ1 ⟨rfl, rfl⟩
    refine ⟨Or.inl rfl, ?_⟩
    iterate 2 refine qB_one rfl rfl ?_
    refine q_getR hms.1 (qM_at hms (i := 8) (by omega)) rfl ?_
    iterate 4 refine qB_one rfl rfl ?_
    refine q_iastV (i := j) (hms.2.1 8 (by omega)) (by show j < 6; omega) (by show (6 : Nat) ≤ 100000; omega) ?_
    iterate 1 refine qB_one rfl rfl ?_
    refine q_getR hms.1 (qM_at hms (i := 9) (by omega)) rfl ?_
    iterate 6 refine qB_one rfl rfl ?_
    refine q_iastV (i := j) (hms.2.1 9 (by omega)) (by show j < 6; omega) (by show (6 : Nat) ≤ 100000; omega) ?_
    iterate 1 refine qB_one rfl rfl ?_
    refine q_getR hms.1 (qM_at hms (i := 10) (by omega)) rfl ?_
    iterate 2 refine qB_one rfl rfl ?_
    refine q_iastV (i := j) (hms.2.1 10 (by omega)) (by show j < 6; omega) (by show (6 : Nat) ≤ 100000; omega) ?_
    obtain ⟨x1, hx1, ex1⟩ := qAnd (qcl K (6 + j)) (k := 1) (by omega)
    obtain ⟨x2, hx2, ex2⟩ := qAnd ((qcl K (6 + j)).toUInt32 >>> ((Int32.ofInt 1).toUInt32 &&& Int32.toUInt32 31)).toInt32 (k := 63) (by omega)
    obtain ⟨x3, hx3, ex3⟩ := qAnd ((qcl K (6 + j)).toUInt32 >>> ((Int32.ofInt 7).toUInt32 &&& Int32.toUInt32 31)).toInt32 (k := 3) (by omega)
    generalize hM : um (um (um m (b + 8) j _) (b + 9) j _) (b + 10) j _ = M
    have hMV : qMV S M a b L nb ns np nb j 0 ws := by
      rw [← hM]
      exact qMV_um (qMV_um (qMV_um h (by omega) (by omega) (by omega) (by omega) (by omega)) (by omega) (by omega) (by omega) (by omega) (by omega)) (by omega) (by omega) (by omega) (by omega) (by omega)
    have h8 : qNum M (b + 8) j 0 1 := ⟨x1, Nat.zero_le _, hx1, by rw [← hM, um_a (by omega), um_a (by omega), um_eq]; exact ex1⟩
    have h9 : qNum M (b + 9) j 0 63 := ⟨x2, Nat.zero_le _, hx2, by rw [← hM, um_a (by omega), um_eq]; exact ex2⟩
    have hqM : qS S m S M (fun x => a ≤ x) 0 := by
      rw [← hM]
      exact ((qS_umA (by omega)).tr (E := fun x => a ≤ x) (c := 0) (qS_umA (by omega)) (fun _ _ q => q) (fun _ _ q => q) (Nat.le_refl _)).tr (qS_umA (by omega)) (fun _ _ q => q) (fun _ _ q => q) (Nat.le_refl _)
    refine q_new (c := 12) (by decide) (qfresh hG (by omega) rfl (by show (true && (xok S.length (Value.ref 1000000) && (xok S.length (Value.ref a) && (true && true)))) = true; rw [xokR hal, xokF (Nat.le_refl _)]; rfl)) ?_
    show qB K (d + 6) 178 8 _ [(5, .int (qcl K (6 + j))), (0, .ref 1000000), (1, .ref a), (4, .int (n32 j))] _ (S ++ [((12, 4, [none, none, none, none]) : XC)], e, w, _) _
    have q1 : qS S M (S ++ [((12, 4, [none, none, none, none]) : XC)]) (uz M S.length) (fun _ => False) 1 := qS_push (by omega) (fun q hq => by simp at hq; exact hq) (fun x hx => uz_ne (by omega))
    have hNB : qNB (S ++ [((12, 4, [none, none, none, none]) : XC)]) (uz M S.length) S.length := ⟨ap_end, uz_at, uz_at⟩
    have hl1 : (S ++ [((12, 4, [none, none, none, none]) : XC)]).length = S.length + 1 := by rw [List.length_append]; rfl
    iterate 1 refine qB_one rfl rfl ?_
    refine qB_ip km187 (Nat.le_of_ble_eq_true rfl) (qrecv hNB.1 (by decide)) (Nat.le_of_ble_eq_true rfl) (Nat.le_of_ble_eq_true rfl) (qc187 hNB (q1.2.2.2.1 hG) (by rw [hl1]; omega)) ?_
    rintro v1 σ1 ⟨rfl, S2, m2, rfl, hB2, q2⟩
    refine ⟨Or.inr ⟨by show (true && (xok _ (Value.ref 1000000) && (xok _ (Value.ref a) && (true && true)))) = true; rw [xokF (Nat.le_refl _), xokR (show a < List.length _ by rw [hl1]; omega)]; rfl, by show (xok _ (Value.ref S.length) && true) = true; rw [xokR (show S.length < List.length _ by rw [hl1]; omega)]; rfl⟩, ?_⟩
    rw [hl1] at hB2
    iterate 3 refine qB_one rfl rfl ?_
    have l2 := q2.1
    rw [hl1] at l2
    have l2' := q2.2.1
    rw [hl1] at l2'
    refine qB_gow (qL_ls km178 k178_6 (qw178_6 (a := a) (p := S.length) (x := x3) (dd := qcl K (6 + j)) (k4 := n32 j) hx3 ex3 (x3 + 1) 0 S2 m2 (S.length + 1) 16 [] (Nat.zero_add _) rfl (fun y hy => by cases hy) hB2 (by omega) (by omega) (q2.2.2.2.1 (q1.2.2.2.1 hG)) (by omega) ?_) rfl)
    intro S3 m3 v3 cap3 l3 z1 z2 hB3 z4 q3
    have l3a := q3.1
    have l3b := q3.2.1
    have G3 := q3.2.2.2.1 (q2.2.2.2.1 (q1.2.2.2.1 hG))
    have q13 : qS S M S3 m3 (fun x => S.length ≤ x) 6 := (q1.tr (E := fun x => S.length ≤ x) (c := 2) q2 (fun _ _ q => q.elim) (fun b _ q => by omega) (Nat.le_refl _)).tr q3 (fun _ _ q => q) (fun _ _ q => q) (by omega)
    have hMV3 := hMV.mv q13 (fun x q => ⟨by omega, by omega, by omega⟩)
    have hms3 := hMV3.1
    refine qL_at km178 k178_8 ?_
    show qB K (d + 6) 178 8 _ [(0, .ref 1000000), (1, .ref a), (4, .int (n32 j)), (6, .ref S.length)] [] _ _
    iterate 1 refine qB_one rfl rfl ?_
    refine q_getR hms3.1 (qM_at hms3 (i := 14) (by omega)) rfl ?_
    iterate 2 refine qB_one rfl rfl ?_
    refine qB_iv km194 (Nat.le_of_ble_eq_true rfl) (qrecv hB3.1 (by decide)) (Nat.le_of_ble_eq_true rfl) (Nat.le_of_ble_eq_true rfl) (qc194 hB3 G3 (by omega)) ?_
    rintro v1 σ1 ⟨rfl, S4, m4, rfl, hT, q4⟩
    refine ⟨Or.inr ⟨by show (xok S3.length (Value.ref 1000000) && (xok S3.length (Value.ref a) && (true && (xok S3.length (Value.ref S.length) && true)))) = true; rw [xokF (Nat.le_refl _), xokR (by omega), xokR (ap_lt hB3.1)]; rfl, by show (true && (xok S3.length (Value.ref (b + 14)) && true)) = true; rw [xokR (by omega)]; rfl⟩, ?_⟩
    have l4a := q4.1
    have l4b := q4.2.1
    have q14 : qS S M S4 m4 (fun x => S.length ≤ x) 8 := q13.tr q4 (fun _ _ q => q) (fun _ _ q => q.elim) (Nat.le_refl _)
    have hMV4 := (hMV.mv q14 (fun x q => ⟨by omega, by omega, by omega⟩)).up (L' := S4.length) (by omega)
    have hms4 := hMV4.1
    have h84 : qNum m4 (b + 8) j 0 1 := qNum_eq h8 (q14.2.2.2.2 (b + 8) (by omega) (by omega)).2
    have h94 : qNum m4 (b + 9) j 0 63 := qNum_eq h9 (q14.2.2.2.2 (b + 9) (by omega) (by omega)).2
    refine q_aastV (i := j) hms4.2.2.1 hT.1 (Or.inr ⟨rfl, rfl⟩) (by omega) (by omega) hms4.2.2.2.1 ?_
    have hnew := qMV_ws hMV4 (by omega) h84 h94 hT (by omega) (by omega) (ap_lt hT.1) (ap_lt hT.2.1) (by omega) (by omega) z2
    refine qB_one (ls' := [(4, .int (n32 (j + 1))), (0, .ref 1000000), (1, .ref a), (6, .ref S.length)]) (st' := []) rfl (by rw [← n32_add]; rfl) ?_
    have q5 : qS S4 m4 (S4.set (b + 14) (26, 6, ws.set j (some S3.length))) m4 (fun x => a ≤ x) 0 := (qS_set hms4.2.2.1 (Or.inl (ap_lt hT.1))).up (fun _ _ q => by omega) (Nat.le_refl _)
    refine qB_go (qL_ls km178 k178_4 (qL_mono (ih (j + 1) _ m4 S4.length _ (by omega) hnew (by rw [List.length_set]; exact Nat.le_refl _) (q5.2.2.2.1 (q4.2.2.2.1 G3)) (by rw [List.length_set]; omega)) ?_) rfl)
    rintro v1 σ1 ⟨rfl, S', m', ws', rfl, y1, y2, y3⟩
    exact ⟨rfl, S', m', ws', rfl, y1, ((hqM.tr (E := fun x => a ≤ x) (c := 8) q14 (fun _ _ q => q) (fun _ _ q => by omega) (Nat.le_refl _)).tr (E := fun x => a ≤ x) (c := 8) q5 (fun _ _ q => q) (fun _ _ q => q) (Nat.le_refl _)).tr y2 (fun _ _ q => q) (fun _ _ q => q) (by omega), y3⟩
end QMD
