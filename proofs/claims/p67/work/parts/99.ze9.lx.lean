/-! The whole law, from nothing. -/
theorem neg_mul_toInt {x k : Nat} (hx : x ≤ 999) (hk : k ≤ 12) : (-(n32 x) * n32 k).toInt = -((x : Int) * k) := by
  have hm : x * k ≤ 11988 := by
    have := Nat.mul_le_mul hx hk
    omega
  rw [Int32.neg_mul, n32_mul, Int32.toInt_neg, n32_toInt (by omega)]
  push_cast
  have e : ((x : Int) * k) = ((x * k : Nat) : Int) := by push_cast; rfl
  rw [e]
  apply Int.bmod_eq_of_le <;> omega
/-- what was just loaded is as the law asks -/
theorem LW_load {g : PG} {nb ns np : Nat} (hP : PG0 g) (h6 : g 6 = n32 nb) (h7 : g 7 = n32 ns) (h8 : g 8 = n32 np) (hb : ∀ k, k < nb → qBk g (g 0) k) (n2 : 2 ≤ nb) (n5 : nb ≤ 5) (s2 : ns ≤ 2) (p2 : np ≤ 2) : nBr g = nb ∧ LW g := by
  have e6 : nBr g = nb := by unfold nBr; rw [h6, ix_n32 (by omega)]
  have e7 : nSt g = ns := by unfold nSt; rw [h7, ix_n32 (by omega)]
  have e8 : nPl g = np := by unfold nPl; rw [h8, ix_n32 (by omega)]
  have wf := hP.1.w
  obtain ⟨x0, -, x2, x3⟩ := wf.2.2.2.2.1.1
  refine ⟨e6, ?_, ?_, by omega, by omega, by omega⟩
  · intro b h1 h2
    obtain ⟨-, -, -, -, -, y1⟩ := hb b (by omega)
    obtain ⟨-, -, -, -, -, y2⟩ := hb (b - 1) (by omega)
    rw [y1, y2, x3, neg_mul_toInt x2 (by omega), neg_mul_toInt x2 (by omega), n32_toInt (by omega)]
    obtain ⟨q, rfl⟩ : ∃ q, b = q + 1 := ⟨b - 1, by omega⟩
    rw [Nat.add_sub_cancel]
    push_cast
    rw [Int.mul_add]
    omega
  · intro v hv
    unfold tot
    rw [hP.2.2]
    show _ = _ + 0
    rw [Nat.add_zero]
    refine cnt_congr fun b hb' => ?_
    obtain ⟨x, -, y1, y2, -, -⟩ := hb b (by omega)
    rw [y1, y2]
theorem qCL_CLS {m0 m : XM} {g : PG} (h : qCL m0 g) (si : SI g 0 0) (f : ∀ a, a < 283 → m a = m0 a) : CLS m g none 0 none 0 := by
  obtain ⟨h1, h2, h3, h4, h5, h6, -, -⟩ := h
  have : CLS m0 g none 0 none 0 := ⟨h4, ⟨h1, h2, h3, 0, 0, Nat.le_refl _, si⟩, ⟨0, 0, h5, by omega, h6, by omega, fun x hx => by cases hx⟩, fun x hx => by cases hx⟩
  exact CLS_fr this (Nat.le_refl _) (fun b k hb => by rw [f b (by have := hb.2; omega)])
theorem law_X {K : XK} (h1 : 1 ≤ K.1) (h2 : K.1 ≤ 100000) : qM K (0 + 15) 181 [.ref 1000000] ([], 0, cw0, cm0) (fun r σ' => r = some (.int 1) ∧ σ'.2.1 = 0 ∧ σ'.1.length ≤ 1000 ∧ qsum σ'.1 ≤ 500000) := by
  refine qL_at km181 k181_0 ?_
  show qB K (0 + 15) 181 2 _ [(0, .ref 1000000)] [] _ _
  refine q_new (c := 10) (by decide) (by decide +kernel) ?_
  show qB K (0 + 15) 181 2 _ [(0, .ref 1000000)] [.ref 0] (cS1, 0, cw0, uz cm0 0) _
  iterate 1 refine qB_one rfl rfl ?_
  refine qB_ip km90 (Nat.le_of_ble_eq_true rfl) (by decide +kernel) (Nat.le_of_ble_eq_true rfl) (Nat.le_of_ble_eq_true rfl) (qc90 (d := 2)) ?_
  rintro v1 σ1 ⟨rfl, w1, m1, rfl, hm1⟩
  refine ⟨Or.inr ⟨xaC (xokF (Nat.le_refl _)) xaN, xsC (by decide +kernel) xsN⟩, ?_⟩
  have hS0 : (S0 : List XC).length = 283 := S0_len
  have hz0 : 0 < (S0 : List XC).length := by omega
  have hs0 := S0_sum
  iterate 2 refine qB_one rfl rfl ?_
  refine q_narrI (n := 7) (by omega) (qfresh S0_G (by omega) rfl (xaC (xokR (by omega)) (xaC (xokF (Nat.le_refl _)) xaN))) ?_
  rw [hS0]
  have hl1 : (S0 ++ [((20, 7, []) : XC)]).length = 284 := by rw [List.length_append, hS0]; rfl
  have hG1 : qG (S0 ++ [((20, 7, []) : XC)]) := qG_push S0_G (fun q hq => by cases hq)
  have hq1 : qsum (S0 ++ [((20, 7, []) : XC)]) ≤ 100007 := by rw [qsum_push]; dsimp only; omega
  have hA1 : (S0 ++ [((20, 7, []) : XC)])[283]? = some (20, 7, []) := by rw [← hS0]; exact ap_end
  iterate 2 refine qB_one rfl rfl ?_
  refine qB_is km178 (Nat.le_of_ble_eq_true rfl) rfl (Nat.le_of_ble_eq_true rfl) (Nat.le_of_ble_eq_true rfl) (qc178 (d := 8) h1 h2 hG1 (by omega)) ?_
  rintro v1 σ1 ⟨rfl, S', m2, ws, nb, ns, np, rfl, hV, hq, hG2⟩
  refine ⟨Or.inr ⟨xaC (xokR (show 283 < (S0 ++ [((20, 7, []) : XC)]).length by omega)) (xaC (xokR (show 0 < (S0 ++ [((20, 7, []) : XC)]).length by omega)) (xaC (xokF (Nat.le_refl _)) xaN)), xsN⟩, ?_⟩
  obtain ⟨T', rfl⟩ := qS_split hq
  obtain ⟨-, q2, q3, -, q5⟩ := hq
  obtain ⟨qa, qb⟩ := q5 283 (by omega) (fun z => z)
  obtain ⟨-, qc⟩ := q5 2 (by omega) (fun z => z)
  rw [hA1] at qa
  rw [uz_row] at qb
  rw [uz_ne (by omega)] at qc
  rw [hl1] at hV q2 ⊢
  rw [List.append_assoc] at hV hG2 q2 q3 qa ⊢
  have hTl : ([((20, 7, []) : XC)] ++ T').length ≤ 41 := by
    rw [List.length_append, hS0] at q2; omega
  generalize [((20, 7, []) : XC)] ++ T' = T at hV hG2 q2 q3 qa hTl ⊢
  obtain ⟨wd, hW⟩ := qWd_of hV
  obtain ⟨q, hp, p6, p7, p8, hbk, -, -, -⟩ := qparse hV hW
  have hnb := hV.2.2.1
  have hns := hV.2.2.2.1
  have hnp := hV.2.2.2.2.1
  have hN : (S0 ++ T).length = 283 + T.length := by rw [List.length_append, hS0]
  have hms := hV.1.1
  have hlen : (qtext m2 285 nb np ns wd).length ≤ 600 := by
    have := qtext_len (m := m2) (b := 285) (nb := nb) (np := np) (ns := ns) (wd := wd) hW.1
    omega
  have h0 : PS0 (fun _ => n32 0) 0 := ⟨fun _ _ _ => rfl, fun j hj => absurd hj (Nat.not_lt_zero j)⟩
  have hP0 : qPK m2 283 [] 0 := ⟨by decide, by decide, by rw [qb]; rfl, by rw [qb]; rfl, by rw [qc]; exact hm1, fun i hi => absurd hi (by omega), fun j hj => absurd hj (by show ¬ j < 0 - 20 * 0; omega), fun x hx => by cases hx⟩
  iterate 4 refine qB_one rfl rfl ?_
  refine qB_is km180 (Nat.le_of_ble_eq_true rfl) rfl (Nat.le_of_ble_eq_true rfl) (Nat.le_of_ble_eq_true rfl) (qc180 (d := 4) (mm := 283) hV hW hG2 (by omega) (by omega) qa h0 hP0 hlen hp) ?_
  rintro v1 σ1 ⟨rfl, T2, m0', m3, rfl, g1, g2, hCL, hG3, hT2, hs2⟩
  have hz1 : 0 < (S0 ++ T).length := by omega
  have hal := ap_lt hms
  have hml := ap_lt qa
  refine ⟨Or.inr ⟨xaC (xokR hal) (xaC (xokR hml) (xaC (xokR hz1) (xaC (xokF (Nat.le_refl _)) xaN))), xsN⟩, ?_⟩
  have hA : (S0 ++ (T ++ T2))[284]? = some (11, 24, (List.range 16).map (fun i => some (285 + i)) ++ List.replicate 8 none) := by
    rw [← List.append_assoc]; exact ap_in hms
  have h16 : m3 284 16 = n32 nb := by rw [g2 284 (by omega) hal (by omega)]; exact hnb.1
  iterate 1 refine qB_one rfl rfl ?_
  refine q_getI hA rfl ?_
  refine qB_icT (by show q.1 6 = m3 284 16; rw [h16]; exact p6) ?_
  have hPG := parF_ok h0 hp
  obtain ⟨e6, lw⟩ := LW_load hPG p6 p7 p8 hbk hnb.2.1 hnb.2.2 hns.2.2 hnp.2
  have hC := qCL_CLS hCL hPG.1 g1
  refine qL_at km181 k181_2 ?_
  iterate 2 refine qB_one rfl rfl ?_
  refine qB_gow (qL_ls km181 k181_3 (qw181_3 (d := 0) (a := 284) h1 h2 ?_ 22 0 (T ++ T2) m3 q.1 none 0 none 0 200 rfl hC lw ⟨by rw [h16, e6], hG3, by rw [List.length_append]; omega, by omega, by omega, _, hA⟩ (Nat.zero_le _) (Nat.le_refl _)) rfl)
  intro T3 m4 n hM
  refine ⟨rfl, rfl, ?_, ?_⟩
  · show (S0 ++ T3).length ≤ 1000
    rw [List.length_append, hS0]
    have := hM.2.2.1
    omega
  · show qsum (S0 ++ T3) ≤ 500000
    have := hM.2.2.2.1
    omega
