/-! What holds of every picture at time T, with at most N drops. -/
def SIp (g : PG) (T : Nat) : Prop := ∀ k, k < nPl g → ∃ t o, g (171 + 3 * k) = n32 t ∧ 1 ≤ t ∧ t ≤ 5000 ∧ g (171 + 3 * k + 2) = n32 o ∧ o ≤ 2 ∧ (o ≠ 0 → t ≤ T)
def SIm (g : PG) : Prop := g 12 = n32 (cnt (nPl g) fun k => decide (g (171 + 3 * k + 2) = n32 2))
def SIx (g : PG) (T : Nat) : Prop := ∀ b, b < nBr g → -11000 ≤ (g (15 + 7 * b + 1)).toInt ∧ (g (15 + 7 * b + 1)).toInt ≤ 200 * T
def SId (g : PG) (N : Nat) : Prop := ∃ d, g 13 = n32 d ∧ d ≤ N
def SI (g : PG) (T N : Nat) : Prop := WF g ∧ g 9 = n32 T ∧ SIp g T ∧ SIm g ∧ SIx g T ∧ SId g N
theorem SI.w {g : PG} {T N : Nat} (h : SI g T N) : WF g := h.1
theorem SI.po {g : PG} {T N : Nat} (h : SI g T N) (hT : T ≤ 10000) : PO g := by
  intro k hk ho
  have e8 : nPl (gup g 9 (g 9 + n32 1)) = nPl g := nPl_upd (by omega)
  rw [e8] at hk
  have a6 := h.1.np
  rw [gup_ne (by omega)] at ho
  rw [gup_ne (by omega), gup_eq]
  obtain ⟨t, o, h1, h2, h3, h4, h5, h6⟩ := h.2.2.1 k hk
  rw [h1, h.2.1, n32_add]
  rw [h4] at ho
  have : o ≠ 0 := by rintro rfl; exact ho rfl
  have := h6 this
  intro e
  have := n32_inj (by omega) (by omega) e
  omega
theorem gup_ne' {g : PG} {k j : Nat} {v : Int32} (h : ¬ j = k) : gup g k v j = g j := gup_ne h
theorem strG_at {g : PG} {b j : Nat} {v : Int32} (h : j ≠ 15 + 7 * b + 4) : strG g b v j = g j := gup_ne h
theorem moveG_at {g : PG} {b j : Nat} (h : j < 15 ∨ 15 + 7 * b + 6 < j) : moveG b g j = g j := by
  unfold moveG
  split
  · rw [strG_at (by omega)]
  · rw [gup_ne (by omega), strG_at (by omega), gup_ne (by omega)]
theorem weakG_at {g : PG} {b j : Nat} (w : WF g) (hb : b < nBr g) (h : j < 10 ∨ j = 11 ∨ j = 12 ∨ j = 14 ∨ (99 ≤ j ∧ j < 207)) : weakG b g j = g j := by
  have a2 := w.nb
  unfold weakG
  split
  · exact dropG_at g b (by omega) (by omega) (by omega) (by omega) (by omega) (by omega)
  · rfl
theorem liftG_at {g : PG} {bf : Nat → Int32} {b j : Nat} (w : WF g) (hb : b < nBr g) (h : j < 10 ∨ j = 11 ∨ j = 12 ∨ j = 13 ∨ (99 ≤ j ∧ j < 207)) : liftG bf b g j = g j := by
  have a2 := w.nb
  unfold liftG
  split
  · rfl
  · split
    · split
      · rfl
      · exact pickG_at g b _ (by omega) (by omega) (by omega) (Or.inl (by omega))
    · rfl
theorem weakG_pl {g : PG} {b c : Nat} (w : WF g) (hb : b < nBr g) (hc : c < 12) : weakG b g (15 + 7 * c + 1) = g (15 + 7 * c + 1) := by
  have a2 := w.nb
  unfold weakG
  split
  · exact dropG_at g b (by omega) (by omega) (by omega) (by omega) (by omega) (by omega)
  · rfl
theorem liftG_pl {g : PG} {bf : Nat → Int32} {b c : Nat} (w : WF g) (hb : b < nBr g) (hc : c < 12) : liftG bf b g (15 + 7 * c + 1) = g (15 + 7 * c + 1) := by
  have a2 := w.nb
  unfold liftG
  split
  · rfl
  · split
    · split
      · rfl
      · exact pickG_at g b _ (by omega) (by omega) (by omega) (Or.inl (by omega))
    · rfl
/-- a picture with the same plans, places, counters -/
theorem SI_of {g g' : PG} {T N : Nat} (h : SI g T N) (k : keeps g g') (h9 : g' 9 = g 9) (h12 : g' 12 = g 12) (h13 : g' 13 = g 13) (hp : ∀ k, k < nPl g → g' (171 + 3 * k) = g (171 + 3 * k) ∧ g' (171 + 3 * k + 2) = g (171 + 3 * k + 2)) (hx : ∀ b, b < nBr g → g' (15 + 7 * b + 1) = g (15 + 7 * b + 1)) : SI g' T N := by
  obtain ⟨w, i9, ip, im, ix', id⟩ := h
  refine ⟨k.1, by rw [h9]; exact i9, ?_, ?_, ?_, ?_⟩
  · intro j hj
    rw [k.2.2.2] at hj
    rw [(hp j hj).1, (hp j hj).2]; exact ip j hj
  · unfold SIm
    rw [h12, k.2.2.2, im]
    congr 1
    exact cnt_congr fun j hj => by rw [(hp j hj).2]
  · intro b hb
    rw [k.2.1] at hb
    rw [hx b hb]; exact ix' b hb
  · obtain ⟨d, d1, d2⟩ := id
    exact ⟨d, by rw [h13]; exact d1, d2⟩
theorem SI_plan {g : PG} {T N k : Nat} (h : SI g T N) (hk : k < nPl g) (_hT : T ≤ 10000) : SI (planG k g) T N := by
  have w := h.1
  have a6 := w.np
  have a2 := w.nb
  have kk := WF_planG w hk
  have hb := (w.pa hk).2
  by_cases c : g (171 + 3 * k) = g 9 ∧ g (171 + 3 * k + 2) = n32 0
  · obtain ⟨w, i9, ip, im, ix', id⟩ := h
    obtain ⟨t, o, t1, t2, t3, t4, t5, t6⟩ := ip k hk
    have hT2 : t = T := by
      have := c.1
      rw [t1, i9] at this
      exact n32_inj (by omega) (by omega) this
    have pat : ∀ j, (j < 15 ∨ 99 ≤ j) → j ≠ 11 → j ≠ 12 → j ≠ 171 + 3 * k + 2 → planG k g j = g j := fun j h1 h2 h3 h4 => planG_at w hk h1 h2 h3 h4
    have ppl : ∀ b, b < 12 → planG k g (15 + 7 * b + 1) = g (15 + 7 * b + 1) := by
      intro b hb2
      unfold planG
      rw [if_pos c]
      split
      · unfold swapsG exchG
        rw [gup_ne (by omega), gup_ne (by omega), strG_at (by omega), strG_at (by omega), gup_ne (by omega), gup_ne (by omega)]
      · rw [gup_ne (by omega), gup_ne (by omega)]
    have p13 : planG k g 13 = g 13 := pat 13 (by omega) (by omega) (by omega) (by omega)
    have hout : ∃ o', (o' = 1 ∨ o' = 2) ∧ planG k g (171 + 3 * k + 2) = n32 o' ∧ planG k g 12 = if o' = 2 then g 12 + n32 1 else g 12 := by
      unfold planG
      rw [if_pos c]
      split
      · exact ⟨1, Or.inl rfl, gup_eq _ _ _, by rw [gup_ne (by omega), swapsG_at (by omega) (by omega) (by omega), if_neg (by omega)]⟩
      · exact ⟨2, Or.inr rfl, gup_eq _ _ _, by rw [gup_ne (by omega), gup_eq, if_pos rfl]⟩
    obtain ⟨o', o1, o2, o3⟩ := hout
    refine ⟨kk.1, by rw [pat 9 (by omega) (by omega) (by omega) (by omega)]; exact i9, ?_, ?_, ?_, ?_⟩
    · intro j hj
      rw [kk.2.2.2] at hj
      by_cases e : j = k
      · subst e
        exact ⟨t, o', by rw [pat _ (by omega) (by omega) (by omega) (by omega)]; exact t1, t2, t3, o2, by omega, fun _ => by omega⟩
      · rw [pat (171 + 3 * j) (by omega) (by omega) (by omega) (by omega), pat (171 + 3 * j + 2) (by omega) (by omega) (by omega) (by omega)]
        exact ip j hj
    · unfold SIm
      rw [kk.2.2.2, o3, im]
      have e1 : cnt (nPl g) (fun j => decide (planG k g (171 + 3 * j + 2) = n32 2)) = cnt (nPl g) (fun j => if j = k then decide (o' = 2) else decide (g (171 + 3 * j + 2) = n32 2)) := cnt_congr fun j hj => by
        by_cases e : j = k
        · subst e
          rw [if_pos rfl, o2]
          rcases o1 with rfl | rfl <;> decide
        · rw [if_neg e, pat _ (by omega) (by omega) (by omega) (by omega)]
      have e2 := cnt_chg (n := nPl g) (b := k) (p := fun j => decide (g (171 + 3 * j + 2) = n32 2)) (q := fun j => if j = k then decide (o' = 2) else decide (g (171 + 3 * j + 2) = n32 2)) hk (fun i hi => if_neg hi)
      rw [e1]
      have e3 : decide (g (171 + 3 * k + 2) = n32 2) = false := by rw [c.2]; decide
      simp only [e3, if_true, Bool.false_eq_true, if_false] at e2
      rcases o1 with rfl | rfl
      · rw [if_neg (by omega)]
        simp at e2
        rw [← e2]; simp
      · rw [if_pos rfl, n32_add]
        simp at e2
        rw [← e2]; simp
    · intro b hb2
      rw [kk.2.1] at hb2
      rw [ppl b (by omega)]; exact ix' b hb2
    · obtain ⟨d, d1, d2⟩ := id
      exact ⟨d, by rw [p13]; exact d1, d2⟩
  · have e : planG k g = g := by unfold planG; rw [if_neg c]
    rw [e]; exact h
theorem SI_plans {g : PG} {T N : Nat} (h : SI g T N) (hT : T ≤ 10000) : SI (plansG g) T N := by
  have := itr_inv (P := fun _ x => SI x T N ∧ nPl x = nPl g) (f := planG) (a := g) (n := nPl g) ⟨h, rfl⟩ (fun i x hi hx => ⟨SI_plan hx.1 (by rw [hx.2]; exact hi) hT, by rw [(WF_planG hx.1.1 (by rw [hx.2]; exact hi)).2.2.2]; exact hx.2⟩)
  exact this.1
theorem goalG_le {g : PG} {b : Nat} (w : WF g) (hb : b < nBr g) : goalG g b ≤ g (15 + 7 * b + 1) + stride (g (15 + 7 * b + 2)) (g (15 + 7 * b + 4)) := by
  unfold goalG
  split
  · exact Int32.le_refl _
  · unfold imin
    split
    · rename_i h; exact Int32.le_of_lt h
    · exact Int32.le_refl _
/-- the march: places before i have moved -/
def SIx2 (g : PG) (T i : Nat) : Prop := ∀ b, b < nBr g → -11000 ≤ (g (15 + 7 * b + 1)).toInt ∧ (g (15 + 7 * b + 1)).toInt ≤ 200 * T + (if b < i then 200 else 0)
theorem SIx_move {g : PG} {T i : Nat} (w : WF g) (hi : i < nBr g) (hT : T ≤ 10000) (h : SIx2 g T i) : SIx2 (moveG i g) T (i + 1) := by
  have a2 := w.nb
  intro b hb
  rw [(WF_moveG w hi).2.1] at hb
  by_cases e : b = i
  · subst e
    rw [if_pos (by omega)]
    have h0 := h b hb
    rw [if_neg (by omega)] at h0
    unfold moveG
    split
    · rw [strG_at (by omega)]; omega
    · rename_i c
      rw [gup_ne (by omega), strG_at (by omega), gup_eq]
      have g1 := goalG_le w hb
      obtain ⟨s, s1, s2, s3⟩ := (stride_ok (w.st_b hb) (w.b4 hb)).2.2
      rw [s3, Int32.le_iff_toInt_le, Int32.toInt_add, n32_toInt (by omega)] at g1
      rw [Int32.le_iff_toInt_le] at c
      have e2 : ((g (15 + 7 * b + 1)).toInt + (s : Int)).bmod (2 ^ 32) = (g (15 + 7 * b + 1)).toInt + s := by
        apply Int.bmod_eq_of_le <;> omega
      rw [e2] at g1
      omega
  · rw [moveG_place (fun e' => e e'.symm)]
    have h0 := h b hb
    split
    · split at h0 <;> omega
    · rw [if_neg (by omega)] at h0; exact h0
theorem SI_moves {g : PG} {T N : Nat} (h : SI g T N) (hT : T ≤ 10000) : WF (movesG g) ∧ SIx2 (movesG g) T (nBr g) := by
  have := itr_inv (P := fun i x => keeps g x ∧ SIx2 x T i) (f := moveG) (a := g) (n := nBr g) ⟨keeps.rf h.1, fun b hb => by rw [if_neg (by omega)]; have := h.2.2.2.2.1 b hb; omega⟩ (fun i x hi hx => by
    have kx := WF_moveG hx.1.1 (show i < nBr x by rw [hx.1.2.1]; exact hi)
    exact ⟨hx.1.tr kx, SIx_move hx.1.1 (by rw [hx.1.2.1]; exact hi) hT hx.2⟩)
  exact ⟨this.1.1, this.2⟩
theorem moves_at {g : PG} {j : Nat} (h : j < 15 ∨ 99 ≤ j) : ∀ i, i ≤ 12 → itr i moveG g j = g j := by
  intro i
  induction i with
  | zero => intro _; rfl
  | succ i ih =>
    intro hi
    have e : itr (i + 1) moveG g = moveG i (itr i moveG g) := rfl
    rw [e, moveG_at (by omega), ih (by omega)]
theorem SI_weak {g : PG} {T N b : Nat} (h : SI g T N) (hb : b < nBr g) : SI (weakG b g) T (N + 1) := by
  have w := h.1
  have a2 := w.nb
  have a6 := w.np
  have kk := WF_weakG w hb
  obtain ⟨w, i9, ip, im, ix', d, d1, d2⟩ := h
  refine ⟨kk.1, by rw [weakG_at w hb (by omega)]; exact i9, ?_, ?_, ?_, ?_⟩
  · intro j hj
    rw [kk.2.2.2] at hj
    rw [weakG_at w hb (by omega), weakG_at w hb (by omega)]; exact ip j hj
  · unfold SIm
    rw [weakG_at w hb (by omega), kk.2.2.2, im]
    congr 1
    exact cnt_congr fun j hj => by rw [weakG_at w hb (by omega)]
  · intro c hc
    rw [kk.2.1] at hc
    rw [weakG_pl w hb (by omega)]; exact ix' c hc
  · unfold weakG
    split
    · refine ⟨d + 1, ?_, by omega⟩
      unfold dropG
      rw [gup_ne (by omega), gup_eq, d1, n32_add]
    · exact ⟨d, d1, by omega⟩
theorem SI_weaks {g : PG} {T N : Nat} (h : SI g T N) : SI (weaksG g) T (N + 12) := by
  have a2 := h.1.nb
  have := itr_inv (P := fun i x => SI x T (N + i) ∧ nBr x = nBr g) (f := weakG) (a := g) (n := nBr g) ⟨h, rfl⟩ (fun i x hi hx => ⟨SI_weak hx.1 (by rw [hx.2]; exact hi), by rw [(WF_weakG hx.1.1 (by rw [hx.2]; exact hi)).2.1]; exact hx.2⟩)
  obtain ⟨w, i9, ip, im, ix', d, d1, d2⟩ := this.1
  exact ⟨w, i9, ip, im, ix', d, d1, by omega⟩
theorem SI_lifts {g : PG} {bf : Nat → Int32} {T N : Nat} (h : SI g T N) : SI (liftsG bf g) T N := by
  have := itr_inv (P := fun _ x => SI x T N ∧ nBr x = nBr g) (f := liftG bf) (a := g) (n := nBr g) ⟨h, rfl⟩ (fun i x hi hx => by
    have hi' : i < nBr x := by rw [hx.2]; exact hi
    have w := hx.1.1
    have a2 := w.nb
    have a6 := w.np
    have kk := WF_liftG (bf := bf) w hi'
    exact ⟨SI_of hx.1 kk (liftG_at w hi' (by omega)) (liftG_at w hi' (by omega)) (liftG_at w hi' (by omega)) (fun j hj => ⟨liftG_at w hi' (by omega), liftG_at w hi' (by omega)⟩) (fun c hc => liftG_pl w hi' (by omega)), by rw [kk.2.1]; exact hx.2⟩)
  exact this.1
theorem SI_rds {g : PG} {T N : Nat} (h : SI g T N) : SI (rdsG g) T N := by
  have := itr_inv (P := fun _ x => SI x T N ∧ nSt x = nSt g) (f := rdStep) (a := g) (n := nSt g) ⟨h, rfl⟩ (fun i x hi hx => by
    have hi' : i < nSt x := by rw [hx.2]; exact hi
    have w := hx.1.1
    have a2 := w.nb
    have a4 := w.ns
    have a6 := w.np
    have kk := WF_rdStep w hi'
    have at' : ∀ j, j < 99 ∨ 171 ≤ j → rdStep i x j = x j := by
      intro j hj
      unfold rdStep
      split
      · rw [gup_ne (by omega)]
      · rfl
    exact ⟨SI_of hx.1 kk (at' _ (by omega)) (at' _ (by omega)) (at' _ (by omega)) (fun j hj => ⟨at' _ (by omega), at' _ (by omega)⟩) (fun c hc => at' _ (by omega)), by rw [kk.2.2.1]; exact hx.2⟩)
  exact this.1
theorem SI_tk {g : PG} {T N : Nat} (h : SI g T N) (hT : T ≤ 9000) : SI (tkG g) (T + 1) (N + 12) := by
  have w := h.1
  have k0 : keeps g (gup g 9 (g 9 + n32 1)) := WF_freeN w (Or.inl (Or.inl rfl))
  have a6 := w.np
  obtain ⟨w, i9, ip, im, ix', d, d1, d2⟩ := h
  -- the places are those of time T until the march
  have s0 : SI (gup g 9 (g 9 + n32 1)) (T + 1) N := by
    refine ⟨k0.1, by rw [gup_eq, i9, n32_add], ?_, ?_, ?_, d, by rw [gup_ne (by omega)]; exact d1, by omega⟩
    · intro j hj
      rw [k0.2.2.2] at hj
      rw [gup_ne (by omega), gup_ne (by omega)]
      obtain ⟨t, o, h1, h2, h3, h4, h5, h6⟩ := ip j hj
      exact ⟨t, o, h1, h2, h3, h4, h5, fun e => by have := h6 e; omega⟩
    · unfold SIm
      rw [gup_ne (by omega), k0.2.2.2, im]
      congr 1
      exact cnt_congr fun j hj => by rw [gup_ne (by omega)]
    · intro b hb
      rw [k0.2.1] at hb
      have := w.nb
      rw [gup_ne (by omega)]
      have := ix' b hb
      omega
  have s1 := SI_plans s0 (by omega)
  have k1 := WF_plansG k0.1
  have kk1 := k0.tr k1
  -- places are not changed by plans
  have x1 : SIx2 (plansG (gup g 9 (g 9 + n32 1))) T 0 := by
    have := itr_inv (P := fun _ x => keeps (gup g 9 (g 9 + n32 1)) x ∧ SIx2 x T 0) (f := planG) (a := gup g 9 (g 9 + n32 1)) (n := nPl (gup g 9 (g 9 + n32 1))) ⟨keeps.rf k0.1, fun b hb => by
        rw [k0.2.1] at hb
        have a2 := w.nb
        rw [gup_ne (by omega), if_neg (by omega)]
        have := ix' b hb
        omega⟩ (fun i x hi hx => by
      have hi' : i < nPl x := by rw [hx.1.2.2.2]; exact hi
      have wx := hx.1.1
      have a2 := wx.nb
      have a6 := wx.np
      have hb := (wx.pa hi').2
      have kk := WF_planG wx hi'
      refine ⟨hx.1.tr kk, fun b hb2 => ?_⟩
      rw [kk.2.1] at hb2
      have e : planG i x (15 + 7 * b + 1) = x (15 + 7 * b + 1) := by
        unfold planG
        split
        · split
          · unfold swapsG exchG
            rw [gup_ne (by omega), gup_ne (by omega), strG_at (by omega), strG_at (by omega), gup_ne (by omega), gup_ne (by omega)]
          · rw [gup_ne (by omega), gup_ne (by omega)]
        · rfl
      rw [e]; exact hx.2 b hb2)
    exact this.2
  unfold tkG
  try dsimp only
  generalize plansG (gup g 9 (g 9 + n32 1)) = g1 at s1 k1 x1 kk1
  have a2 := k1.1.nb
  have mv := itr_inv (P := fun i x => keeps g1 x ∧ SIx2 x T i) (f := moveG) (a := g1) (n := nBr g1) ⟨keeps.rf k1.1, x1⟩ (fun i x hi hx => by
    have kx := WF_moveG hx.1.1 (show i < nBr x by rw [hx.1.2.1]; exact hi)
    exact ⟨hx.1.tr kx, SIx_move hx.1.1 (by rw [hx.1.2.1]; exact hi) (by omega) hx.2⟩)
  have s2 : SI (movesG g1) (T + 1) N := by
    obtain ⟨w1, j9, jp, jm, jx, d', e1, e2⟩ := s1
    have km := WF_movesG w1
    have at' : ∀ j, (j < 15 ∨ 99 ≤ j) → movesG g1 j = g1 j := fun j hj => moves_at hj _ a2
    have np := w1.np
    refine ⟨km.1, by rw [at' 9 (by omega)]; exact j9, ?_, ?_, ?_, d', by rw [at' 13 (by omega)]; exact e1, e2⟩
    · intro j hj
      rw [km.2.2.2] at hj
      rw [at' _ (by omega), at' _ (by omega)]; exact jp j hj
    · unfold SIm
      rw [at' 12 (by omega), km.2.2.2, jm]
      congr 1
      exact cnt_congr fun j hj => by rw [at' _ (by omega)]
    · intro b hb
      have := mv.2 b (by rw [mv.1.2.1]; rw [km.2.1] at hb; exact hb)
      have e : itr (nBr g1) moveG g1 = movesG g1 := rfl
      rw [e] at this
      rw [km.2.1] at hb
      rw [if_pos hb] at this
      omega
  have s3 := SI_weaks s2
  exact SI_lifts s3
theorem SI_tkR {g : PG} {T N : Nat} (h : SI g T N) (hT : T ≤ 9000) : SI (tkR g) (T + 1) (N + 12) := SI_rds (SI_tk h hT)

