/-! The component's tick: dropping and lifting. -/
/-- the memory where a Ground at a has lost its j-th banner, the later ones moved up to place i -/
def rmv (m : XM) (a j i : Nat) : XM := fun b k => if (b = a + 1 ∨ b = a + 2 ∨ b = a + 3) ∧ j ≤ k ∧ k < i then m b (k + 1) else m b k
theorem rmv_0 (m : XM) (a j : Nat) : rmv m a j j = m := by
  funext b k; unfold rmv; rw [if_neg (by omega)]
theorem rmv_at {m : XM} {a j i b k : Nat} (h : ¬ (j ≤ k ∧ k < i)) : rmv m a j i b k = m b k := by
  unfold rmv; rw [if_neg (fun e => h e.2)]
theorem rmv_ne {m : XM} {a j i b k : Nat} (h : ¬ (b = a + 1 ∨ b = a + 2 ∨ b = a + 3)) : rmv m a j i b k = m b k := by
  unfold rmv; rw [if_neg (fun e => h e.1)]
theorem rmv_in {m : XM} {a j i b k : Nat} (h : b = a + 1 ∨ b = a + 2 ∨ b = a + 3) (h1 : j ≤ k) (h2 : k < i) : rmv m a j i b k = m b (k + 1) := by
  unfold rmv; rw [if_pos ⟨h, h1, h2⟩]
theorem rmv_succ {m : XM} {a j i : Nat} (hj : j ≤ i) : um (um (um (rmv m a j i) (a + 1) i (m (a + 1) (i + 1))) (a + 2) i (m (a + 2) (i + 1))) (a + 3) i (m (a + 3) (i + 1)) = rmv m a j (i + 1) := by
  funext b k
  by_cases hk : k = i
  · subst hk
    by_cases h1 : b = a + 1
    · subst h1; rw [um_a (by omega), um_a (by omega), um_eq, rmv_in (by omega) hj (by omega)]
    · by_cases h2 : b = a + 2
      · subst h2; rw [um_a (by omega), um_eq, rmv_in (by omega) hj (by omega)]
      · by_cases h3 : b = a + 3
        · subst h3; rw [um_eq, rmv_in (by omega) hj (by omega)]
        · rw [um_a h3, um_a h2, um_a h1, rmv_ne (by omega), rmv_ne (by omega)]
  · rw [um_k hk, um_k hk, um_k hk]
    unfold rmv
    by_cases h1 : (b = a + 1 ∨ b = a + 2 ∨ b = a + 3) ∧ j ≤ k ∧ k < i
    · rw [if_pos h1, if_pos ⟨h1.1, h1.2.1, by omega⟩]
    · rw [if_neg h1, if_neg (fun e => h1 ⟨e.1, e.2.1, by omega⟩)]
section CT3
variable {D : Nat} {m : XM} {E : Nat → XM → Prop}
theorem s6 {a n j : Nat} {Q : XM → Prop} (hn : m a 0 = n32 n) (h12 : n ≤ 12) (hj : j < n) (h : Q (um (rmv m a j (n - 1)) a 0 (n32 (n - 1)))) : VU D 6 [vR 1 a, vI (n32 j)] m Q E := by
  refine w6_0 ?_
  simp (disch := omega) only [hn, lt_f, lt_t, false_implies, true_implies, not_false_eq_true, not_true_eq_false, true_and, and_true]
  have key : ∀ k, j + k ≤ n - 1 → VLU D 6 4 [(0, vR 1 a), (2, vI (n32 (n - 1 - k)))] [] (rmv m a j (n - 1 - k)) Q E := by
    intro k
    induction k with
    | zero =>
      intro _
      have e0 : rmv m a j (n - 1 - 0) a 0 = n32 n := by rw [rmv_ne (by omega)]; exact hn
      refine w6_4 ?_
      simp (disch := omega) only [n32_add, n32_sub, e0, le_t, true_implies, not_true_eq_false, false_implies, and_true]
      exact h
    | succ k ih =>
      intro hk
      have ih := ih (by omega)
      generalize hi : n - 1 - (k + 1) = i
      have e : n - 1 - k = i + 1 := by omega
      rw [e] at ih
      have e0 : rmv m a j i a 0 = n32 n := by rw [rmv_ne (by omega)]; exact hn
      refine w6_4 ?_
      simp (disch := omega) only [n32_add, ix_n32, xin_t, e0, le_f, false_implies, true_implies, not_false_eq_true, true_and]
      rintro μ rfl
      have e1 : ∀ b, rmv m a j i b (i + 1) = m b (i + 1) := fun b => rmv_at (by omega)
      have e2 : ∀ (mm : XM) (c v : Nat → Int32) (x : Nat) (y : Int32), um mm x i y (a + 2) (i + 1) = mm (a + 2) (i + 1) := fun mm c v x y => um_k (by omega)
      have e3 : ∀ (mm : XM) (x : Nat) (y : Int32) (z : Nat), um mm x i y z (i + 1) = mm z (i + 1) := fun mm x y z => um_k (by omega)
      simp only [e3, e1]
      rw [rmv_succ (by omega)]
      exact ih
  have := key (n - 1 - j) (by omega)
  rw [show n - 1 - (n - 1 - j) = j by omega, rmv_0] at this
  exact this
theorem s76 {a b : Nat} {g : PG} {Q : XM → Prop} (w : WF g) (r : RS m a g) (hb : b < nBr g) (hp : ¬ g (15 + 7 * b) ≤ n32 0) (h : ∀ m', RS m' a (dropG g b) → FR a m m' → Q m') : VU (D + 1) 76 [vR 8 a, vI (n32 b)] m Q E := by
  have a2 := w.nb
  have a6 := w.np
  have a8 := w.lc
  have p3 := carried_pos w hb (ban_pos w hb hp).2
  have h10 : m (a + 12) 0 = n32 (nL g) := by rw [r.nl]; exact w.2.2.2.1.1
  have kd := WF_dropG w hb hp
  obtain ⟨d1, d2⟩ := nL_dropG w hb
  refine w76_0 ?_
  simp (disch := omega) only [xin_t, ix_n32, h10, r.ban hb, r.pla hb, r.tm, lt_t, um_a, false_implies, true_implies, not_false_eq_true, not_true_eq_false, true_and, and_true]
  rintro μ rfl
  simp (disch := omega) only [xin_t, ix_n32, h10, um_a, true_and]
  rintro μ rfl
  -- the three new cells, both sides
  have r1 : RSn (um m (a + 12 + 1) (nL g) (g (15 + 7 * b))) a (gup g (207 + 3 * nL g) (g (15 + 7 * b))) (nBr g) (nL g) (nPl g) := RSn_gup (d0 := 13) r a2 (by omega) a6 (lv_ll (by omega))
  have r2 := RSn_gup (d0 := 14) (k0 := nL g) (v := g (15 + 7 * b + 1)) r1 a2 (by omega) a6 (lv_lp (by omega))
  have r3 := RSn_gup (d0 := 15) (k0 := nL g) (v := g 9) r2 a2 (by omega) a6 (lv_lti (by omega))
  have r4 : RSn (um (um (um m (a + 12 + 1) (nL g) (g (15 + 7 * b))) (a + 14) (nL g) (g (15 + 7 * b + 1))) (a + 15) (nL g) (g 9)) a (gup (gup (gup g (207 + 3 * nL g) (g (15 + 7 * b))) (207 + 3 * nL g + 1) (g (15 + 7 * b + 1))) (207 + 3 * nL g + 2) (g 9)) (nBr g) (nL g + 1) (nPl g) := by
    intro d k i hl
    by_cases e : k = nL g ∧ (d = 13 ∨ d = 14 ∨ d = 15)
    · obtain ⟨rfl, e⟩ := e
      have hl' := (lvn_fb (lvn_up hl a2 (by omega) a6)).1
      rcases e with rfl | rfl | rfl
      · have : i = 207 + 3 * nL g := hl'.symm
        subst this
        rw [um_a (by omega), um_a (by omega), um_eq, gup_ne (by omega), gup_ne (by omega), gup_eq]
      · have : i = 207 + 3 * nL g + 1 := hl'.symm
        subst this
        rw [um_a (by omega), um_eq, gup_ne (by omega), gup_eq]
      · have : i = 207 + 3 * nL g + 2 := hl'.symm
        subst this
        rw [um_eq, gup_eq]
    · refine r3 d k i ?_
      rcases hl with hl | hl | hl | hl | hl | hl
      · exact Or.inl hl
      · exact Or.inr (Or.inl hl)
      · exact Or.inr (Or.inr (Or.inl hl))
      · exact Or.inr (Or.inr (Or.inr (Or.inl hl)))
      · exact Or.inr (Or.inr (Or.inr (Or.inr (Or.inl ⟨by omega, hl.2⟩))))
      · exact Or.inr (Or.inr (Or.inr (Or.inr (Or.inr hl))))
  have r5 := RSn_gup (d0 := 12) (k0 := 0) (v := n32 (nL g + 1)) r4 a2 (by omega) a6 lv_nl
  have r6 := RSn_gup (d0 := 8) (k0 := b) (v := n32 0) r5 a2 (by omega) a6 (lv_ban (by omega))
  have r7 := RSn_gup (d0 := 0) (k0 := 2) (v := g 13 + n32 1) r6 a2 (by omega) a6 lv_dr
  have f : FR a m (um (um (um (um (um (um m (a + 13) (nL g) (g (15 + 7 * b))) (a + 14) (nL g) (g (15 + 7 * b + 1))) (a + 15) (nL g) (g 9)) (a + 12) 0 (n32 (nL g + 1))) (a + 8) b (n32 0)) (a + 0) 2 (g 13 + n32 1)) :=
    ((((((FR_um (d := 13) m _ (by omega)).tr (FR_um (d := 14) _ _ (by omega))).tr (FR_um (d := 15) _ _ (by omega))).tr (FR_um (d := 12) _ _ (by omega))).tr (FR_um (d := 8) _ _ (by omega))).tr (FR_um (d := 0) _ _ (by omega)))
  have eg : dropG g b = gup (gup (gup (gup (gup (gup g (207 + 3 * nL g) (g (15 + 7 * b))) (207 + 3 * nL g + 1) (g (15 + 7 * b + 1))) (207 + 3 * nL g + 2) (g 9)) 10 (n32 (nL g + 1))) (15 + 7 * b) (n32 0)) 13 (g 13 + n32 1) := by
    unfold dropG
    rw [w.2.2.2.1.1, n32_add, gup_comm (by omega)]
  have r8 := h _ (by unfold RS; rw [kd.2.1, d2, kd.2.2.2, eg]; exact r7) f
  simp (disch := omega) only [um_a, um_k, h10, r.dr, n32_add]
  exact r8
theorem weak_iff {g : PG} (w : WF g) {b : Nat} (hb : b < nBr g) : g (15 + 7 * b) = n32 0 ↔ g (15 + 7 * b) ≤ n32 0 := by
  constructor
  · intro h; rw [h]; exact n32_rfl 0
  · intro h
    by_cases e : g (15 + 7 * b) = n32 0
    · exact e
    · refine ban_zero w hb (fun h2 => ?_)
      rw [Int32.lt_iff_toInt_lt] at h2
      rw [Int32.le_iff_toInt_le] at h
      omega
theorem s72 {a : Nat} {g : PG} {Q : XM → Prop} (w : WF g) (r : RS m a g) (h : ∀ m', RS m' a (weaksG g) → FR a m m' → Q m') : VU (D + 2) 72 [vR 8 a] m Q E := by
  have a2 := w.nb
  refine w72_0 (upm (C := fun i m' => VLU (D + 2) 72 1 [(0, vR 8 a), (1, vI (n32 i))] [] m' Q E) (Inv := fun i m' => RS m' a (itr i weakG g) ∧ FR a m m') (n := nBr g) ?_ ?_ 0 m (Nat.zero_le _) ⟨r, FR.rf _ _⟩)
  · intro i m1 hi hI ih
    obtain ⟨r1, f1⟩ := hI
    have kx : keeps g (itr i weakG g) := keeps_itr w fun j x hj hx => WF_weakG hx.1 (by rw [hx.2.1]; omega)
    have e1 : itr (i + 1) weakG g = weakG i (itr i weakG g) := rfl
    rw [e1] at ih
    generalize itr i weakG g = x at r1 kx ih
    have hix : i < nBr x := by rw [kx.2.1]; exact hi
    have h6 : m1 (a + 3) 0 = n32 (nBr g) := by rw [r1.nb, kx.1.1.1, kx.2.1]
    refine w72_1 ?_
    simp (disch := omega) only [n32_add, xin_t, ix_n32, h6, r1.ban hix, r1.str hix, le_f, false_implies, true_implies, not_false_eq_true, true_and]
    refine ⟨fun c => ?_, fun c => ⟨fun c1 => ?_, fun c1 => ?_⟩⟩
    · have e : weakG i x = x := by unfold weakG; rw [if_neg (fun h => h.1 ((weak_iff kx.1 hix).mp c))]
      rw [e] at ih; exact ih _ ⟨r1, f1⟩
    · have c' : ¬ x (15 + 7 * i) ≤ n32 0 := fun h => c ((weak_iff kx.1 hix).mpr h)
      have e : weakG i x = dropG x i := by unfold weakG; rw [if_pos ⟨c', c1⟩]
      rw [e] at ih
      exact s76 kx.1 r1 hix c' (fun m2 r2 f2 => ih m2 ⟨r2, f1.tr f2⟩)
    · have e : weakG i x = x := by unfold weakG; rw [if_neg (fun h => c1 h.2)]
      rw [e] at ih; exact ih _ ⟨r1, f1⟩
  · intro m1 hI
    obtain ⟨r1, f1⟩ := hI
    have kx := WF_weaksG w
    have h6 : m1 (a + 3) 0 = n32 (nBr g) := by
      rw [r1.nb]
      have e := kx.1.1.1
      rw [kx.2.1] at e; exact e
    refine w72_1 ?_
    rw [h6]
    exact ⟨fun _ => h m1 r1 f1, fun c => absurd (n32_rfl _) c⟩
theorem s8g {a : Nat} {g : PG} {v1 v2 : Int32} {Q : Int32 → XM → Prop} (w : WF g) (r : RS m a g) (h : Q (lieG g v1 v2) m) : VI D 8 [vR 1 (a + 12), vI v1, vI v2] m Q E := by
  have a2 := w.nb
  have a9 := w.nl
  refine s8 (n := nL g) (by rw [r.nl]; exact w.2.2.2.1.1) (by omega) ?_
  have e : bst (nL g) (fun k => decide (¬ m (a + 12 + 2) k < v1) && decide (¬ v2 < m (a + 12 + 2) k)) (fun k b => decide (¬ m (a + 12 + 2) k ≤ m (a + 12 + 2) b)) = lieG g v1 v2 := by
    refine bst_congr (by omega) (fun i hi => ?_) (fun i j hi hj => ?_)
    · rw [r.lp hi]
    · rw [r.lp hi, r.lp hj]
  rw [e]; exact h
theorem s78 {a b j : Nat} {g : PG} {Q : XM → Prop} (w : WF g) (r : RS m a g) (hb : b < nBr g) (hp : g (15 + 7 * b) = n32 0) (hj : j < nL g) (h : ∀ m', RS m' a (pickG g b j) → FR a m m' → Q m') : VU (D + 1) 78 [vR 8 a, vI (n32 b), vI (n32 j)] m Q E := by
  have a2 := w.nb
  have a6 := w.np
  have a8 := w.lc
  have a9 := w.nl
  have h10 : m (a + 12) 0 = n32 (nL g) := by rw [r.nl]; exact w.2.2.2.1.1
  have kd := WF_pickG w hb hp hj
  have d2 : nL (pickG g b j) = nL g - 1 := by
    have : ix (pickG g b j 10) = nL g - 1 := by rw [pickG_10 g (by omega), w.2.2.2.1.1, n32_sub (by omega), ix_n32 (by omega)]
    exact this
  refine w78_0 ?_
  simp (disch := omega) only [xin_t, ix_n32, h10, r.ll hj, lt_t, lt_f, false_implies, true_implies, not_false_eq_true, not_true_eq_false, true_and, and_true]
  refine s6 (n := nL g) (by rw [um_a (by omega)]; exact h10) (by omega) hj ?_
  have ep : um (rmv (um m (a + 3 + 5) b (g (207 + 3 * j))) (a + 12) j (nL g - 1)) (a + 12) 0 (n32 (nL g - 1)) a 3 = g 14 := by
    rw [um_a (by omega), rmv_ne (by omega), um_a (by omega), r.pk]
  rw [ep]
  refine h _ ?_ ?_
  · unfold RS
    rw [kd.2.1, d2, kd.2.2.2]
    -- every cell that isn't one of those written
    intro d k i hl
    have hl2 : lvn (nBr g) (nL g) (nPl g) d k i := lvn_up hl (Nat.le_refl _) (by omega) (Nat.le_refl _)
    have hfb := lvn_fb (lvn_up hl2 a2 (by omega) a6)
    by_cases c1 : d = 0 ∧ k = 3
    · obtain ⟨rfl, rfl⟩ := c1
      have : i = 14 := hfb.1.symm
      subst this
      rw [show a + 0 = a from rfl, um_eq]
      unfold pickG
      try dsimp only
      rw [gup_eq]
      unfold shiftG
      rw [if_neg (by omega), gup_ne (by omega), gup_ne (by omega)]
    · by_cases c2 : d = 12 ∧ k = 0
      · obtain ⟨rfl, rfl⟩ := c2
        have : i = 10 := hfb.1.symm
        subst this
        rw [um_a (by omega), um_eq, pickG_10 g (by omega), w.2.2.2.1.1, n32_sub (by omega)]
      · by_cases c3 : d = 8 ∧ k = b
        · obtain ⟨rfl, rfl⟩ := c3
          have : i = 15 + 7 * k := hfb.1.symm
          subst this
          rw [um_a (by omega), um_a (by omega), rmv_ne (by omega), show a + 8 = a + 3 + 5 from rfl, um_eq, pickG_b g (by omega)]
        · have hd := lvn_d hl
          have n1 : um (um (rmv (um m (a + 3 + 5) b (g (207 + 3 * j))) (a + 12) j (nL g - 1)) (a + 12) 0 (n32 (nL g - 1))) a 3 (g 14 + n32 1) (a + d) k = rmv (um m (a + 3 + 5) b (g (207 + 3 * j))) (a + 12) j (nL g - 1) (a + d) k := by
            unfold um
            rw [if_neg (by omega), if_neg (by omega)]
          rw [n1]
          by_cases c4 : (d = 13 ∨ d = 14 ∨ d = 15) ∧ j ≤ k
          · obtain ⟨c4, c5⟩ := c4
            have hk : k < nL g - 1 := by
              rcases hl with hl | hl | hl | hl | hl | hl
              · omega
              · omega
              · omega
              · omega
              · exact hl.1
              · omega
            rw [rmv_in (by omega) c5 hk, um_a (by omega)]
            rcases c4 with rfl | rfl | rfl
            · have : i = 207 + 3 * k := hfb.1.symm
              subst this
              rw [pickG_sh g (by omega) (by omega) (by omega)]
              exact r.ll (k := k + 1) (by omega)
            · have : i = 207 + 3 * k + 1 := hfb.1.symm
              subst this
              rw [pickG_sh g (by omega) (by omega) (by omega), show 207 + 3 * k + 1 + 3 = 207 + 3 * (k + 1) + 1 by omega]
              exact r.lp (k := k + 1) (by omega)
            · have : i = 207 + 3 * k + 2 := hfb.1.symm
              subst this
              rw [pickG_sh g (by omega) (by omega) (by omega), show 207 + 3 * k + 2 + 3 = 207 + 3 * (k + 1) + 2 by omega]
              exact r.lt (k := k + 1) (by omega)
          · have n2 : rmv (um m (a + 3 + 5) b (g (207 + 3 * j))) (a + 12) j (nL g - 1) (a + d) k = m (a + d) k := by
              unfold rmv um
              rw [if_neg (by omega), if_neg (by omega)]
            rw [n2, r d k i hl2]
            symm
            refine pickG_at g b j ?_ ?_ ?_ ?_
            · rintro rfl
              exact c1 ⟨(congrArg Prod.fst hfb.2).symm, (congrArg Prod.snd hfb.2).symm⟩
            · rintro rfl
              exact c2 ⟨(congrArg Prod.fst hfb.2).symm, (congrArg Prod.snd hfb.2).symm⟩
            · rintro rfl
              have := bwd_b (k := b) (w := 0) (by omega) (by omega)
              rw [Nat.add_zero, hfb.2] at this
              exact c3 ⟨congrArg Prod.fst this, congrArg Prod.snd this⟩
            · rcases hl with hl | hl | hl | hl | hl | hl <;> omega
  · intro c k hc
    rw [um_a (by omega), um_a (by omega), rmv_ne (by omega), um_a (by omega)]
theorem s73 {a : Nat} {g : PG} {bf : Nat → Int32} {Q : XM → Prop} (w : WF g) (r : RS m a g) (hbf : ∀ b, b < nBr g → m (a + 3 + 7) b = bf b) (h : ∀ m', RS m' a (liftsG bf g) → FR a m m' → Q m') : VU (D + 2) 73 [vR 8 a] m Q E := by
  have a2 := w.nb
  refine w73_0 (upm (C := fun i m' => VLU (D + 2) 73 1 [(0, vR 8 a), (1, vI (n32 i))] [] m' Q E) (Inv := fun i m' => RS m' a (itr i (liftG bf) g) ∧ FR a m m') (n := nBr g) ?_ ?_ 0 m (Nat.zero_le _) ⟨r, FR.rf _ _⟩)
  · intro i m1 hi hI ih
    obtain ⟨r1, f1⟩ := hI
    have kx : keeps g (itr i (liftG bf) g) := keeps_itr w fun j x hj hx => WF_liftG hx.1 (by rw [hx.2.1]; omega)
    have e1 : itr (i + 1) (liftG bf) g = liftG bf i (itr i (liftG bf) g) := rfl
    rw [e1] at ih
    generalize itr i (liftG bf) g = x at r1 kx ih
    have hix : i < nBr x := by rw [kx.2.1]; exact hi
    have a9 := kx.1.nl
    have anb := kx.1.nb
    have h6 : m1 (a + 3) 0 = n32 (nBr g) := by rw [r1.nb, kx.1.1.1, kx.2.1]
    have h10 : m1 (a + 12) 0 = n32 (nL x) := by rw [r1.nl, kx.1.2.2.2.1.1]
    have hb7 : m1 (a + 3 + 7) i = bf i := by rw [f1 _ _ (by omega)]; exact hbf i hi
    have e4 := r1.se (k := 4) (by omega)
    refine w73_1 ?_
    simp (disch := omega) only [n32_add, xin_t, ix_n32, h6, h10, hb7, e4, r1.ban hix, r1.str hix, r1.pla hix, le_f, false_implies, true_implies, not_false_eq_true, true_and]
    refine ⟨fun c => ?_, fun c => ⟨fun c1 => ⟨fun c2 => ?_, fun c2 => ?_⟩, fun c1 => ?_⟩⟩
    · have h0 : nL x = 0 := by
        have := (n32_le (by omega) (by omega)).mp c
        omega
      have e : liftG bf i x = x := by
        unfold liftG lieG
        rw [h0]
        split
        · rfl
        · split
          · rw [if_pos (show bst 0 _ _ = -(n32 1) from rfl)]
          · rfl
      rw [e] at ih; exact ih _ ⟨r1, f1⟩
    · have e : liftG bf i x = x := by
        unfold liftG
        split
        · rfl
        · rw [if_neg]
          rw [Int32.lt_iff_toInt_lt] at c2
          rw [Int32.le_iff_toInt_le]; omega
      rw [e] at ih; exact ih _ ⟨r1, f1⟩
    · have c2' : x 4 ≤ x (15 + 7 * i + 4) := by
        rw [Int32.lt_iff_toInt_lt] at c2
        rw [Int32.le_iff_toInt_le]; omega
      have c0 : ¬ n32 0 < x (15 + 7 * i) := by rw [c1]; exact fun h => absurd ((n32_lt (by omega) (by omega)).mp h) (by omega)
      unfold liftG at ih
      rw [if_neg c0, if_pos c2'] at ih
      refine s8g kx.1 r1 ?_
      rcases lieG_rng x (bf i) (x (15 + 7 * i + 1)) (by omega) with h3 | ⟨j, h3, h4⟩
      · rw [if_pos h3] at ih
        rw [h3]
        refine w78_0 ⟨fun _ => ih _ ⟨r1, f1⟩, fun c => absurd ?_ c⟩
        decide
      · have hne : ¬ n32 j = -(n32 1) := n32_nm1 (by omega)
        rw [h4, if_neg hne, ix_n32 (by omega)] at ih
        rw [h4]
        exact s78 kx.1 r1 hix c1 h3 (fun m2 r2 f2 => ih m2 ⟨r2, f1.tr f2⟩)
    · have e : liftG bf i x = x := by
        unfold liftG
        rw [if_pos]
        obtain ⟨q, q1, q2, q3⟩ := kx.1.b0 hix
        rw [q3] at c1 ⊢
        have : q ≠ 0 := by rintro rfl; exact c1 rfl
        exact (n32_lt (by omega) (by omega)).mpr (by omega)
      rw [e] at ih; exact ih _ ⟨r1, f1⟩
  · intro m1 hI
    obtain ⟨r1, f1⟩ := hI
    have kx := WF_liftsG (bf := bf) w
    have h6 : m1 (a + 3) 0 = n32 (nBr g) := by
      rw [r1.nb]
      have e := kx.1.1.1
      rw [kx.2.1] at e; exact e
    refine w73_1 ?_
    rw [h6]
    exact ⟨fun _ => h m1 r1 f1, fun c => absurd (n32_rfl _) c⟩
/-- before a tick: no plan that is over is due later -/
def PO (g : PG) : Prop := PT (gup g 9 (g 9 + n32 1))
theorem s70 {a : Nat} {g : PG} {Q : XM → Prop} (w : WF g) (p : PO g) (r : RS m a g) (h : ∀ m', RS m' a (tkG g) → FM a m m' → Q m') : VU (D + 4) 70 [vR 8 a] m Q E := by
  refine w70_0 ?_
  have k0 : keeps g (gup g 9 (g 9 + n32 1)) := WF_freeN w (Or.inl (Or.inl rfl))
  have r0 : RS (um m a 0 (m a 0 + n32 1)) a (gup g 9 (g 9 + n32 1)) := by
    rw [r.tm]
    exact RS_gup (d0 := 0) w r lv_tm (by omega) (by omega) (by omega)
  have f0 : FM a m (um m a 0 (m a 0 + n32 1)) := FM_um m _ (by omega)
  refine s71 k0.1 p r0 ?_
  intro m1 r1 f1
  unfold tkG at h
  try dsimp only at h
  have k1 := WF_plansG k0.1
  generalize plansG (gup g 9 (g 9 + n32 1)) = g1 at h k1 r1
  have e0 := r1.se (k := 0) (by omega)
  have e3 := r1.se (k := 3) (by omega)
  simp (disch := omega) only [ix_n32, e0, e3]
  refine s54 k1.1 r1 ?_
  intro m2 r2 f2 b2
  have k2 : keeps g1 (movesG g1) := WF_movesG k1.1
  refine s72 k2.1 r2 ?_
  intro m3 r3 f3
  have k3 : keeps g1 (weaksG (movesG g1)) := k2.tr (WF_weaksG k2.1)
  refine s73 (bf := fun b => g1 (15 + 7 * b + 1)) k3.1 r3 ?_ ?_
  · intro b hb
    rw [k3.2.1] at hb
    rw [f3 _ _ (by omega)]; exact b2 b hb
  · intro m4 r4 f4
    exact h m4 r4 (((f0.tr f1.toM).tr f2).tr (f3.toM.tr f4.toM))
end CT3

