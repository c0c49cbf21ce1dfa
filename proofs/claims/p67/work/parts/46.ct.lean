/-! The component's tick: plans and marching. -/
theorem strG_gup {g : PG} {i b : Nat} {v u : Int32} (h : i ≠ 15 + 7 * b + 4) : strG (gup g i v) b u = gup (strG g b u) i v := by
  unfold strG; rw [gup_ne (Ne.symm h), gup_comm h]
theorem exchG_gup {g : PG} {i b : Nat} {v : Int32} (h : i ≠ 15 + 7 * b) (h1 : i ≠ 15 + 7 * (b + 1)) : exchG (gup g i v) b = gup (exchG g b) i v := by
  unfold exchG; rw [gup_ne (Ne.symm h), gup_ne (Ne.symm h1), gup_comm h, gup_comm h1]
theorem swapsG_gup {g : PG} {i b : Nat} {v : Int32} (hb : b + 1 < 12) (h : i = 12 ∨ 99 ≤ i) : swapsG (gup g i v) b = gup (swapsG g b) i v := by
  unfold swapsG
  rw [exchG_gup (by omega) (by omega), strG_gup (by omega), strG_gup (by omega), gup_ne (by omega), gup_comm (by omega)]
theorem swapsG_at {g : PG} {b j : Nat} (hb : b + 1 < 12) (h : j < 15 ∨ 99 ≤ j) (h1 : j ≠ 11) : swapsG g b j = g j := by
  unfold swapsG strG exchG
  rw [gup_ne h1, gup_ne (by omega), gup_ne (by omega), gup_ne (by omega), gup_ne (by omega)]
theorem planG_at {g : PG} {k j : Nat} (w : WF g) (hk : k < nPl g) (h : j < 15 ∨ 99 ≤ j) (h1 : j ≠ 11) (h2 : j ≠ 12) (h3 : j ≠ 171 + 3 * k + 2) : planG k g j = g j := by
  have a2 := w.nb
  have := (w.pa hk).2
  unfold planG
  split
  · split
    · rw [gup_ne h3, swapsG_at (by omega) h h1]
    · rw [gup_ne h3, gup_ne h2]
  · rfl
theorem plans_keeps {g : PG} (w : WF g) {i : Nat} (hi : i ≤ nPl g) : keeps g (itr i planG g) := keeps_itr w fun j x hj hx => WF_planG hx.1 (by rw [hx.2.2.2]; omega)
theorem plans_at {g : PG} (w : WF g) : ∀ i, i ≤ nPl g → ∀ j, (j < 15 ∨ 99 ≤ j) → j ≠ 11 → j ≠ 12 → (∀ k, k < i → j ≠ 171 + 3 * k + 2) → itr i planG g j = g j := by
  intro i
  induction i with
  | zero => intro _ j _ _ _ _; rfl
  | succ i ih =>
    intro hi j h h1 h2 h3
    have e : itr (i + 1) planG g = planG i (itr i planG g) := rfl
    have kx := plans_keeps w (show i ≤ nPl g by omega)
    rw [e, planG_at kx.1 (by rw [kx.2.2.2]; omega) h h1 h2 (h3 i (by omega))]
    exact ih (by omega) j h h1 h2 (fun k hk => h3 k (by omega))
/-- a plan that is over isn't due now -/
def PT (g : PG) : Prop := ∀ k, k < nPl g → ¬ g (171 + 3 * k + 2) = n32 0 → ¬ g (171 + 3 * k) = g 9
section CT2
variable {D : Nat} {m : XM} {E : Nat → XM → Prop}
theorem s71 {a : Nat} {g : PG} {Q : XM → Prop} (w : WF g) (p : PT g) (r : RS m a g) (h : ∀ m', RS m' a (plansG g) → FR a m m' → Q m') : VU (D + 3) 71 [vR 8 a] m Q E := by
  have a2 := w.nb
  have a6 := w.np
  refine w71_0 (upm (C := fun i m' => VLU (D + 3) 71 1 [(0, vR 8 a), (1, vI (n32 i))] [] m' Q E) (Inv := fun i m' => RS m' a (itr i planG g) ∧ FR a m m') (n := nPl g) ?_ ?_ 0 m (Nat.zero_le _) ⟨r, FR.rf _ _⟩)
  · intro i m1 hi hI ih
    obtain ⟨r1, f1⟩ := hI
    have kx := plans_keeps w (show i ≤ nPl g by omega)
    have e1 : itr (i + 1) planG g = planG i (itr i planG g) := rfl
    have x9 := plans_at w i (by omega) 9 (by omega) (by omega) (by omega) (fun k hk => by omega)
    have xt := plans_at w i (by omega) (171 + 3 * i) (by omega) (by omega) (by omega) (fun k hk => by omega)
    have xo := plans_at w i (by omega) (171 + 3 * i + 2) (by omega) (by omega) (by omega) (fun k hk => by omega)
    rw [e1] at ih
    generalize itr i planG g = x at r1 kx ih x9 xt xo
    have hix : i < nPl x := by rw [kx.2.2.2]; exact hi
    obtain ⟨p1, p2⟩ := kx.1.pa hix
    have nbx := kx.2.1
    have h8 : m1 (a + 16) 0 = n32 (nPl g) := by rw [r1.np, kx.1.2.2.1.1, kx.2.2.2]
    refine w71_1 ?_
    simp (disch := omega) only [n32_add, xin_t, ix_n32, h8, r1.pt hix, r1.tm, r1.pa hix, le_f, false_implies, true_implies, not_false_eq_true, true_and]
    refine ⟨fun c1 => ?_, fun c1 => ?_⟩
    · have c2 : x (171 + 3 * i + 2) = n32 0 := by
        by_cases c2 : x (171 + 3 * i + 2) = n32 0
        · exact c2
        · exfalso
          refine p i hi (by rw [← xo]; exact c2) ?_
          rw [← xt, ← x9]; exact c1
      rw [p1]
      refine s74 kx.1 r1 p2 ?_
      by_cases hm : mayG x (aheadG x i) = true
      · have e : planG i x = gup (swapsG x (aheadG x i)) (171 + 3 * i + 2) (n32 1) := by unfold planG; rw [if_pos ⟨c1, c2⟩, if_pos hm]
        rw [if_pos hm]
        refine ⟨fun c => absurd c (by decide), fun _ => ?_⟩
        have r2 : RS (um m1 (a + 16 + 3) i (n32 1)) a (gup x (171 + 3 * i + 2) (n32 1)) := RS_gup (d0 := 19) kx.1 r1 (lv_po hix) (by omega) (by omega) (by omega)
        have k2 : keeps x (gup x (171 + 3 * i + 2) (n32 1)) := WF_freeN kx.1 (Or.inr (Or.inr (Or.inl ⟨i, by omega, Or.inr rfl⟩)))
        have e3 : um m1 (a + 16 + 3) i (n32 1) (a + 16 + 2) i = n32 (aheadG x i) := by rw [um_a (by omega), r1.pa hix, p1]
        rw [e3]
        refine s75 k2.1 r2 (by rw [k2.2.1]; exact p2) ?_
        intro m2 r3 f3
        refine ih m2 ⟨?_, (f1.tr (FR_um (d := 19) m1 _ (by omega))).tr f3⟩
        rw [e, ← swapsG_gup (by omega) (by omega)]; exact r3
      · have e : planG i x = gup (gup x 12 (x 12 + n32 1)) (171 + 3 * i + 2) (n32 2) := by unfold planG; rw [if_pos ⟨c1, c2⟩, if_neg hm]
        rw [if_neg hm]
        refine ⟨fun _ => ?_, fun c => absurd rfl c⟩
        refine ih _ ⟨?_, f1.tr (FR_um (d := 19) m1 _ (by omega))⟩
        rw [e]
        have k2 : keeps x (gup x 12 (x 12 + n32 1)) := WF_freeN kx.1 (Or.inl (by omega))
        have r2 : RS m1 a (gup x 12 (x 12 + n32 1)) := by
          unfold RS
          rw [k2.2.1, k2.2.2.2, nL_upd (by omega)]
          have := kx.1.nl
          exact RSn_ign r1 (by omega) (by omega) kx.1.np (Or.inl rfl)
        exact RS_gup (d0 := 19) k2.1 r2 (lv_po (by rw [k2.2.2.2]; exact hix)) (by omega) (by omega) (by omega)
    · have e : planG i x = x := by unfold planG; rw [if_neg (fun h => c1 h.1)]
      rw [e] at ih
      exact ih m1 ⟨r1, f1⟩
  · intro m1 hI
    obtain ⟨r1, f1⟩ := hI
    have kx := WF_plansG w
    have h8 : m1 (a + 16) 0 = n32 (nPl g) := by
      have := r1.np
      rw [this]
      have e := kx.1.2.2.1.1
      rw [kx.2.2.2] at e; exact e
    refine w71_1 ?_
    rw [h8]
    exact ⟨fun _ => h m1 r1 f1, fun c => absurd (n32_rfl _) c⟩
/-- nothing changes outside the State at a, but for its two rows that nothing else speaks of -/
def FM (a : Nat) (m m' : XM) : Prop := ∀ b k, (b < a ∨ a + 20 ≤ b ∨ b = a + 2) → m' b k = m b k
theorem FM.rf (a : Nat) (m : XM) : FM a m m := fun _ _ _ => rfl
theorem FM.tr {a : Nat} {m1 m2 m3 : XM} (h1 : FM a m1 m2) (h2 : FM a m2 m3) : FM a m1 m3 := fun b k hb => (h2 b k hb).trans (h1 b k hb)
theorem FR.toM {a : Nat} {m m' : XM} (h : FR a m m') : FM a m m' := fun b k hb => h b k (by omega)
theorem FM_um {a b k : Nat} (m : XM) (v : Int32) (hb : a ≤ b ∧ b < a + 20 ∧ b ≠ a + 2) : FM a m (um m b k v) := fun c j hc => um_a (by omega)
theorem moveG_place {g : PG} {b j : Nat} (h : b ≠ j) : moveG b g (15 + 7 * j + 1) = g (15 + 7 * j + 1) := by
  unfold moveG strG
  split
  · rw [gup_ne (by omega)]
  · rw [gup_ne (by omega), gup_ne (by omega), gup_ne (by omega)]
theorem s54 {a : Nat} {g : PG} {Q : XM → Prop} (w : WF g) (r : RS m a g) (h : ∀ m', RS m' a (movesG g) → FM a m m' → (∀ b, b < nBr g → m' (a + 3 + 7) b = g (15 + 7 * b + 1)) → Q m') : VU (D + 2) 54 [vR 7 (a + 3), vI (g 0), vI (g 3)] m Q E := by
  have a2 := w.nb
  refine w54_0 (upm (C := fun i m' => VLU (D + 2) 54 1 [(0, vR 7 (a + 3)), (1, vI (g 0)), (2, vI (g 3)), (3, vI (n32 i))] [] m' Q E) (Inv := fun i m' => RS m' a (itr i moveG g) ∧ FM a m m' ∧ ∀ b, b < i → m' (a + 3 + 7) b = g (15 + 7 * b + 1)) (n := nBr g) ?_ ?_ 0 m (Nat.zero_le _) ⟨r, FM.rf _ _, fun b hb => absurd hb (Nat.not_lt_zero b)⟩)
  · intro i m1 hi hI ih
    obtain ⟨r1, f1, b1⟩ := hI
    have kx : keeps g (itr i moveG g) := keeps_itr w fun j x hj hx => WF_moveG hx.1 (by rw [hx.2.1]; omega)
    have e1 : itr (i + 1) moveG g = moveG i (itr i moveG g) := rfl
    have ep := place_moves g i i (Nat.le_refl _)
    have e0 : itr i moveG g 0 = g 0 := by
      clear kx ep e1 ih b1 f1 r1
      induction i with
      | zero => rfl
      | succ i ih0 =>
        have e : itr (i + 1) moveG g = moveG i (itr i moveG g) := rfl
        rw [e, ← ih0 (by omega)]
        unfold moveG strG
        split
        · rw [gup_ne (by omega)]
        · rw [gup_ne (by omega), gup_ne (by omega), gup_ne (by omega)]
    have e3 : itr i moveG g 3 = g 3 := by
      clear kx ep e1 ih b1 f1 r1 e0
      induction i with
      | zero => rfl
      | succ i ih0 =>
        have e : itr (i + 1) moveG g = moveG i (itr i moveG g) := rfl
        rw [e, ← ih0 (by omega)]
        unfold moveG strG
        split
        · rw [gup_ne (by omega)]
        · rw [gup_ne (by omega), gup_ne (by omega), gup_ne (by omega)]
    rw [e1] at ih
    generalize itr i moveG g = x at r1 kx ih ep e0 e3
    have hix : i < nBr x := by rw [kx.2.1]; exact hi
    have h6 : m1 (a + 3) 0 = n32 (nBr g) := by rw [r1.nb, kx.1.1.1, kx.2.1]
    have q1 := r1.pla hix
    refine w54_1 ?_
    simp (disch := omega) only [n32_add, xin_t, ix_n32, h6, le_f, false_implies, true_implies, not_false_eq_true, true_and]
    refine s50 (by omega) (r1.step hix) (r1.str hix) (kx.1.st_b hix) (kx.1.b4 hix) ?_
    have eu : ∀ u, um m1 (a + 3 + 7) i u (a + 3 + 6) i = m1 (a + 3 + 6) i := fun u => um_a (by omega)
    -- the row of places before
    have r2 : RS (um m1 (a + 3 + 7) i (x (15 + 7 * i + 1))) a x := RSn_um r1 (by omega)
    have f2 : FM a m (um m1 (a + 3 + 7) i (x (15 + 7 * i + 1))) := f1.tr (FM_um m1 _ (by omega))
    have b2 : ∀ b, b < i + 1 → um m1 (a + 3 + 7) i (x (15 + 7 * i + 1)) (a + 3 + 7) b = g (15 + 7 * b + 1) := by
      intro b hb
      by_cases e : b = i
      · subst e; rw [um_eq]; exact ep
      · rw [um_k e]; exact b1 b (by omega)
    -- both ways of it
    have stay : x (15 + 7 * i + 1) = x (15 + 7 * i + 1) → goalG x i ≤ x (15 + 7 * i + 1) → VU (D + 1) 52 [vR 7 (a + 3), vI (n32 i), vI (g 3)] (um m1 (a + 3 + 7) i (x (15 + 7 * i + 1))) (fun m2 => VLU (D + 2) 54 1 [(0, vR 7 (a + 3)), (1, vI (g 0)), (2, vI (g 3)), (3, vI (n32 (i + 1)))] [] m2 Q E) E := by
      intro _ c
      refine s52 (by omega) ?_
      have e : moveG i x = strG x i (g 3) := by unfold moveG; rw [if_pos c, e3]
      refine ih _ ⟨?_, f2.tr (FM_um _ _ (by omega)), fun b hb => ?_⟩
      · rw [e]; exact RS_str kx.1 r2 hix
      · rw [um_a (by omega)]; exact b2 b hb
    have go : ∀ μ, μ = um (um (um m1 (a + 3 + 7) i (x (15 + 7 * i + 1))) (a + 3 + 6) i (goalG x i)) (a + 3 + 8) i (um (um m1 (a + 3 + 7) i (x (15 + 7 * i + 1))) (a + 3 + 6) i (goalG x i) (a + 3 + 8) i + n32 1) → ¬ goalG x i ≤ x (15 + 7 * i + 1) → VU (D + 1) 52 [vR 7 (a + 3), vI (n32 i), vI (-(μ (a + 3 + 3) i))] μ (fun m4 => VLU (D + 2) 54 1 [(0, vR 7 (a + 3)), (1, vI (g 0)), (2, vI (g 3)), (3, vI (n32 (i + 1)))] [] m4 Q E) E := by
      rintro μ rfl c
      have k3 : keeps x (gup x (15 + 7 * i + 1) (goalG x i)) := WF_freeN kx.1 (Or.inr (Or.inl ⟨i, by omega, Or.inl rfl⟩))
      have r3 : RS (um (um m1 (a + 3 + 7) i (x (15 + 7 * i + 1))) (a + 3 + 6) i (goalG x i)) a (gup x (15 + 7 * i + 1) (goalG x i)) := RS_gup (d0 := 9) kx.1 r2 (lv_pla hix) (by omega) (by omega) (by omega)
      have f3 : FM a m (um (um m1 (a + 3 + 7) i (x (15 + 7 * i + 1))) (a + 3 + 6) i (goalG x i)) := f2.tr (FM_um _ _ (by omega))
      have b3 : ∀ b, b < i + 1 → um (um m1 (a + 3 + 7) i (x (15 + 7 * i + 1))) (a + 3 + 6) i (goalG x i) (a + 3 + 7) b = g (15 + 7 * b + 1) := fun b hb => by rw [um_a (by omega)]; exact b2 b hb
      have hi3 : i < nBr (gup x (15 + 7 * i + 1) (goalG x i)) := by rw [k3.2.1]; exact hix
      have e : moveG i x = gup (strG (gup x (15 + 7 * i + 1) (goalG x i)) i (-(x (15 + 7 * i + 3)))) (15 + 7 * i + 5) (x (15 + 7 * i + 5) + n32 1) := by unfold moveG; rw [if_neg c]
      rw [e] at ih
      have el : x (15 + 7 * i + 3) = gup x (15 + 7 * i + 1) (goalG x i) (15 + 7 * i + 3) := by rw [gup_ne (by omega)]
      have em : x (15 + 7 * i + 5) = gup x (15 + 7 * i + 1) (goalG x i) (15 + 7 * i + 5) := by rw [gup_ne (by omega)]
      rw [el, em] at ih
      generalize um (um m1 (a + 3 + 7) i (x (15 + 7 * i + 1))) (a + 3 + 6) i (goalG x i) = m3 at r3 f3 b3
      generalize gup x (15 + 7 * i + 1) (goalG x i) = x3 at k3 r3 hi3 ih
      have k4 : keeps x3 (gup x3 (15 + 7 * i + 5) (x3 (15 + 7 * i + 5) + n32 1)) := WF_freeN k3.1 (Or.inr (Or.inl ⟨i, by omega, Or.inr rfl⟩))
      have r4 : RS (um m3 (a + 3 + 8) i (m3 (a + 3 + 8) i + n32 1)) a (gup x3 (15 + 7 * i + 5) (x3 (15 + 7 * i + 5) + n32 1)) := by
        rw [r3.mov hi3]
        exact RS_gup (d0 := 11) k3.1 r3 (lv_mov hi3) (by omega) (by omega) (by omega)
      have e5 : um m3 (a + 3 + 8) i (m3 (a + 3 + 8) i + n32 1) (a + 3 + 3) i = x3 (15 + 7 * i + 3) := by rw [um_a (by omega), r3.lag hi3]
      rw [e5]
      refine s52 (by omega) ?_
      refine ih _ ⟨?_, (f3.tr (FM_um _ _ (by omega))).tr (FM_um _ _ (by omega)), fun b hb => ?_⟩
      · rw [← strG_gup (by omega)]
        exact RS_str k4.1 r4 (by rw [k4.2.1]; exact hi3)
      · rw [um_a (by omega), um_a (by omega)]; exact b3 b hb
    refine ⟨fun c => ?_, fun c => ?_⟩
    · have hi0 : i = 0 := by
        have := (n32_le (by omega) (by omega)).mp c
        omega
      have eg : goalG x i = x (15 + 7 * i + 1) + stride (x (15 + 7 * i + 2)) (x (15 + 7 * i + 4)) := by unfold goalG; rw [if_pos hi0]
      rw [eu, q1, ← eg]
      exact ⟨fun c1 => stay rfl c1, fun c1 μ hμ => go μ hμ c1⟩
    · have hi0 : ¬ i = 0 := by rintro rfl; exact c (n32_rfl 0)
      have eg : goalG x i = imin (x (15 + 7 * i + 1) + stride (x (15 + 7 * i + 2)) (x (15 + 7 * i + 4))) (x (15 + 7 * (i - 1) + 1) - g 0) := by unfold goalG; rw [if_neg hi0, e0]
      simp (disch := omega) only [n32_sub, xin_t, ix_n32, true_and]
      rw [q1, r1.pla (b := i - 1) (by omega)]
      refine s386 ?_
      rw [← eg, eu, q1]
      exact ⟨fun c1 => stay rfl c1, fun c1 μ hμ => go μ hμ c1⟩
  · intro m1 hI
    obtain ⟨r1, f1, b1⟩ := hI
    have kx := WF_movesG w
    have h6 : m1 (a + 3) 0 = n32 (nBr g) := by
      rw [r1.nb]
      have e := kx.1.1.1
      rw [kx.2.1] at e; exact e
    refine w54_1 ?_
    rw [h6]
    exact ⟨fun _ => h m1 r1 f1 b1, fun c => absurd (n32_rfl _) c⟩
end CT2

