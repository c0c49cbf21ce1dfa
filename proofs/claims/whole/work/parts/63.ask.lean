/-! Pairs: questions of a loaded parade (written by program: wip/whole/mkask.py). -/
section PK
variable {D : Nat} {m : XM} {g : PG} {E : Nat → XM → Prop}
theorem s31 {a n : Nat} {Q : Int32 → XM → Prop} (hn : m a 0 = n32 n) (h12 : n ≤ 12) (h : Q (bst n (fun k => decide (m (a + 3) k = n32 0)) (fun k b => decide (¬ m (a + 1) b ≤ m (a + 1) k))) m) : VI D 31 [vR 4 a] m Q E := by
  refine w31_0 (up (C := fun i => VLI D 31 1 [(0, vR 4 a), (1, vI (bst i (fun k => decide (m (a + 3) k = n32 0)) (fun k b => decide (¬ m (a + 1) b ≤ m (a + 1) k)))), (2, vI (n32 i))] [] m Q E) (n := n) ?_ ?_ 0 (Nat.zero_le _))
  · intro i hi ih
    refine w31_1 ?_
    simp (disch := omega) only [hn, le_f, xin_t, ix_n32, n32_add, false_implies, not_false_eq_true, true_implies, true_and]
    rw [bst_succ] at ih
    rcases bst_rng i (fun k => decide (m (a + 3) k = n32 0)) (fun k b => decide (¬ m (a + 1) b ≤ m (a + 1) k)) (by omega) with hb | ⟨j, hj, -, hb⟩
    · rw [hb] at ih ⊢
      by_cases c1 : m (a + 3) i = n32 0 <;> simp only [c1, BEq.rfl, Bool.true_or, decide_true, decide_false, not_true_eq_false, not_false_eq_true, Bool.and_true, Bool.true_and, Bool.and_false, Bool.false_and, if_true, if_false, false_implies, true_implies, and_true, true_and, Bool.false_eq_true, Nat.add_zero] at ih ⊢ <;> exact ih
    · have hne : ¬ n32 j = -(n32 1) := n32_nm1 (by omega)
      have hne2 : (n32 j == -(n32 1)) = false := by rw [beq_eq_false_iff_ne]; exact hne
      rw [hb] at ih ⊢
      simp (disch := omega) only [nm1_f, xin_t, ix_n32] at ih ⊢
      by_cases c1 : m (a + 3) i = n32 0 <;> by_cases c3 : m (a + 1) j ≤ m (a + 1) i <;> simp only [c1, c3, hne, hne2, Bool.false_or, decide_true, decide_false, not_true_eq_false, not_false_eq_true, Bool.and_true, Bool.true_and, Bool.and_false, Bool.false_and, if_true, if_false, false_implies, true_implies, and_true, true_and, Bool.false_eq_true, Nat.add_zero] at ih ⊢ <;> exact ih
  · refine w31_1 ?_
    rw [hn]
    exact ⟨fun _ => h, fun c => absurd (n32_rfl n) c⟩
theorem t270 {Q : Int32 → XM → Prop} (w : WF g) (h : Q (bst (nPl g) (fun k => decide (g (171 + 3 * k + 2) = n32 0)) (fun k b => decide (¬ g (171 + 3 * b) ≤ g (171 + 3 * k)))) (smg m g)) : VLI (D + 2) 270 3 [(0, vR 11 283), (1, vI (-(n32 1))), (2, vI (n32 0))] [] (smg m g) Q E := by
  have a6 := w.np
  have h8 := w.2.2.1.1
  refine up (C := fun i => VLI (D + 2) 270 3 [(0, vR 11 283), (1, vI (bst i (fun k => decide (g (171 + 3 * k + 2) = n32 0)) (fun k b => decide (¬ g (171 + 3 * b) ≤ g (171 + 3 * k))))), (2, vI (n32 i))] [] (smg m g) Q E) (n := nPl g) ?_ ?_ 0 (Nat.zero_le _)
  · intro i hi ih
    refine w270_3 ?_
    simp (disch := omega) only [h8, smg_at, n32_mul, Nat.add_zero, le_f, xin_t, ix_n32, n32_add, false_implies, not_false_eq_true, true_implies, true_and]
    rw [bst_succ] at ih
    rcases bst_rng i (fun k => decide (g (171 + 3 * k + 2) = n32 0)) (fun k b => decide (¬ g (171 + 3 * b) ≤ g (171 + 3 * k))) (by omega) with hb | ⟨j, hj, -, hb⟩
    · rw [hb] at ih ⊢
      by_cases c1 : g (171 + 3 * i + 2) = n32 0 <;> simp only [c1, BEq.rfl, Bool.true_or, decide_true, decide_false, not_true_eq_false, not_false_eq_true, Bool.and_true, Bool.true_and, Bool.and_false, Bool.false_and, if_true, if_false, false_implies, true_implies, and_true, true_and, Bool.false_eq_true, Nat.add_zero] at ih ⊢ <;> exact ih
    · have hne : ¬ n32 j = -(n32 1) := n32_nm1 (by omega)
      have hne2 : (n32 j == -(n32 1)) = false := by rw [beq_eq_false_iff_ne]; exact hne
      rw [hb] at ih ⊢
      simp (disch := omega) only [nm1_f, smg_at, n32_mul, n32_add, Nat.add_zero, xin_t, ix_n32] at ih ⊢
      by_cases c1 : g (171 + 3 * i + 2) = n32 0 <;> by_cases c3 : g (171 + 3 * j) ≤ g (171 + 3 * i) <;> simp only [c1, c3, hne, hne2, Bool.false_or, decide_true, decide_false, not_true_eq_false, not_false_eq_true, Bool.and_true, Bool.true_and, Bool.and_false, Bool.false_and, if_true, if_false, false_implies, true_implies, and_true, true_and, Bool.false_eq_true, Nat.add_zero] at ih ⊢ <;> exact ih
  · refine w270_3 ?_
    simp (disch := omega) only [ix_n32, smg_at, h8]
    exact ⟨fun _ => h, fun c => absurd (n32_rfl _) c⟩
theorem t271 {v1 v2 : Int32} {Q : Int32 → XM → Prop} (w : WF g) (h : Q (n32 (cnt (nL g) fun k => decide (¬ g (207 + 3 * k + 1) < v1) && decide (¬ v2 < g (207 + 3 * k + 1)))) (smg m g)) : VLI (D + 2) 271 3 [(0, vR 11 283), (1, vI v1), (2, vI v2), (3, vI (n32 0)), (4, vI (n32 0))] [] (smg m g) Q E := by
  have a2 := w.nb
  have a9 := w.nl
  have h10 := w.2.2.2.1.1
  refine up (C := fun i => VLI (D + 2) 271 3 [(0, vR 11 283), (1, vI v1), (2, vI v2), (3, vI (n32 (cnt i fun k => decide (¬ g (207 + 3 * k + 1) < v1) && decide (¬ v2 < g (207 + 3 * k + 1))))), (4, vI (n32 i))] [] (smg m g) Q E) (n := nL g) ?_ ?_ 0 (Nat.zero_le _)
  · intro i hi ih
    refine w271_3 ?_
    simp (disch := omega) only [h10, smg_at, n32_mul, Nat.add_zero, le_f, xin_t, ix_n32, n32_add, false_implies, not_false_eq_true, true_implies, true_and]
    by_cases c1 : g (207 + 3 * i + 1) < v1 <;> by_cases c2 : v2 < g (207 + 3 * i + 1) <;> simp only [c1, c2, cnt_succ, decide_true, decide_false, not_true_eq_false, not_false_eq_true, Bool.and_true, Bool.true_and, Bool.and_false, Bool.false_and, if_true, if_false, false_implies, true_implies, and_true, true_and, Bool.false_eq_true, Nat.add_zero] at ih ⊢ <;> exact ih
  · refine w271_3 ?_
    simp (disch := omega) only [ix_n32, smg_at, h10]
    exact ⟨fun _ => h, fun c => absurd (n32_rfl _) c⟩
theorem s166 {Q : Int32 → XM → Prop} (w : WF g) (ra : RA m 29 g) (rt : RT m 69 g) (h : Q (bset (nSt g) fun s => decide (¬ g (99 + 12 * s + 3) = -(n32 1))) m) : VI D 166 [vR 10 0] m Q E := by
  have a4 := w.ns
  have h7 : m 69 0 = n32 (nSt g) := by rw [rt.1]; exact w.2.1.1
  refine w166_0 (up (C := fun i => VLI D 166 1 [(0, vR 10 0), (1, vI (bset i fun s => decide (¬ g (99 + 12 * s + 3) = -(n32 1)))), (2, vI (n32 i))] [] m Q E) (n := nSt g) ?_ ?_ 0 (Nat.zero_le _))
  · intro i hi ih
    refine w166_1 ?_
    simp (disch := omega) only [h7, ra i hi, le_f, xin_t, ix_n32, n32_add, false_implies, not_false_eq_true, true_implies, true_and]
    by_cases c1 : g (99 + 12 * i + 3) = -(n32 1) <;> simp only [c1, bset_succ, decide_true, decide_false, not_true_eq_false, not_false_eq_true, Bool.and_true, Bool.true_and, Bool.and_false, Bool.false_and, if_true, if_false, false_implies, true_implies, and_true, true_and, Bool.false_eq_true, Nat.add_zero] at ih ⊢ <;> exact ih
  · refine w166_1 ?_
    rw [h7]
    exact ⟨fun _ => h, fun c => absurd (n32_rfl _) c⟩
theorem t268 {v1 : Int32} {Q : Int32 → XM → Prop} (w : WF g) (h : Q (bset (nBr g) fun k => decide (¬ v1 < g (15 + 7 * k + 4))) (smg m g)) : VLI (D + 2) 268 3 [(0, vR 11 283), (1, vI v1), (2, vI (n32 0)), (3, vI (n32 0))] [] (smg m g) Q E := by
  have a2 := w.nb
  have h6 := w.1.1
  refine up (C := fun i => VLI (D + 2) 268 3 [(0, vR 11 283), (1, vI v1), (2, vI (bset i fun k => decide (¬ v1 < g (15 + 7 * k + 4)))), (3, vI (n32 i))] [] (smg m g) Q E) (n := nBr g) ?_ ?_ 0 (Nat.zero_le _)
  · intro i hi ih
    refine w268_3 ?_
    simp (disch := omega) only [h6, smg_at, n32_mul, le_f, xin_t, ix_n32, n32_add, or0, false_implies, not_false_eq_true, true_implies, true_and]
    by_cases c1 : v1 < g (15 + 7 * i + 4) <;> simp only [c1, bset_succ, decide_true, decide_false, not_true_eq_false, not_false_eq_true, Bool.and_true, Bool.true_and, Bool.and_false, Bool.false_and, if_true, if_false, false_implies, true_implies, and_true, true_and, Bool.false_eq_true, Nat.add_zero] at ih ⊢ <;> exact ih
  · refine w268_3 ?_
    simp (disch := omega) only [ix_n32, smg_at, h6]
    exact ⟨fun _ => h, fun c => absurd (n32_rfl _) c⟩
theorem p_nextPlan {N : Nat} (h : CPL m N) : PRI (D + 12) 117 270 [vR 10 0] [vR 11 283] mpSA m N := by
  unfold PRI
  rcases h.ld with ⟨h1, h2⟩ | ⟨h1, h2, r1, r2, r3, T, hT, si⟩
  · refine w117_0 ⟨fun _ => ?_, fun c => absurd h1 c⟩
    refine w270_0 (s275 ?_)
    rw [h2]
    exact ⟨fun _ => ⟨⟨um_eq _ _ _ _, by decide, by decide⟩, CPL_th h⟩, fun c => absurd rfl c⟩
  · have w := si.w
    have a2 := w.nb
    have a4 := w.ns
    have a9 := w.nl
    obtain ⟨x1, x2⟩ := fin1 h (show m 284 = m 284 from rfl)
    refine w117_0 ⟨fun c => absurd (h1.symm.trans c) n01, fun _ => ?_⟩
    refine s31 (n := nPl (m 284)) (by rw [r1.np]; exact w.2.2.1.1) w.np ?_
    refine w270_0 (s275 ?_)
    rw [h2, code0]
    refine ⟨fun c => absurd c n01, fun _ => ?_⟩
    rw [st0 (show m 284 = m 284 from rfl)]
    refine t270 w ?_
    refine ⟨⟨?_, x1⟩, x2⟩
    exact bst_congr (by have := w.np; omega) (fun i hi => by rw [r1.po hi]) (fun i j hi hj => by rw [r1.pt hi, r1.pt hj])

theorem p_lyingFrom {v1 v2 : Int32} {N : Nat} (h : CPL m N) : PRI (D + 12) 118 271 [vR 10 0, vI v1, vI v2] [vR 11 283, vI v1, vI v2] mpSA m N := by
  unfold PRI
  rcases h.ld with ⟨h1, h2⟩ | ⟨h1, h2, r1, r2, r3, T, hT, si⟩
  · refine w118_0 ⟨fun _ => ?_, fun c => absurd h1 c⟩
    refine w271_0 (s275 ?_)
    rw [h2]
    exact ⟨fun _ => ⟨⟨um_eq _ _ _ _, by decide, by decide⟩, CPL_th h⟩, fun c => absurd rfl c⟩
  · have w := si.w
    have a2 := w.nb
    have a4 := w.ns
    have a9 := w.nl
    obtain ⟨x1, x2⟩ := fin1 h (show m 284 = m 284 from rfl)
    refine w118_0 ⟨fun c => absurd (h1.symm.trans c) n01, fun _ => ?_⟩
    refine s7 (n := nL (m 284)) (by rw [r1.nl]; exact w.2.2.2.1.1) (by omega) ?_
    refine w271_0 (s275 ?_)
    rw [h2, code0]
    refine ⟨fun c => absurd c n01, fun _ => ?_⟩
    rw [st0 (show m 284 = m 284 from rfl)]
    refine t271 w ?_
    refine ⟨⟨?_, x1⟩, x2⟩
    exact congrArg n32 (cnt_congr fun i hi => by rw [r1.lp hi])

theorem p_readStands {N : Nat} (h : CPL m N) : PRI (D + 12) 120 277 [vR 10 0] [vR 11 283] mpSA m N := by
  unfold PRI
  rcases h.ld with ⟨h1, h2⟩ | ⟨h1, h2, r1, r2, r3, T, hT, si⟩
  · refine w120_0 ⟨fun _ => ?_, fun c => absurd h1 c⟩
    refine w277_0 (s275 ?_)
    rw [h2]
    exact ⟨fun _ => ⟨⟨um_eq _ _ _ _, by decide, by decide⟩, CPL_th h⟩, fun c => absurd rfl c⟩
  · have w := si.w
    have a2 := w.nb
    have a4 := w.ns
    have a9 := w.nl
    obtain ⟨x1, x2⟩ := fin1 h (show m 284 = m 284 from rfl)
    refine w120_0 ⟨fun c => absurd (h1.symm.trans c) n01, fun _ => ?_⟩
    refine s166 w r2 r3 ?_
    refine w277_0 (s275 ?_)
    rw [h2, code0]
    refine ⟨fun c => absurd c n01, fun _ => ?_⟩
    rw [st0 (show m 284 = m 284 from rfl)]
    refine s231 (n := nSt (m 284)) (by rw [smg_at]; exact w.2.1.1) (by omega) ?_
    simp only [smg_at]
    first | exact ⟨⟨rfl, x1⟩, x2⟩ | exact ⟨⟨trivial, x1⟩, x2⟩ | exact ⟨x1, x2⟩

theorem p_stretch {N : Nat} (h : CPL m N) : PRI (D + 12) 123 280 [vR 10 0] [vR 11 283] mpSA m N := by
  unfold PRI
  rcases h.ld with ⟨h1, h2⟩ | ⟨h1, h2, r1, r2, r3, T, hT, si⟩
  · refine w123_0 ⟨fun _ => ?_, fun c => absurd h1 c⟩
    refine w280_0 (s275 ?_)
    rw [h2]
    exact ⟨fun _ => ⟨⟨um_eq _ _ _ _, by decide, by decide⟩, CPL_th h⟩, fun c => absurd rfl c⟩
  · have w := si.w
    have a2 := w.nb
    have a4 := w.ns
    have a9 := w.nl
    obtain ⟨x1, x2⟩ := fin1 h (show m 284 = m 284 from rfl)
    refine w123_0 ⟨fun c => absurd (h1.symm.trans c) n01, fun _ => ?_⟩
    have e3 : m (29 + 3) 0 = n32 (nBr (m 284)) := by rw [r1.nb]; exact w.1.1
    have e6 := w.1.1
    rw [e3]
    by_cases c : 2 ≤ nBr (m 284)
    · have p0 := r1.pla (b := 0) (by omega)
      have p1 := r1.pla (b := nBr (m 284) - 1) (by omega)
      simp (disch := omega) only [le_t, n32_sub, xin_t, ix_n32, p0, p1, not_true_eq_false, false_implies, true_implies, and_true, true_and]
      refine w280_0 (s275 ?_)
      rw [h2, code0]
      refine ⟨fun c => absurd c n01, fun _ => ?_⟩
      rw [st0 (show m 284 = m 284 from rfl)]
      simp (disch := omega) only [smg_at, e6, n32_mul, n32_add, n32_sub, xin_t, ix_n32, le_t, not_true_eq_false, false_implies, true_implies, and_true, true_and]
      first | exact ⟨⟨rfl, x1⟩, x2⟩ | exact ⟨x1, x2⟩
    · simp (disch := omega) only [le_f, not_false_eq_true, false_implies, true_implies, true_and]
      refine w280_0 (s275 ?_)
      rw [h2, code0]
      refine ⟨fun c => absurd c n01, fun _ => ?_⟩
      rw [st0 (show m 284 = m 284 from rfl)]
      simp (disch := omega) only [smg_at, e6, ix_n32, le_f, not_false_eq_true, false_implies, true_implies, true_and]
      first | exact ⟨⟨rfl, x1⟩, x2⟩ | exact ⟨x1, x2⟩

theorem p_parseError {N : Nat} (h : CPL m N) : PRI (D + 12) 93 181 [vR 10 0] [vR 11 283] mpSA m N := by
  unfold PRI
  have hq := h
  obtain ⟨-, -, ⟨o, k, b1, b2, b3, b4, b5, -, -⟩, -, ⟨l, d1, d2, d3, -⟩, ⟨e1, e2⟩, -⟩ := h
  refine w93_0 (w181_0 ?_)
  refine ⟨⟨?_, um_eq _ _ _ _⟩, CPL_th hq⟩
  rw [um_k (by omega)]
  exact e1
theorem p_errorPosition {N : Nat} (h : CPL m N) : PRI (D + 12) 94 182 [vR 10 0] [vR 11 283] mpSA m N := by
  unfold PRI
  have hq := h
  obtain ⟨-, -, ⟨o, k, b1, b2, b3, b4, b5, -, -⟩, -, ⟨l, d1, d2, d3, -⟩, ⟨e1, e2⟩, -⟩ := h
  refine w94_0 (w182_0 ?_)
  refine ⟨⟨?_, um_eq _ _ _ _⟩, CPL_th hq⟩
  rw [um_k (by omega)]
  exact e2
theorem p_buffered {N : Nat} (h : CPL m N) : PRI (D + 12) 95 183 [vR 10 0] [vR 11 283] mpSA m N := by
  unfold PRI
  have hq := h
  obtain ⟨-, -, ⟨o, k, b1, b2, b3, b4, b5, -, -⟩, -, ⟨l, d1, d2, d3, -⟩, ⟨e1, e2⟩, -⟩ := h
  refine w95_0 (w183_0 ?_)
  refine ⟨⟨?_, um_eq _ _ _ _⟩, CPL_th hq⟩
  rw [um_k (by omega)]
  exact d2.trans d3.symm
theorem p_undoable {N : Nat} (h : CPL m N) : PRI (D + 12) 152 320 [vR 10 0] [vR 11 283] mpSA m N := by
  unfold PRI
  have hq := h
  obtain ⟨-, -, ⟨o, k, b1, b2, b3, b4, b5, -, -⟩, -, ⟨l, d1, d2, d3, -⟩, ⟨e1, e2⟩, -⟩ := h
  refine w152_0 (w320_0 ?_)
  refine ⟨⟨?_, um_eq _ _ _ _⟩, CPL_th hq⟩
  rw [um_k (by omega)]
  exact b3.trans b5.symm
end PK
