/-! Pair: weakest. -/
section WEQ
variable {D : Nat} {m : XM} {g : PG} {E : Nat → XM → Prop}
def wkG (g : PG) (n : Nat) : Int32 := bst n (fun _ => true) (fun k b => decide (¬ g (15 + 7 * b + 4) ≤ g (15 + 7 * k + 4)))
theorem wkG_succ (g : PG) (n : Nat) : wkG g (n + 1) = if (wkG g n == -(n32 1) || decide (¬ g (15 + 7 * ix (wkG g n) + 4) ≤ g (15 + 7 * n + 4))) = true then n32 n else wkG g n := by
  unfold wkG
  rw [bst_succ, Bool.true_and]
theorem t278 {Q : Int32 → XM → Prop} (w : WF g) (h : Q (wkG g (nBr g)) (smg m g)) : VLI (D + 2) 278 3 [(0, vR 11 283), (1, vI (-(n32 1))), (2, vI (n32 0))] [] (smg m g) Q E := by
  have a2 := w.nb
  have h6 := w.1.1
  refine up (C := fun i => VLI (D + 2) 278 3 [(0, vR 11 283), (1, vI (wkG g i)), (2, vI (n32 i))] [] (smg m g) Q E) (n := nBr g) ?_ ?_ 0 (Nat.zero_le _)
  · intro i hi ih
    refine w278_3 ?_
    simp (disch := omega) only [h6, smg_at, ix_n32, le_f, false_implies, not_false_eq_true, true_implies, true_and]
    rw [wkG_succ] at ih
    rcases bst_rng i (fun _ => true) (fun k b => decide (¬ g (15 + 7 * b + 4) ≤ g (15 + 7 * k + 4))) (by omega) with hb | ⟨j, hj, -, hb⟩
    · have hb : wkG g i = -(n32 1) := hb
      rw [hb] at ih ⊢
      rw [BEq.rfl, Bool.true_or, if_pos rfl] at ih
      rw [n32_add]
      exact ⟨fun _ => ih, fun c => absurd rfl c⟩
    · have hb : wkG g i = n32 j := hb
      have hne : ¬ n32 j = -(n32 1) := n32_nm1 (by omega)
      have hne2 : (n32 j == -(n32 1)) = false := by rw [beq_eq_false_iff_ne]; exact hne
      rw [hb] at ih ⊢
      rw [hne2, Bool.false_or, ix_n32 (by omega)] at ih
      refine ⟨fun c => absurd c hne, fun _ => ?_⟩
      simp (disch := omega) only [smg_at, n32_mul, n32_add, xin_t, ix_n32, true_and]
      by_cases c3 : g (15 + 7 * j + 4) ≤ g (15 + 7 * i + 4)
      · rw [decide_eq_false (fun e => e c3), if_neg (by decide)] at ih
        exact ⟨fun _ => ih, fun c => absurd c3 c⟩
      · rw [decide_eq_true c3, if_pos rfl] at ih
        exact ⟨fun c => absurd c c3, fun _ => ih⟩
  · refine w278_3 ?_
    simp (disch := omega) only [ix_n32, smg_at, h6]
    exact ⟨fun _ => h, fun c => absurd (n32_rfl _) c⟩
theorem t121 {Q : Int32 → XM → Prop} (w : WF g) (r : RS m 29 g) (h : Q (wkG g (nBr g)) m) : VLI (D + 1) 121 1 [(0, vR 10 0), (1, vI (-(n32 1))), (2, vI (n32 0))] [] m Q E := by
  have a2 := w.nb
  have h6 : m (29 + 3) 0 = n32 (nBr g) := by rw [r.nb]; exact w.1.1
  refine up (C := fun i => VLI (D + 1) 121 1 [(0, vR 10 0), (1, vI (wkG g i)), (2, vI (n32 i))] [] m Q E) (n := nBr g) ?_ ?_ 0 (Nat.zero_le _)
  · intro i hi ih
    refine w121_1 ?_
    rw [h6]
    simp (disch := omega) only [le_f, false_implies, not_false_eq_true, true_implies, true_and]
    rw [wkG_succ] at ih
    rcases bst_rng i (fun _ => true) (fun k b => decide (¬ g (15 + 7 * b + 4) ≤ g (15 + 7 * k + 4))) (by omega) with hb | ⟨j, hj, -, hb⟩
    · have hb : wkG g i = -(n32 1) := hb
      rw [hb] at ih ⊢
      rw [BEq.rfl, Bool.true_or, if_pos rfl] at ih
      rw [n32_add]
      exact ⟨fun _ => ih, fun c => absurd rfl c⟩
    · have hb : wkG g i = n32 j := hb
      have hne : ¬ n32 j = -(n32 1) := n32_nm1 (by omega)
      have hne2 : (n32 j == -(n32 1)) = false := by rw [beq_eq_false_iff_ne]; exact hne
      rw [hb] at ih ⊢
      rw [hne2, Bool.false_or, ix_n32 (by omega)] at ih
      refine ⟨fun c => absurd c hne, fun _ => ?_⟩
      simp (disch := omega) only [n32_add, xin_t, ix_n32, r.str hi, r.str (show j < nBr g by omega), true_and]
      by_cases c3 : g (15 + 7 * j + 4) ≤ g (15 + 7 * i + 4)
      · rw [decide_eq_false (fun e => e c3), if_neg (by decide)] at ih
        exact ⟨fun _ => ih, fun c => absurd c3 c⟩
      · rw [decide_eq_true c3, if_pos rfl] at ih
        exact ⟨fun c => absurd c c3, fun _ => ih⟩
  · refine w121_1 ?_
    rw [h6]
    exact ⟨fun _ => h, fun c => absurd (n32_rfl _) c⟩
theorem p_weakest {N : Nat} (h : CPL m N) : PRI (D + 12) 121 278 [vR 10 0] [vR 11 283] mpSA m N := by
  unfold PRI
  rcases h.ld with ⟨h1, h2⟩ | ⟨h1, h2, r1, r2, r3, T, hT, si⟩
  · refine w121_0 ⟨fun _ => ?_, fun c => absurd h1 c⟩
    refine w278_0 (s275 ?_)
    rw [h2]
    exact ⟨fun _ => ⟨⟨um_eq _ _ _ _, by decide, by decide⟩, CPL_th h⟩, fun c => absurd rfl c⟩
  · have w := si.w
    obtain ⟨x1, x2⟩ := fin1 h (show m 284 = m 284 from rfl)
    refine w121_0 ⟨fun c => absurd (h1.symm.trans c) n01, fun _ => ?_⟩
    refine t121 w r1 ?_
    refine w278_0 (s275 ?_)
    rw [h2, code0]
    refine ⟨fun c => absurd c n01, fun _ => ?_⟩
    rw [st0 (show m 284 = m 284 from rfl)]
    refine t278 w ?_
    exact ⟨⟨rfl, x1⟩, x2⟩
end WEQ
