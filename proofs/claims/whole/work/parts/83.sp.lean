/-! Pair: swappers. -/
section SPQ
variable {D : Nat} {m : XM} {g : PG} {E : Nat → XM → Prop}
def swpG (g : PG) (b : Nat) : Bool := decide (b + 1 < nBr g) && mayG g b
theorem swp_if {g : PG} {b : Nat} (hb : b + 1 < nBr g) : swpG g b = mayG g b := by unfold swpG; rw [decide_eq_true hb, Bool.true_and]
theorem swp_no {g : PG} {b : Nat} (hb : ¬ b + 1 < nBr g) : swpG g b = false := by unfold swpG; rw [decide_eq_false hb, Bool.false_and]
theorem t116 {Q : Int32 → XM → Prop} (w : WF g) (r : RS m 29 g) (h : Q (bset (nBr g) (swpG g)) m) : VLI (D + 2) 116 1 [(0, vR 10 0), (1, vI (n32 0)), (2, vI (n32 0))] [] m Q E := by
  have a2 := w.nb
  have h6 : m (29 + 3) 0 = n32 (nBr g) := by rw [r.nb]; exact w.1.1
  refine up (C := fun i => VLI (D + 2) 116 1 [(0, vR 10 0), (1, vI (bset i (swpG g))), (2, vI (n32 i))] [] m Q E) (n := nBr g) ?_ ?_ 0 (Nat.zero_le _)
  · intro i hi ih
    refine w116_1 ?_
    rw [h6]
    simp (disch := omega) only [le_f, n32_add, false_implies, not_false_eq_true, true_implies, true_and]
    rw [bset_succ] at ih
    by_cases hb : i + 1 < nBr g
    · rw [swp_if hb] at ih
      refine s74 w r hb ?_
      by_cases c : mayG g i = true
      · rw [if_pos c] at ih ⊢
        exact ⟨fun c => absurd c n01, fun _ => ih⟩
      · rw [if_neg c] at ih ⊢
        exact ⟨fun _ => ih, fun c => absurd rfl c⟩
    · rw [swp_no hb, if_neg (by decide)] at ih
      exact s74' w r hi hb ⟨fun _ => ih, fun c => absurd rfl c⟩
  · refine w116_1 ?_
    rw [h6]
    exact ⟨fun _ => h, fun c => absurd (n32_rfl _) c⟩
theorem t269 {Q : Int32 → XM → Prop} (w : WF g) (h : Q (bset (nBr g) (swpG g)) (smg m g)) : VLI (D + 3) 269 3 [(0, vR 11 283), (1, vI (n32 0)), (2, vI (n32 0))] [] (smg m g) Q E := by
  have a2 := w.nb
  have h6 := w.1.1
  refine up (C := fun i => VLI (D + 3) 269 3 [(0, vR 11 283), (1, vI (bset i (swpG g))), (2, vI (n32 i))] [] (smg m g) Q E) (n := nBr g) ?_ ?_ 0 (Nat.zero_le _)
  · intro i hi ih
    refine w269_3 ?_
    simp (disch := omega) only [h6, smg_at, ix_n32, le_f, n32_add, or0, false_implies, not_false_eq_true, true_implies, true_and]
    rw [bset_succ] at ih
    by_cases hb : i + 1 < nBr g
    · rw [swp_if hb] at ih
      refine s216 w hb ?_
      by_cases c : mayG g i = true
      · rw [if_pos c] at ih ⊢
        exact ⟨fun c => absurd c n01, fun _ => ih⟩
      · rw [if_neg c] at ih ⊢
        exact ⟨fun _ => ih, fun c => absurd rfl c⟩
    · rw [swp_no hb, if_neg (by decide)] at ih
      exact s216' w hi hb ⟨fun _ => ih, fun c => absurd rfl c⟩
  · refine w269_3 ?_
    simp (disch := omega) only [ix_n32, smg_at, h6]
    exact ⟨fun _ => h, fun c => absurd (n32_rfl _) c⟩
theorem p_swappers {N : Nat} (h : CPL m N) : PRI (D + 12) 116 269 [vR 10 0] [vR 11 283] mpSA m N := by
  unfold PRI
  rcases h.ld with ⟨h1, h2⟩ | ⟨h1, h2, r1, r2, r3, T, hT, si⟩
  · refine w116_0 ⟨fun _ => ?_, fun c => absurd h1 c⟩
    refine w269_0 (s275 ?_)
    rw [h2]
    exact ⟨fun _ => ⟨⟨um_eq _ _ _ _, by decide, by decide⟩, CPL_th h⟩, fun c => absurd rfl c⟩
  · have w := si.w
    obtain ⟨x1, x2⟩ := fin1 h (show m 284 = m 284 from rfl)
    refine w116_0 ⟨fun c => absurd (h1.symm.trans c) n01, fun _ => ?_⟩
    refine t116 w r1 ?_
    refine w269_0 (s275 ?_)
    rw [h2, code0]
    refine ⟨fun c => absurd c n01, fun _ => ?_⟩
    rw [st0 (show m 284 = m 284 from rfl)]
    refine t269 w ?_
    exact ⟨⟨rfl, x1⟩, x2⟩
end SPQ
