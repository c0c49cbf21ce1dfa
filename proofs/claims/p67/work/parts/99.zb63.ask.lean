/-! Pairs: questions of a loaded parade (written by program: wip/whole/mkask.py). -/
section PK
variable {D : Nat} {m : XM} {g : PG} {E : Nat → XM → Prop}
theorem s166 {Q : Int32 → XM → Prop} (w : WF g) (ra : RA m 29 g) (rt : RT m 69 g) (h : Q (bset (nSt g) fun s => decide (¬ g (99 + 12 * s + 3) = -(n32 1))) m) : VI D 166 [vR 10 0] m Q E := by
  have a4 := w.ns
  have h7 : m 69 0 = n32 (nSt g) := by rw [rt.1]; exact w.2.1.1
  refine w166_0 (up (C := fun i => VLI D 166 1 [(0, vR 10 0), (1, vI (bset i fun s => decide (¬ g (99 + 12 * s + 3) = -(n32 1)))), (2, vI (n32 i))] [] m Q E) (n := nSt g) ?_ ?_ 0 (Nat.zero_le _))
  · intro i hi ih
    refine w166_1 ?_
    simp (disch := omega) only [h7, ra i hi, le_f, xin_t, ix_n32, n32_add, false_implies, not_false_eq_true, true_implies, true_and]
    by_cases c1 : g (99 + 12 * i + 3) = -(n32 1) <;> simp only [c1, bset_succ, decide_true, decide_false, not_true_eq_false, not_false_eq_true, Bool.and_true, Bool.true_and, Bool.and_false, Bool.false_and, if_true, if_false, false_implies, true_implies, and_true, true_and, Bool.false_eq_true, Nat.add_zero] at ih ⊢ <;> exact ih
  · refine w166_1 ?_
    rw [h7]
    exact ⟨fun _ => h, fun c => absurd (n32_rfl _) c⟩
end PK

