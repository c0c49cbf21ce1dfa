/-! Questions that count, sum or collect (written by program: wip/whole/mkq.py). -/
def or0 : ∀ x : Int32, x ||| n32 0 = x := fun x => Int32.or_zero
section QB
variable {D : Nat} {m : XM} {E : Nat → XM → Prop}
theorem s30 {a n : Nat}  {v1 : Int32} {Q : Int32 → XM → Prop} (hn : m a 0 = n32 n) (h12 : n ≤ 12)  (h : Q (n32 (cnt n fun k => decide (m (a + 3) k = v1))) m) : VI D 30 [vR 4 a, vI v1] m Q E := by
  refine w30_0 (up (C := fun i => VLI D 30 1 [(0, vR 4 a), (1, vI v1), (2, vI (n32 (cnt i fun k => decide (m (a + 3) k = v1)))), (3, vI (n32 i))] [] m Q E) (n := n) ?_ ?_ 0 (Nat.zero_le _))
  · intro i hi ih
    refine w30_1 ?_
    simp (disch := omega) only [le_f, xin_t, ix_n32, n32_mul, n32_add, or0, Nat.add_zero, false_implies, not_false_eq_true, true_implies, true_and, hn]
    by_cases c0 : m (a + 3) i = v1 <;> simp only [c0, cnt_succ, decide_true, decide_false, not_true_eq_false, not_false_eq_true, Bool.and_true, Bool.true_and, Bool.and_false, Bool.false_and, if_true, if_false, false_implies, true_implies, and_true, true_and, Bool.false_eq_true] at ih ⊢ <;> exact ih
  · refine w30_1 ?_
    simp (disch := omega) only [le_f, xin_t, ix_n32, n32_mul, n32_add, or0, Nat.add_zero, false_implies, not_false_eq_true, true_implies, true_and, hn]
    exact ⟨fun _ => h, fun c => absurd (n32_rfl n) c⟩
theorem s55 {a n : Nat}   {Q : Int32 → XM → Prop} (hn : m a 0 = n32 n) (h12 : n ≤ 12)  (h : Q (n32 (cnt n fun k => decide (¬ m (a + 5) k = n32 0))) m) : VI D 55 [vR 7 a] m Q E := by
  refine w55_0 (up (C := fun i => VLI D 55 1 [(0, vR 7 a), (1, vI (n32 (cnt i fun k => decide (¬ m (a + 5) k = n32 0)))), (2, vI (n32 i))] [] m Q E) (n := n) ?_ ?_ 0 (Nat.zero_le _))
  · intro i hi ih
    refine w55_1 ?_
    simp (disch := omega) only [le_f, xin_t, ix_n32, n32_mul, n32_add, or0, Nat.add_zero, false_implies, not_false_eq_true, true_implies, true_and, hn]
    by_cases c0 : m (a + 5) i = n32 0 <;> simp only [c0, cnt_succ, decide_true, decide_false, not_true_eq_false, not_false_eq_true, Bool.and_true, Bool.true_and, Bool.and_false, Bool.false_and, if_true, if_false, false_implies, true_implies, and_true, true_and, Bool.false_eq_true] at ih ⊢ <;> exact ih
  · refine w55_1 ?_
    simp (disch := omega) only [le_f, xin_t, ix_n32, n32_mul, n32_add, or0, Nat.add_zero, false_implies, not_false_eq_true, true_implies, true_and, hn]
    exact ⟨fun _ => h, fun c => absurd (n32_rfl n) c⟩
theorem s57 {a n : Nat}   {Q : Int32 → XM → Prop} (hn : m a 0 = n32 n) (h12 : n ≤ 12)  (h : Q (n32 (cnt n fun k => decide (m (a + 5) k = m (a + 1) k))) m) : VI D 57 [vR 7 a] m Q E := by
  refine w57_0 (up (C := fun i => VLI D 57 1 [(0, vR 7 a), (1, vI (n32 (cnt i fun k => decide (m (a + 5) k = m (a + 1) k)))), (2, vI (n32 i))] [] m Q E) (n := n) ?_ ?_ 0 (Nat.zero_le _))
  · intro i hi ih
    refine w57_1 ?_
    simp (disch := omega) only [le_f, xin_t, ix_n32, n32_mul, n32_add, or0, Nat.add_zero, false_implies, not_false_eq_true, true_implies, true_and, hn]
    by_cases c0 : m (a + 5) i = m (a + 1) i <;> simp only [c0, cnt_succ, decide_true, decide_false, not_true_eq_false, not_false_eq_true, Bool.and_true, Bool.true_and, Bool.and_false, Bool.false_and, if_true, if_false, false_implies, true_implies, and_true, true_and, Bool.false_eq_true] at ih ⊢ <;> exact ih
  · refine w57_1 ?_
    simp (disch := omega) only [le_f, xin_t, ix_n32, n32_mul, n32_add, or0, Nat.add_zero, false_implies, not_false_eq_true, true_implies, true_and, hn]
    exact ⟨fun _ => h, fun c => absurd (n32_rfl n) c⟩
theorem s62 {a n : Nat}  {v1 : Int32} {Q : Int32 → XM → Prop} (hn : m a 0 = n32 n) (h12 : n ≤ 12)  (h : Q (bset n fun k => decide (¬ v1 < m (a + 4) k)) m) : VI D 62 [vR 7 a, vI v1] m Q E := by
  refine w62_0 (up (C := fun i => VLI D 62 1 [(0, vR 7 a), (1, vI v1), (2, vI (bset i fun k => decide (¬ v1 < m (a + 4) k))), (3, vI (n32 i))] [] m Q E) (n := n) ?_ ?_ 0 (Nat.zero_le _))
  · intro i hi ih
    refine w62_1 ?_
    simp (disch := omega) only [le_f, xin_t, ix_n32, n32_mul, n32_add, or0, Nat.add_zero, false_implies, not_false_eq_true, true_implies, true_and, hn]
    by_cases c0 : v1 < m (a + 4) i <;> simp only [c0, bset_succ, decide_true, decide_false, not_true_eq_false, not_false_eq_true, Bool.and_true, Bool.true_and, Bool.and_false, Bool.false_and, if_true, if_false, false_implies, true_implies, and_true, true_and, Bool.false_eq_true] at ih ⊢ <;> exact ih
  · refine w62_1 ?_
    simp (disch := omega) only [le_f, xin_t, ix_n32, n32_mul, n32_add, or0, Nat.add_zero, false_implies, not_false_eq_true, true_implies, true_and, hn]
    exact ⟨fun _ => h, fun c => absurd (n32_rfl n) c⟩
theorem s63 {a n : Nat}  {v1 : Int32} {Q : Int32 → XM → Prop} (hn : m a 0 = n32 n) (h12 : n ≤ 12)  (h : Q (n32 (cnt n fun k => decide (¬ v1 ≤ m (a + 4) k))) m) : VI D 63 [vR 7 a, vI v1] m Q E := by
  refine w63_0 (up (C := fun i => VLI D 63 1 [(0, vR 7 a), (1, vI v1), (2, vI (n32 (cnt i fun k => decide (¬ v1 ≤ m (a + 4) k)))), (3, vI (n32 i))] [] m Q E) (n := n) ?_ ?_ 0 (Nat.zero_le _))
  · intro i hi ih
    refine w63_1 ?_
    simp (disch := omega) only [le_f, xin_t, ix_n32, n32_mul, n32_add, or0, Nat.add_zero, false_implies, not_false_eq_true, true_implies, true_and, hn]
    by_cases c0 : v1 ≤ m (a + 4) i <;> simp only [c0, cnt_succ, decide_true, decide_false, not_true_eq_false, not_false_eq_true, Bool.and_true, Bool.true_and, Bool.and_false, Bool.false_and, if_true, if_false, false_implies, true_implies, and_true, true_and, Bool.false_eq_true] at ih ⊢ <;> exact ih
  · refine w63_1 ?_
    simp (disch := omega) only [le_f, xin_t, ix_n32, n32_mul, n32_add, or0, Nat.add_zero, false_implies, not_false_eq_true, true_implies, true_and, hn]
    exact ⟨fun _ => h, fun c => absurd (n32_rfl n) c⟩
theorem s64 {a n : Nat}  {v1 : Int32} {Q : Int32 → XM → Prop} (hn : m a 0 = n32 n) (h12 : n ≤ 12)  (h : Q (n32 (cnt n fun k => decide (¬ m (a + 6) k ≤ v1))) m) : VI D 64 [vR 7 a, vI v1] m Q E := by
  refine w64_0 (up (C := fun i => VLI D 64 1 [(0, vR 7 a), (1, vI v1), (2, vI (n32 (cnt i fun k => decide (¬ m (a + 6) k ≤ v1)))), (3, vI (n32 i))] [] m Q E) (n := n) ?_ ?_ 0 (Nat.zero_le _))
  · intro i hi ih
    refine w64_1 ?_
    simp (disch := omega) only [le_f, xin_t, ix_n32, n32_mul, n32_add, or0, Nat.add_zero, false_implies, not_false_eq_true, true_implies, true_and, hn]
    by_cases c0 : m (a + 6) i ≤ v1 <;> simp only [c0, cnt_succ, decide_true, decide_false, not_true_eq_false, not_false_eq_true, Bool.and_true, Bool.true_and, Bool.and_false, Bool.false_and, if_true, if_false, false_implies, true_implies, and_true, true_and, Bool.false_eq_true] at ih ⊢ <;> exact ih
  · refine w64_1 ?_
    simp (disch := omega) only [le_f, xin_t, ix_n32, n32_mul, n32_add, or0, Nat.add_zero, false_implies, not_false_eq_true, true_implies, true_and, hn]
    exact ⟨fun _ => h, fun c => absurd (n32_rfl n) c⟩
theorem s65 {a n : Nat}  {v1 : Int32} {Q : Int32 → XM → Prop} (hn : m a 0 = n32 n) (h12 : n ≤ 12)  (h : Q (n32 (cnt n fun k => decide (¬ v1 ≤ m (a + 6) k))) m) : VI D 65 [vR 7 a, vI v1] m Q E := by
  refine w65_0 (up (C := fun i => VLI D 65 1 [(0, vR 7 a), (1, vI v1), (2, vI (n32 (cnt i fun k => decide (¬ v1 ≤ m (a + 6) k)))), (3, vI (n32 i))] [] m Q E) (n := n) ?_ ?_ 0 (Nat.zero_le _))
  · intro i hi ih
    refine w65_1 ?_
    simp (disch := omega) only [le_f, xin_t, ix_n32, n32_mul, n32_add, or0, Nat.add_zero, false_implies, not_false_eq_true, true_implies, true_and, hn]
    by_cases c0 : v1 ≤ m (a + 6) i <;> simp only [c0, cnt_succ, decide_true, decide_false, not_true_eq_false, not_false_eq_true, Bool.and_true, Bool.true_and, Bool.and_false, Bool.false_and, if_true, if_false, false_implies, true_implies, and_true, true_and, Bool.false_eq_true] at ih ⊢ <;> exact ih
  · refine w65_1 ?_
    simp (disch := omega) only [le_f, xin_t, ix_n32, n32_mul, n32_add, or0, Nat.add_zero, false_implies, not_false_eq_true, true_implies, true_and, hn]
    exact ⟨fun _ => h, fun c => absurd (n32_rfl n) c⟩
theorem s7 {a n : Nat}  {v1 : Int32} {v2 : Int32} {Q : Int32 → XM → Prop} (hn : m a 0 = n32 n) (h12 : n ≤ 12)  (h : Q (n32 (cnt n fun k => decide (¬ m (a + 2) k < v1) && decide (¬ v2 < m (a + 2) k))) m) : VI D 7 [vR 1 a, vI v1, vI v2] m Q E := by
  refine w7_0 (up (C := fun i => VLI D 7 1 [(0, vR 1 a), (1, vI v1), (2, vI v2), (3, vI (n32 (cnt i fun k => decide (¬ m (a + 2) k < v1) && decide (¬ v2 < m (a + 2) k)))), (4, vI (n32 i))] [] m Q E) (n := n) ?_ ?_ 0 (Nat.zero_le _))
  · intro i hi ih
    refine w7_1 ?_
    simp (disch := omega) only [le_f, xin_t, ix_n32, n32_mul, n32_add, or0, Nat.add_zero, false_implies, not_false_eq_true, true_implies, true_and, hn]
    by_cases c0 : m (a + 2) i < v1 <;> by_cases c1 : v2 < m (a + 2) i <;> simp only [c0, c1, cnt_succ, decide_true, decide_false, not_true_eq_false, not_false_eq_true, Bool.and_true, Bool.true_and, Bool.and_false, Bool.false_and, if_true, if_false, false_implies, true_implies, and_true, true_and, Bool.false_eq_true] at ih ⊢ <;> exact ih
  · refine w7_1 ?_
    simp (disch := omega) only [le_f, xin_t, ix_n32, n32_mul, n32_add, or0, Nat.add_zero, false_implies, not_false_eq_true, true_implies, true_and, hn]
    exact ⟨fun _ => h, fun c => absurd (n32_rfl n) c⟩
end QB
