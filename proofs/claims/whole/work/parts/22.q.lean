/-! Questions that count, sum or collect (written by program: wip/whole/mkq.py). -/
def or0 : ∀ x : Int32, x ||| n32 0 = x := fun x => Int32.or_zero
section QB
variable {D : Nat} {m : XM} {E : Nat → XM → Prop}
theorem s9 {a n : Nat}  {v1 : Int32} {Q : Int32 → XM → Prop} (hn : m a 0 = n32 n) (h12 : n ≤ 12)  (h : Q (n32 (cnt n fun k => decide (m (a + 1) k = v1))) m) : VI D 9 [vR 1 a, vI v1] m Q E := by
  refine w9_0 (up (C := fun i => VLI D 9 1 [(0, vR 1 a), (1, vI v1), (2, vI (n32 (cnt i fun k => decide (m (a + 1) k = v1)))), (3, vI (n32 i))] [] m Q E) (n := n) ?_ ?_ 0 (Nat.zero_le _))
  · intro i hi ih
    refine w9_1 ?_
    simp (disch := omega) only [le_f, xin_t, ix_n32, n32_mul, n32_add, or0, Nat.add_zero, false_implies, not_false_eq_true, true_implies, true_and, hn]
    by_cases c0 : m (a + 1) i = v1 <;> simp only [c0, cnt_succ, decide_true, decide_false, not_true_eq_false, not_false_eq_true, Bool.and_true, Bool.true_and, Bool.and_false, Bool.false_and, if_true, if_false, false_implies, true_implies, and_true, true_and, Bool.false_eq_true] at ih ⊢ <;> exact ih
  · refine w9_1 ?_
    simp (disch := omega) only [le_f, xin_t, ix_n32, n32_mul, n32_add, or0, Nat.add_zero, false_implies, not_false_eq_true, true_implies, true_and, hn]
    exact ⟨fun _ => h, fun c => absurd (n32_rfl n) c⟩
theorem s30 {a n : Nat}  {v1 : Int32} {Q : Int32 → XM → Prop} (hn : m a 0 = n32 n) (h12 : n ≤ 12)  (h : Q (n32 (cnt n fun k => decide (m (a + 3) k = v1))) m) : VI D 30 [vR 4 a, vI v1] m Q E := by
  refine w30_0 (up (C := fun i => VLI D 30 1 [(0, vR 4 a), (1, vI v1), (2, vI (n32 (cnt i fun k => decide (m (a + 3) k = v1)))), (3, vI (n32 i))] [] m Q E) (n := n) ?_ ?_ 0 (Nat.zero_le _))
  · intro i hi ih
    refine w30_1 ?_
    simp (disch := omega) only [le_f, xin_t, ix_n32, n32_mul, n32_add, or0, Nat.add_zero, false_implies, not_false_eq_true, true_implies, true_and, hn]
    by_cases c0 : m (a + 3) i = v1 <;> simp only [c0, cnt_succ, decide_true, decide_false, not_true_eq_false, not_false_eq_true, Bool.and_true, Bool.true_and, Bool.and_false, Bool.false_and, if_true, if_false, false_implies, true_implies, and_true, true_and, Bool.false_eq_true] at ih ⊢ <;> exact ih
  · refine w30_1 ?_
    simp (disch := omega) only [le_f, xin_t, ix_n32, n32_mul, n32_add, or0, Nat.add_zero, false_implies, not_false_eq_true, true_implies, true_and, hn]
    exact ⟨fun _ => h, fun c => absurd (n32_rfl n) c⟩
theorem s55 {a n : Nat}   {Q : Int32 → XM → Prop} (hn : m a 0 = n32 n) (h12 : n ≤ 12)  (h : Q (n32 (cnt n fun k => decide (¬ m (a + 5) k = n32 0))) m) : VI D 55 [vR 7 a] m Q E := by
  refine w55_0 (up (C := fun i => VLI D 55 1 [(0, vR 7 a), (1, vI (n32 (cnt i fun k => decide (¬ m (a + 5) k = n32 0)))), (2, vI (n32 i))] [] m Q E) (n := n) ?_ ?_ 0 (Nat.zero_le _))
  · intro i hi ih
    refine w55_1 ?_
    simp (disch := omega) only [le_f, xin_t, ix_n32, n32_mul, n32_add, or0, Nat.add_zero, false_implies, not_false_eq_true, true_implies, true_and, hn]
    by_cases c0 : m (a + 5) i = n32 0 <;> simp only [c0, cnt_succ, decide_true, decide_false, not_true_eq_false, not_false_eq_true, Bool.and_true, Bool.true_and, Bool.and_false, Bool.false_and, if_true, if_false, false_implies, true_implies, and_true, true_and, Bool.false_eq_true] at ih ⊢ <;> exact ih
  · refine w55_1 ?_
    simp (disch := omega) only [le_f, xin_t, ix_n32, n32_mul, n32_add, or0, Nat.add_zero, false_implies, not_false_eq_true, true_implies, true_and, hn]
    exact ⟨fun _ => h, fun c => absurd (n32_rfl n) c⟩
theorem s56 {a n : Nat}  {v1 : Int32} {Q : Int32 → XM → Prop} (hn : m a 0 = n32 n) (h12 : n ≤ 12)  (h : Q (n32 (cnt n fun k => decide (m (a + 5) k = v1))) m) : VI D 56 [vR 7 a, vI v1] m Q E := by
  refine w56_0 (up (C := fun i => VLI D 56 1 [(0, vR 7 a), (1, vI v1), (2, vI (n32 (cnt i fun k => decide (m (a + 5) k = v1)))), (3, vI (n32 i))] [] m Q E) (n := n) ?_ ?_ 0 (Nat.zero_le _))
  · intro i hi ih
    refine w56_1 ?_
    simp (disch := omega) only [le_f, xin_t, ix_n32, n32_mul, n32_add, or0, Nat.add_zero, false_implies, not_false_eq_true, true_implies, true_and, hn]
    by_cases c0 : m (a + 5) i = v1 <;> simp only [c0, cnt_succ, decide_true, decide_false, not_true_eq_false, not_false_eq_true, Bool.and_true, Bool.true_and, Bool.and_false, Bool.false_and, if_true, if_false, false_implies, true_implies, and_true, true_and, Bool.false_eq_true] at ih ⊢ <;> exact ih
  · refine w56_1 ?_
    simp (disch := omega) only [le_f, xin_t, ix_n32, n32_mul, n32_add, or0, Nat.add_zero, false_implies, not_false_eq_true, true_implies, true_and, hn]
    exact ⟨fun _ => h, fun c => absurd (n32_rfl n) c⟩
theorem s57 {a n : Nat}   {Q : Int32 → XM → Prop} (hn : m a 0 = n32 n) (h12 : n ≤ 12)  (h : Q (n32 (cnt n fun k => decide (m (a + 5) k = m (a + 1) k))) m) : VI D 57 [vR 7 a] m Q E := by
  refine w57_0 (up (C := fun i => VLI D 57 1 [(0, vR 7 a), (1, vI (n32 (cnt i fun k => decide (m (a + 5) k = m (a + 1) k)))), (2, vI (n32 i))] [] m Q E) (n := n) ?_ ?_ 0 (Nat.zero_le _))
  · intro i hi ih
    refine w57_1 ?_
    simp (disch := omega) only [le_f, xin_t, ix_n32, n32_mul, n32_add, or0, Nat.add_zero, false_implies, not_false_eq_true, true_implies, true_and, hn]
    by_cases c0 : m (a + 5) i = m (a + 1) i <;> simp only [c0, cnt_succ, decide_true, decide_false, not_true_eq_false, not_false_eq_true, Bool.and_true, Bool.true_and, Bool.and_false, Bool.false_and, if_true, if_false, false_implies, true_implies, and_true, true_and, Bool.false_eq_true] at ih ⊢ <;> exact ih
  · refine w57_1 ?_
    simp (disch := omega) only [le_f, xin_t, ix_n32, n32_mul, n32_add, or0, Nat.add_zero, false_implies, not_false_eq_true, true_implies, true_and, hn]
    exact ⟨fun _ => h, fun c => absurd (n32_rfl n) c⟩
theorem s62 {a n : Nat}  {v1 : Int32} {Q : Int32 → XM → Prop} (hn : m a 0 = n32 n) (h12 : n ≤ 12)  (h : Q (bset n fun k => decide (¬ v1 < m (a + 4) k)) m) : VI D 62 [vR 7 a, vI v1] m Q E := by
  refine w62_0 (up (C := fun i => VLI D 62 1 [(0, vR 7 a), (1, vI v1), (2, vI (bset i fun k => decide (¬ v1 < m (a + 4) k))), (3, vI (n32 i))] [] m Q E) (n := n) ?_ ?_ 0 (Nat.zero_le _))
  · intro i hi ih
    refine w62_1 ?_
    simp (disch := omega) only [le_f, xin_t, ix_n32, n32_mul, n32_add, or0, Nat.add_zero, false_implies, not_false_eq_true, true_implies, true_and, hn]
    by_cases c0 : v1 < m (a + 4) i <;> simp only [c0, bset_succ, decide_true, decide_false, not_true_eq_false, not_false_eq_true, Bool.and_true, Bool.true_and, Bool.and_false, Bool.false_and, if_true, if_false, false_implies, true_implies, and_true, true_and, Bool.false_eq_true] at ih ⊢ <;> exact ih
  · refine w62_1 ?_
    simp (disch := omega) only [le_f, xin_t, ix_n32, n32_mul, n32_add, or0, Nat.add_zero, false_implies, not_false_eq_true, true_implies, true_and, hn]
    exact ⟨fun _ => h, fun c => absurd (n32_rfl n) c⟩
theorem s63 {a n : Nat}  {v1 : Int32} {Q : Int32 → XM → Prop} (hn : m a 0 = n32 n) (h12 : n ≤ 12)  (h : Q (n32 (cnt n fun k => decide (¬ v1 ≤ m (a + 4) k))) m) : VI D 63 [vR 7 a, vI v1] m Q E := by
  refine w63_0 (up (C := fun i => VLI D 63 1 [(0, vR 7 a), (1, vI v1), (2, vI (n32 (cnt i fun k => decide (¬ v1 ≤ m (a + 4) k)))), (3, vI (n32 i))] [] m Q E) (n := n) ?_ ?_ 0 (Nat.zero_le _))
  · intro i hi ih
    refine w63_1 ?_
    simp (disch := omega) only [le_f, xin_t, ix_n32, n32_mul, n32_add, or0, Nat.add_zero, false_implies, not_false_eq_true, true_implies, true_and, hn]
    by_cases c0 : v1 ≤ m (a + 4) i <;> simp only [c0, cnt_succ, decide_true, decide_false, not_true_eq_false, not_false_eq_true, Bool.and_true, Bool.true_and, Bool.and_false, Bool.false_and, if_true, if_false, false_implies, true_implies, and_true, true_and, Bool.false_eq_true] at ih ⊢ <;> exact ih
  · refine w63_1 ?_
    simp (disch := omega) only [le_f, xin_t, ix_n32, n32_mul, n32_add, or0, Nat.add_zero, false_implies, not_false_eq_true, true_implies, true_and, hn]
    exact ⟨fun _ => h, fun c => absurd (n32_rfl n) c⟩
theorem s64 {a n : Nat}  {v1 : Int32} {Q : Int32 → XM → Prop} (hn : m a 0 = n32 n) (h12 : n ≤ 12)  (h : Q (n32 (cnt n fun k => decide (¬ m (a + 6) k ≤ v1))) m) : VI D 64 [vR 7 a, vI v1] m Q E := by
  refine w64_0 (up (C := fun i => VLI D 64 1 [(0, vR 7 a), (1, vI v1), (2, vI (n32 (cnt i fun k => decide (¬ m (a + 6) k ≤ v1)))), (3, vI (n32 i))] [] m Q E) (n := n) ?_ ?_ 0 (Nat.zero_le _))
  · intro i hi ih
    refine w64_1 ?_
    simp (disch := omega) only [le_f, xin_t, ix_n32, n32_mul, n32_add, or0, Nat.add_zero, false_implies, not_false_eq_true, true_implies, true_and, hn]
    by_cases c0 : m (a + 6) i ≤ v1 <;> simp only [c0, cnt_succ, decide_true, decide_false, not_true_eq_false, not_false_eq_true, Bool.and_true, Bool.true_and, Bool.and_false, Bool.false_and, if_true, if_false, false_implies, true_implies, and_true, true_and, Bool.false_eq_true] at ih ⊢ <;> exact ih
  · refine w64_1 ?_
    simp (disch := omega) only [le_f, xin_t, ix_n32, n32_mul, n32_add, or0, Nat.add_zero, false_implies, not_false_eq_true, true_implies, true_and, hn]
    exact ⟨fun _ => h, fun c => absurd (n32_rfl n) c⟩
theorem s65 {a n : Nat}  {v1 : Int32} {Q : Int32 → XM → Prop} (hn : m a 0 = n32 n) (h12 : n ≤ 12)  (h : Q (n32 (cnt n fun k => decide (¬ v1 ≤ m (a + 6) k))) m) : VI D 65 [vR 7 a, vI v1] m Q E := by
  refine w65_0 (up (C := fun i => VLI D 65 1 [(0, vR 7 a), (1, vI v1), (2, vI (n32 (cnt i fun k => decide (¬ v1 ≤ m (a + 6) k)))), (3, vI (n32 i))] [] m Q E) (n := n) ?_ ?_ 0 (Nat.zero_le _))
  · intro i hi ih
    refine w65_1 ?_
    simp (disch := omega) only [le_f, xin_t, ix_n32, n32_mul, n32_add, or0, Nat.add_zero, false_implies, not_false_eq_true, true_implies, true_and, hn]
    by_cases c0 : v1 ≤ m (a + 6) i <;> simp only [c0, cnt_succ, decide_true, decide_false, not_true_eq_false, not_false_eq_true, Bool.and_true, Bool.true_and, Bool.and_false, Bool.false_and, if_true, if_false, false_implies, true_implies, and_true, true_and, Bool.false_eq_true] at ih ⊢ <;> exact ih
  · refine w65_1 ?_
    simp (disch := omega) only [le_f, xin_t, ix_n32, n32_mul, n32_add, or0, Nat.add_zero, false_implies, not_false_eq_true, true_implies, true_and, hn]
    exact ⟨fun _ => h, fun c => absurd (n32_rfl n) c⟩
theorem s7 {a n : Nat}  {v1 : Int32} {v2 : Int32} {Q : Int32 → XM → Prop} (hn : m a 0 = n32 n) (h12 : n ≤ 12)  (h : Q (n32 (cnt n fun k => decide (¬ m (a + 2) k < v1) && decide (¬ v2 < m (a + 2) k))) m) : VI D 7 [vR 1 a, vI v1, vI v2] m Q E := by
  refine w7_0 (up (C := fun i => VLI D 7 1 [(0, vR 1 a), (1, vI v1), (2, vI v2), (3, vI (n32 (cnt i fun k => decide (¬ m (a + 2) k < v1) && decide (¬ v2 < m (a + 2) k)))), (4, vI (n32 i))] [] m Q E) (n := n) ?_ ?_ 0 (Nat.zero_le _))
  · intro i hi ih
    refine w7_1 ?_
    simp (disch := omega) only [le_f, xin_t, ix_n32, n32_mul, n32_add, or0, Nat.add_zero, false_implies, not_false_eq_true, true_implies, true_and, hn]
    by_cases c0 : m (a + 2) i < v1 <;> by_cases c1 : v2 < m (a + 2) i <;> simp only [c0, c1, cnt_succ, decide_true, decide_false, not_true_eq_false, not_false_eq_true, Bool.and_true, Bool.true_and, Bool.and_false, Bool.false_and, if_true, if_false, false_implies, true_implies, and_true, true_and, Bool.false_eq_true] at ih ⊢ <;> exact ih
  · refine w7_1 ?_
    simp (disch := omega) only [le_f, xin_t, ix_n32, n32_mul, n32_add, or0, Nat.add_zero, false_implies, not_false_eq_true, true_implies, true_and, hn]
    exact ⟨fun _ => h, fun c => absurd (n32_rfl n) c⟩
theorem s60 {a n : Nat}   {Q : Int32 → XM → Prop} (hn : m a 0 = n32 n) (h12 : n ≤ 12)  (h : Q (isum n fun k => m (a + 4) k) m) : VI D 60 [vR 7 a] m Q E := by
  refine w60_0 (up (C := fun i => VLI D 60 1 [(0, vR 7 a), (1, vI (isum i fun k => m (a + 4) k)), (2, vI (n32 i))] [] m Q E) (n := n) ?_ ?_ 0 (Nat.zero_le _))
  · intro i hi ih
    refine w60_1 ?_
    simp (disch := omega) only [le_f, xin_t, ix_n32, n32_mul, n32_add, or0, Nat.add_zero, false_implies, not_false_eq_true, true_implies, true_and, hn]
    simp only [isum_succ, decide_true, decide_false, not_true_eq_false, not_false_eq_true, Bool.and_true, Bool.true_and, Bool.and_false, Bool.false_and, if_true, if_false, false_implies, true_implies, and_true, true_and, Bool.false_eq_true] at ih ⊢
    exact ih
  · refine w60_1 ?_
    simp (disch := omega) only [le_f, xin_t, ix_n32, n32_mul, n32_add, or0, Nat.add_zero, false_implies, not_false_eq_true, true_implies, true_and, hn]
    exact ⟨fun _ => h, fun c => absurd (n32_rfl n) c⟩
theorem s230 {n : Nat}   {Q : Int32 → XM → Prop} (hn : m 284 6 = n32 n) (h12 : n ≤ 12)  (h : Q (n32 (cnt n fun k => decide (¬ m 284 (15 + 7 * k) ≤ n32 0))) m) : VI (D + 1) 230 [vR 11 283] m Q E := by
  refine w230_0 (up (C := fun i => VLI (D + 1) 230 1 [(0, vR 11 283), (1, vI (n32 (cnt i fun k => decide (¬ m 284 (15 + 7 * k) ≤ n32 0)))), (2, vI (n32 i))] [] m Q E) (n := n) ?_ ?_ 0 (Nat.zero_le _))
  · intro i hi ih
    refine w230_1 ?_
    simp (disch := omega) only [le_f, xin_t, ix_n32, n32_mul, n32_add, or0, Nat.add_zero, false_implies, not_false_eq_true, true_implies, true_and, hn]
    by_cases c0 : m 284 (15 + 7 * i) ≤ n32 0 <;> simp only [c0, cnt_succ, decide_true, decide_false, not_true_eq_false, not_false_eq_true, Bool.and_true, Bool.true_and, Bool.and_false, Bool.false_and, if_true, if_false, false_implies, true_implies, and_true, true_and, Bool.false_eq_true] at ih ⊢ <;> exact ih
  · refine w230_1 ?_
    simp (disch := omega) only [le_f, xin_t, ix_n32, n32_mul, n32_add, or0, Nat.add_zero, false_implies, not_false_eq_true, true_implies, true_and, hn]
    exact ⟨fun _ => h, fun c => absurd (n32_rfl n) c⟩
theorem s231 {n : Nat}   {Q : Int32 → XM → Prop} (hn : m 284 7 = n32 n) (h12 : n ≤ 6)  (h : Q (bset n fun k => decide (¬ m 284 (99 + 12 * k + 3) = -(n32 1))) m) : VI (D + 1) 231 [vR 11 283] m Q E := by
  refine w231_0 (up (C := fun i => VLI (D + 1) 231 1 [(0, vR 11 283), (1, vI (bset i fun k => decide (¬ m 284 (99 + 12 * k + 3) = -(n32 1)))), (2, vI (n32 i))] [] m Q E) (n := n) ?_ ?_ 0 (Nat.zero_le _))
  · intro i hi ih
    refine w231_1 ?_
    simp (disch := omega) only [le_f, xin_t, ix_n32, n32_mul, n32_add, or0, Nat.add_zero, false_implies, not_false_eq_true, true_implies, true_and, hn]
    by_cases c0 : m 284 (99 + 12 * i + 3) = -(n32 1) <;> simp only [c0, bset_succ, decide_true, decide_false, not_true_eq_false, not_false_eq_true, Bool.and_true, Bool.true_and, Bool.and_false, Bool.false_and, if_true, if_false, false_implies, true_implies, and_true, true_and, Bool.false_eq_true] at ih ⊢ <;> exact ih
  · refine w231_1 ?_
    simp (disch := omega) only [le_f, xin_t, ix_n32, n32_mul, n32_add, or0, Nat.add_zero, false_implies, not_false_eq_true, true_implies, true_and, hn]
    exact ⟨fun _ => h, fun c => absurd (n32_rfl n) c⟩
theorem s232 {n : Nat}   {Q : Int32 → XM → Prop} (hn : m 284 7 = n32 n) (h12 : n ≤ 6)  (h : Q (n32 (cnt n fun k => decide (¬ m 284 (99 + 12 * k + 3) = -(n32 1)))) m) : VI (D + 1) 232 [vR 11 283] m Q E := by
  refine w232_0 (up (C := fun i => VLI (D + 1) 232 1 [(0, vR 11 283), (1, vI (n32 (cnt i fun k => decide (¬ m 284 (99 + 12 * k + 3) = -(n32 1))))), (2, vI (n32 i))] [] m Q E) (n := n) ?_ ?_ 0 (Nat.zero_le _))
  · intro i hi ih
    refine w232_1 ?_
    simp (disch := omega) only [le_f, xin_t, ix_n32, n32_mul, n32_add, or0, Nat.add_zero, false_implies, not_false_eq_true, true_implies, true_and, hn]
    by_cases c0 : m 284 (99 + 12 * i + 3) = -(n32 1) <;> simp only [c0, cnt_succ, decide_true, decide_false, not_true_eq_false, not_false_eq_true, Bool.and_true, Bool.true_and, Bool.and_false, Bool.false_and, if_true, if_false, false_implies, true_implies, and_true, true_and, Bool.false_eq_true] at ih ⊢ <;> exact ih
  · refine w232_1 ?_
    simp (disch := omega) only [le_f, xin_t, ix_n32, n32_mul, n32_add, or0, Nat.add_zero, false_implies, not_false_eq_true, true_implies, true_and, hn]
    exact ⟨fun _ => h, fun c => absurd (n32_rfl n) c⟩
theorem s233 {n : Nat}   {Q : Int32 → XM → Prop} (hn : m 284 8 = n32 n) (h12 : n ≤ 12)  (h : Q (n32 (cnt n fun k => decide (m 284 (171 + 3 * k + 2) = n32 0))) m) : VI (D + 1) 233 [vR 11 283] m Q E := by
  refine w233_0 (up (C := fun i => VLI (D + 1) 233 1 [(0, vR 11 283), (1, vI (n32 (cnt i fun k => decide (m 284 (171 + 3 * k + 2) = n32 0)))), (2, vI (n32 i))] [] m Q E) (n := n) ?_ ?_ 0 (Nat.zero_le _))
  · intro i hi ih
    refine w233_1 ?_
    simp (disch := omega) only [le_f, xin_t, ix_n32, n32_mul, n32_add, or0, Nat.add_zero, false_implies, not_false_eq_true, true_implies, true_and, hn]
    by_cases c0 : m 284 (171 + 3 * i + 2) = n32 0 <;> simp only [c0, cnt_succ, decide_true, decide_false, not_true_eq_false, not_false_eq_true, Bool.and_true, Bool.true_and, Bool.and_false, Bool.false_and, if_true, if_false, false_implies, true_implies, and_true, true_and, Bool.false_eq_true] at ih ⊢ <;> exact ih
  · refine w233_1 ?_
    simp (disch := omega) only [le_f, xin_t, ix_n32, n32_mul, n32_add, or0, Nat.add_zero, false_implies, not_false_eq_true, true_implies, true_and, hn]
    exact ⟨fun _ => h, fun c => absurd (n32_rfl n) c⟩
theorem s234 {n : Nat}   {Q : Int32 → XM → Prop} (hn : m 284 6 = n32 n) (h12 : n ≤ 12)  (h : Q (n32 (cnt n fun k => decide (m 284 (15 + 7 * k + 4) = n32 0))) m) : VI (D + 1) 234 [vR 11 283] m Q E := by
  refine w234_0 (up (C := fun i => VLI (D + 1) 234 1 [(0, vR 11 283), (1, vI (n32 (cnt i fun k => decide (m 284 (15 + 7 * k + 4) = n32 0)))), (2, vI (n32 i))] [] m Q E) (n := n) ?_ ?_ 0 (Nat.zero_le _))
  · intro i hi ih
    refine w234_1 ?_
    simp (disch := omega) only [le_f, xin_t, ix_n32, n32_mul, n32_add, or0, Nat.add_zero, false_implies, not_false_eq_true, true_implies, true_and, hn]
    by_cases c0 : m 284 (15 + 7 * i + 4) = n32 0 <;> simp only [c0, cnt_succ, decide_true, decide_false, not_true_eq_false, not_false_eq_true, Bool.and_true, Bool.true_and, Bool.and_false, Bool.false_and, if_true, if_false, false_implies, true_implies, and_true, true_and, Bool.false_eq_true] at ih ⊢ <;> exact ih
  · refine w234_1 ?_
    simp (disch := omega) only [le_f, xin_t, ix_n32, n32_mul, n32_add, or0, Nat.add_zero, false_implies, not_false_eq_true, true_implies, true_and, hn]
    exact ⟨fun _ => h, fun c => absurd (n32_rfl n) c⟩
theorem s235 {n : Nat}   {Q : Int32 → XM → Prop} (hn : m 284 6 = n32 n) (h12 : n ≤ 12)  (h : Q (n32 (cnt n fun k => decide (m 284 (15 + 7 * k) = m 284 (15 + 7 * k + 6)))) m) : VI (D + 1) 235 [vR 11 283] m Q E := by
  refine w235_0 (up (C := fun i => VLI (D + 1) 235 1 [(0, vR 11 283), (1, vI (n32 (cnt i fun k => decide (m 284 (15 + 7 * k) = m 284 (15 + 7 * k + 6))))), (2, vI (n32 i))] [] m Q E) (n := n) ?_ ?_ 0 (Nat.zero_le _))
  · intro i hi ih
    refine w235_1 ?_
    simp (disch := omega) only [le_f, xin_t, ix_n32, n32_mul, n32_add, or0, Nat.add_zero, false_implies, not_false_eq_true, true_implies, true_and, hn]
    by_cases c0 : m 284 (15 + 7 * i) = m 284 (15 + 7 * i + 6) <;> simp only [c0, cnt_succ, decide_true, decide_false, not_true_eq_false, not_false_eq_true, Bool.and_true, Bool.true_and, Bool.and_false, Bool.false_and, if_true, if_false, false_implies, true_implies, and_true, true_and, Bool.false_eq_true] at ih ⊢ <;> exact ih
  · refine w235_1 ?_
    simp (disch := omega) only [le_f, xin_t, ix_n32, n32_mul, n32_add, or0, Nat.add_zero, false_implies, not_false_eq_true, true_implies, true_and, hn]
    exact ⟨fun _ => h, fun c => absurd (n32_rfl n) c⟩
theorem s245 {n : Nat} {b : Nat}  {Q : Int32 → XM → Prop} (hn : m 284 6 = n32 n) (h12 : n ≤ 12) (hb : b < 12) (h : Q (n32 (cnt n fun k => decide (¬ m 284 (15 + 7 * b + 4) ≤ m 284 (15 + 7 * k + 4)))) m) : VI (D + 1) 245 [vR 11 283, vI (n32 b)] m Q E := by
  refine w245_0 (up (C := fun i => VLI (D + 1) 245 1 [(0, vR 11 283), (1, vI (n32 b)), (2, vI (n32 (cnt i fun k => decide (¬ m 284 (15 + 7 * b + 4) ≤ m 284 (15 + 7 * k + 4))))), (3, vI (n32 i))] [] m Q E) (n := n) ?_ ?_ 0 (Nat.zero_le _))
  · intro i hi ih
    refine w245_1 ?_
    simp (disch := omega) only [le_f, xin_t, ix_n32, n32_mul, n32_add, or0, Nat.add_zero, false_implies, not_false_eq_true, true_implies, true_and, hn]
    by_cases c0 : m 284 (15 + 7 * b + 4) ≤ m 284 (15 + 7 * i + 4) <;> simp only [c0, cnt_succ, decide_true, decide_false, not_true_eq_false, not_false_eq_true, Bool.and_true, Bool.true_and, Bool.and_false, Bool.false_and, if_true, if_false, false_implies, true_implies, and_true, true_and, Bool.false_eq_true] at ih ⊢ <;> exact ih
  · refine w245_1 ?_
    simp (disch := omega) only [le_f, xin_t, ix_n32, n32_mul, n32_add, or0, Nat.add_zero, false_implies, not_false_eq_true, true_implies, true_and, hn]
    exact ⟨fun _ => h, fun c => absurd (n32_rfl n) c⟩
theorem s251 {n : Nat} {s : Nat}  {Q : Int32 → XM → Prop} (hn : m 284 6 = n32 n) (h12 : n ≤ 12) (hs : s < 6) (h : Q (n32 (cnt n fun k => decide (¬ m 284 (15 + 7 * k + 1) ≤ m 284 (99 + 12 * s + 1) + m 284 1))) m) : VI (D + 1) 251 [vR 11 283, vI (n32 s)] m Q E := by
  refine w251_0 (up (C := fun i => VLI (D + 1) 251 1 [(0, vR 11 283), (1, vI (n32 s)), (2, vI (n32 (cnt i fun k => decide (¬ m 284 (15 + 7 * k + 1) ≤ m 284 (99 + 12 * s + 1) + m 284 1)))), (3, vI (n32 i))] [] m Q E) (n := n) ?_ ?_ 0 (Nat.zero_le _))
  · intro i hi ih
    refine w251_1 ?_
    simp (disch := omega) only [le_f, xin_t, ix_n32, n32_mul, n32_add, or0, Nat.add_zero, false_implies, not_false_eq_true, true_implies, true_and, hn]
    by_cases c0 : m 284 (15 + 7 * i + 1) ≤ m 284 (99 + 12 * s + 1) + m 284 1 <;> simp only [c0, cnt_succ, decide_true, decide_false, not_true_eq_false, not_false_eq_true, Bool.and_true, Bool.true_and, Bool.and_false, Bool.false_and, if_true, if_false, false_implies, true_implies, and_true, true_and, Bool.false_eq_true] at ih ⊢ <;> exact ih
  · refine w251_1 ?_
    simp (disch := omega) only [le_f, xin_t, ix_n32, n32_mul, n32_add, or0, Nat.add_zero, false_implies, not_false_eq_true, true_implies, true_and, hn]
    exact ⟨fun _ => h, fun c => absurd (n32_rfl n) c⟩
theorem s252 {n : Nat} {s : Nat}  {Q : Int32 → XM → Prop} (hn : m 284 6 = n32 n) (h12 : n ≤ 12) (hs : s < 6) (h : Q (n32 (cnt n fun k => decide (¬ m 284 (99 + 12 * s + 1) - m 284 1 ≤ m 284 (15 + 7 * k + 1)))) m) : VI (D + 1) 252 [vR 11 283, vI (n32 s)] m Q E := by
  refine w252_0 (up (C := fun i => VLI (D + 1) 252 1 [(0, vR 11 283), (1, vI (n32 s)), (2, vI (n32 (cnt i fun k => decide (¬ m 284 (99 + 12 * s + 1) - m 284 1 ≤ m 284 (15 + 7 * k + 1))))), (3, vI (n32 i))] [] m Q E) (n := n) ?_ ?_ 0 (Nat.zero_le _))
  · intro i hi ih
    refine w252_1 ?_
    simp (disch := omega) only [le_f, xin_t, ix_n32, n32_mul, n32_add, or0, Nat.add_zero, false_implies, not_false_eq_true, true_implies, true_and, hn]
    by_cases c0 : m 284 (99 + 12 * s + 1) - m 284 1 ≤ m 284 (15 + 7 * i + 1) <;> simp only [c0, cnt_succ, decide_true, decide_false, not_true_eq_false, not_false_eq_true, Bool.and_true, Bool.true_and, Bool.and_false, Bool.false_and, if_true, if_false, false_implies, true_implies, and_true, true_and, Bool.false_eq_true] at ih ⊢ <;> exact ih
  · refine w252_1 ?_
    simp (disch := omega) only [le_f, xin_t, ix_n32, n32_mul, n32_add, or0, Nat.add_zero, false_implies, not_false_eq_true, true_implies, true_and, hn]
    exact ⟨fun _ => h, fun c => absurd (n32_rfl n) c⟩
end QB
