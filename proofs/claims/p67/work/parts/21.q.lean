/-! Questions that change nothing: the component's rows, banners and plans. -/
def iabs (v : Int32) : Int32 := if n32 0 ≤ v then v else -v
def imax (a b : Int32) : Int32 := if a < b then b else a
def imin (a b : Int32) : Int32 := if b < a then b else a
section QA
variable {D : Nat} {m : XM} {E : Nat → XM → Prop}
theorem s384 {v : Int32} {Q : Int32 → XM → Prop} (h : Q (iabs v) m) : VI D 384 [vI v] m Q E :=
  w384_0 ⟨fun c => by rw [iabs, if_pos c] at h; exact h, fun c => by rw [iabs, if_neg c] at h; exact h⟩
theorem s385 {a b : Int32} {Q : Int32 → XM → Prop} (h : Q (imax a b) m) : VI D 385 [vI a, vI b] m Q E :=
  w385_0 ⟨fun c => by rw [imax, if_pos c] at h; exact h, fun c => by rw [imax, if_neg c] at h; exact h⟩
theorem s386 {a b : Int32} {Q : Int32 → XM → Prop} (h : Q (imin a b) m) : VI D 386 [vI a, vI b] m Q E :=
  w386_0 ⟨fun c => by rw [imin, if_pos c] at h; exact h, fun c => by rw [imin, if_neg c] at h; exact h⟩
theorem s8 {a n : Nat} {v1 v2 : Int32} {Q : Int32 → XM → Prop} (hn : m a 0 = n32 n) (h12 : n ≤ 12) (h : Q (bst n (fun k => decide (¬ m (a + 2) k < v1) && decide (¬ v2 < m (a + 2) k)) (fun k b => decide (¬ m (a + 2) k ≤ m (a + 2) b))) m) : VI D 8 [vR 1 a, vI v1, vI v2] m Q E := by
  refine w8_0 (up (C := fun i => VLI D 8 1 [(0, vR 1 a), (1, vI v1), (2, vI v2), (3, vI (bst i (fun k => decide (¬ m (a + 2) k < v1) && decide (¬ v2 < m (a + 2) k)) (fun k b => decide (¬ m (a + 2) k ≤ m (a + 2) b)))), (4, vI (n32 i))] [] m Q E) (n := n) ?_ ?_ 0 (Nat.zero_le _))
  · intro i hi ih
    refine w8_1 ?_
    rw [hn]
    simp (disch := omega) only [le_f, xin_t, ix_n32, n32_add, false_implies, not_false_eq_true, true_implies, true_and]
    rcases bst_rng i (fun k => decide (¬ m (a + 2) k < v1) && decide (¬ v2 < m (a + 2) k)) (fun k b => decide (¬ m (a + 2) k ≤ m (a + 2) b)) (by omega) with hb | ⟨j, hj, -, hb⟩
    · rw [bst_succ, hb] at ih
      rw [hb]
      by_cases c1 : m (a + 2) i < v1 <;> by_cases c2 : v2 < m (a + 2) i <;> simpa [c1, c2] using ih
    · rw [bst_succ, hb] at ih
      rw [hb]
      have hne : ¬ n32 j = -(n32 1) := n32_nm1 (by omega)
      simp (disch := omega) only [nm1_f, xin_t, ix_n32] at ih ⊢
      by_cases c1 : m (a + 2) i < v1 <;> by_cases c2 : v2 < m (a + 2) i <;> by_cases c3 : m (a + 2) i ≤ m (a + 2) j <;> simpa [c1, c2, c3, hne] using ih
  · refine w8_1 ?_
    rw [hn]
    exact ⟨fun _ => h, fun c => absurd (n32_rfl n) c⟩
end QA
