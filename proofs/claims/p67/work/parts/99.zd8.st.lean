/-! No stride is longer than the step: finitely many, by the kernel. -/
def stlChk (x y : Nat) : Bool := decide (stride (n32 x) (n32 y) ≤ n32 x)
theorem stlChk_0 : ((List.range 30).all fun x => (List.range 101).all fun y => stlChk (0 + x) y) = true := by decide +kernel
theorem stlChk_1 : ((List.range 30).all fun x => (List.range 101).all fun y => stlChk (30 + x) y) = true := by decide +kernel
theorem stlChk_2 : ((List.range 30).all fun x => (List.range 101).all fun y => stlChk (60 + x) y) = true := by decide +kernel
theorem stlChk_3 : ((List.range 30).all fun x => (List.range 101).all fun y => stlChk (90 + x) y) = true := by decide +kernel
theorem stlChk_4 : ((List.range 30).all fun x => (List.range 101).all fun y => stlChk (120 + x) y) = true := by decide +kernel
theorem stlChk_5 : ((List.range 30).all fun x => (List.range 101).all fun y => stlChk (150 + x) y) = true := by decide +kernel
theorem stlChk_6 : ((List.range 21).all fun x => (List.range 101).all fun y => stlChk (180 + x) y) = true := by decide +kernel
theorem stlChk_ok {x y : Nat} (hx : x ≤ 200) (hy : y ≤ 100) : stlChk x y = true := by
  have go : ∀ q, q < 6 → ((List.range 30).all fun x => (List.range 101).all fun y => stlChk (30 * q + x) y) = true := by
    intro q hq
    match q, hq with
    | 0, _ => exact stlChk_0
    | 1, _ => exact stlChk_1
    | 2, _ => exact stlChk_2
    | 3, _ => exact stlChk_3
    | 4, _ => exact stlChk_4
    | 5, _ => exact stlChk_5
  by_cases h6 : x < 180
  · have h := List.all_eq_true.mp (List.all_eq_true.mp (go (x / 30) (by omega)) (x % 30) (List.mem_range.mpr (by omega))) y (List.mem_range.mpr (by omega))
    rw [Nat.div_add_mod] at h
    exact h
  · have h := List.all_eq_true.mp (List.all_eq_true.mp stlChk_6 (x - 180) (List.mem_range.mpr (by omega))) y (List.mem_range.mpr (by omega))
    rw [show 180 + (x - 180) = x by omega] at h
    exact h
theorem stl_ok {x y : Int32} (hx : inR x 0 200) (hy : inR y 0 100) : ¬ stride x y < n32 0 ∧ ¬ x < stride x y := by
  obtain ⟨s, s1, s2, s3⟩ := (stride_ok hx hy).2.2
  refine ⟨?_, ?_⟩
  · rw [s3, n32_lt (by omega) (by omega)]; omega
  · obtain ⟨a, -, a2, rfl⟩ := hx
    obtain ⟨b, -, b2, rfl⟩ := hy
    exact Int32.not_lt.mpr (of_decide_eq_true (stlChk_ok a2 b2))
