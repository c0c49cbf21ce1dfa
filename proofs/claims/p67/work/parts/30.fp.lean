/-! Strides: finitely many, by the kernel. -/
def fcond (x : UInt32) : Bool := decide (x &&& 0x7fffffff ≤ 0x7f800000)
def stride (x y : Int32) : Int32 := FP.f2i (FP.fdiv (FP.fmul (FP.i2f x) (FP.i2f y)) (UInt32.ofNat 1120403456))
def strideChk (x y : Nat) : Bool := fcond (FP.fmul (FP.i2f (n32 x)) (FP.i2f (n32 y))) && fcond (FP.fdiv (FP.fmul (FP.i2f (n32 x)) (FP.i2f (n32 y))) (UInt32.ofNat 1120403456)) && decide (n32 0 ≤ stride (n32 x) (n32 y)) && decide (stride (n32 x) (n32 y) ≤ n32 200)
theorem strideChk_0 : ((List.range 30).all fun x => (List.range 101).all fun y => strideChk (0 + x) y) = true := by decide +kernel
theorem strideChk_1 : ((List.range 30).all fun x => (List.range 101).all fun y => strideChk (30 + x) y) = true := by decide +kernel
theorem strideChk_2 : ((List.range 30).all fun x => (List.range 101).all fun y => strideChk (60 + x) y) = true := by decide +kernel
theorem strideChk_3 : ((List.range 30).all fun x => (List.range 101).all fun y => strideChk (90 + x) y) = true := by decide +kernel
theorem strideChk_4 : ((List.range 30).all fun x => (List.range 101).all fun y => strideChk (120 + x) y) = true := by decide +kernel
theorem strideChk_5 : ((List.range 30).all fun x => (List.range 101).all fun y => strideChk (150 + x) y) = true := by decide +kernel
theorem strideChk_6 : ((List.range 21).all fun x => (List.range 101).all fun y => strideChk (180 + x) y) = true := by decide +kernel
theorem strideChk_ok {x y : Nat} (hx : x ≤ 200) (hy : y ≤ 100) : strideChk x y = true := by
  have go : ∀ q, q < 6 → ((List.range 30).all fun x => (List.range 101).all fun y => strideChk (30 * q + x) y) = true := by
    intro q hq
    match q, hq with
    | 0, _ => exact strideChk_0
    | 1, _ => exact strideChk_1
    | 2, _ => exact strideChk_2
    | 3, _ => exact strideChk_3
    | 4, _ => exact strideChk_4
    | 5, _ => exact strideChk_5
  by_cases h6 : x < 180
  · have h := List.all_eq_true.mp (List.all_eq_true.mp (go (x / 30) (by omega)) (x % 30) (List.mem_range.mpr (by omega))) y (List.mem_range.mpr (by omega))
    rw [Nat.div_add_mod] at h
    exact h
  · have h := List.all_eq_true.mp (List.all_eq_true.mp strideChk_6 (x - 180) (List.mem_range.mpr (by omega))) y (List.mem_range.mpr (by omega))
    rw [show 180 + (x - 180) = x by omega] at h
    exact h
