/-! The mean of strength and its bits: finitely many, by the kernel. -/
def dbF (e : Int64) (x : UInt64) : Option Int64 := if FP.dsub x FP.dconst1 &&& 0x7fffffffffffffff ≤ 0x7ff0000000000000 ∧ FP.dmul (FP.dsub x FP.dconst1) (UInt64.ofNat 4841369599423283200) &&& 0x7fffffffffffffff ≤ 0x7ff0000000000000 then some ((e <<< ((n32 52).toInt64 &&& 63)) + FP.d2l (FP.dmul (FP.dsub x FP.dconst1) (UInt64.ofNat 4841369599423283200))) else none
def dbB : Nat → Int64 → UInt64 → Option Int64
  | 0, e, x => dbF e x
  | k + 1, e, x => if Op.cmpValue (FP.dcmp x (UInt64.ofNat 4611686018427387904)) .l < n32 0 then dbF e x else if FP.ddiv x (UInt64.ofNat 4611686018427387904) &&& 0x7fffffffffffffff ≤ 0x7ff0000000000000 then dbB k (e + Int64.ofNat 1) (FP.ddiv x (UInt64.ofNat 4611686018427387904)) else none
def dbA : Nat → Int64 → UInt64 → Option Int64
  | 0, e, x => dbB 60 e x
  | k + 1, e, x => if n32 0 ≤ Op.cmpValue (FP.dcmp x FP.dconst1) .g then dbB 60 e x else if FP.dmul x (UInt64.ofNat 4611686018427387904) &&& 0x7fffffffffffffff ≤ 0x7ff0000000000000 then dbA k (e - Int64.ofNat 1) (FP.dmul x (UInt64.ofNat 4611686018427387904)) else none
theorem dbB_0 (e : Int64) (x : UInt64) : dbB 0 e x = dbF e x := by rw [dbB]
theorem dbB_s (k : Nat) (e : Int64) (x : UInt64) : dbB (k + 1) e x = if Op.cmpValue (FP.dcmp x (UInt64.ofNat 4611686018427387904)) .l < n32 0 then dbF e x else if FP.ddiv x (UInt64.ofNat 4611686018427387904) &&& 0x7fffffffffffffff ≤ 0x7ff0000000000000 then dbB k (e + Int64.ofNat 1) (FP.ddiv x (UInt64.ofNat 4611686018427387904)) else none := by rw [dbB]
theorem dbA_0 (e : Int64) (x : UInt64) : dbA 0 e x = dbB 60 e x := by rw [dbA]
theorem dbA_s (k : Nat) (e : Int64) (x : UInt64) : dbA (k + 1) e x = if n32 0 ≤ Op.cmpValue (FP.dcmp x FP.dconst1) .g then dbB 60 e x else if FP.dmul x (UInt64.ofNat 4611686018427387904) &&& 0x7fffffffffffffff ≤ 0x7ff0000000000000 then dbA k (e - Int64.ofNat 1) (FP.dmul x (UInt64.ofNat 4611686018427387904)) else none := by rw [dbA]
def dbT (x : UInt64) : Option Int64 := if n32 0 < Op.cmpValue (FP.dcmp x FP.dconst0) .g then dbA 60 (Int64.ofInt 1023) x else some (Int64.ofNat 0)
def mnOk (x : UInt64) : Bool := decide (x &&& 0x7fffffffffffffff ≤ 0x7ff0000000000000) && decide (dbT x = some x.toInt64) && decide (Op.cmpValue (FP.dcmp x x) .l = n32 0)
theorem mnOk_0 : mnOk FP.dconst0 = true := by decide +kernel
theorem mnOk_1 : ((List.range 101).all fun s => mnOk (FP.ddiv (FP.i2d (n32 s)) (FP.i2d (n32 1)))) = true := by decide +kernel
theorem mnOk_2 : ((List.range 201).all fun s => mnOk (FP.ddiv (FP.i2d (n32 s)) (FP.i2d (n32 2)))) = true := by decide +kernel
theorem mnOk_3 : ((List.range 301).all fun s => mnOk (FP.ddiv (FP.i2d (n32 s)) (FP.i2d (n32 3)))) = true := by decide +kernel
theorem mnOk_4 : ((List.range 401).all fun s => mnOk (FP.ddiv (FP.i2d (n32 s)) (FP.i2d (n32 4)))) = true := by decide +kernel
theorem mnOk_5 : ((List.range 501).all fun s => mnOk (FP.ddiv (FP.i2d (n32 s)) (FP.i2d (n32 5)))) = true := by decide +kernel
theorem mnOk_6 : ((List.range 601).all fun s => mnOk (FP.ddiv (FP.i2d (n32 s)) (FP.i2d (n32 6)))) = true := by decide +kernel
theorem mnOk_7 : ((List.range 701).all fun s => mnOk (FP.ddiv (FP.i2d (n32 s)) (FP.i2d (n32 7)))) = true := by decide +kernel
theorem mnOk_8 : ((List.range 801).all fun s => mnOk (FP.ddiv (FP.i2d (n32 s)) (FP.i2d (n32 8)))) = true := by decide +kernel
theorem mnOk_9 : ((List.range 901).all fun s => mnOk (FP.ddiv (FP.i2d (n32 s)) (FP.i2d (n32 9)))) = true := by decide +kernel
theorem mnOk_10 : ((List.range 1001).all fun s => mnOk (FP.ddiv (FP.i2d (n32 s)) (FP.i2d (n32 10)))) = true := by decide +kernel
theorem mnOk_11 : ((List.range 1101).all fun s => mnOk (FP.ddiv (FP.i2d (n32 s)) (FP.i2d (n32 11)))) = true := by decide +kernel
theorem mnOk_12 : ((List.range 1201).all fun s => mnOk (FP.ddiv (FP.i2d (n32 s)) (FP.i2d (n32 12)))) = true := by decide +kernel
theorem mnOk_all {d s : Nat} (h1 : 1 ≤ d) (h2 : d ≤ 12) (hs : s ≤ 100 * d) : mnOk (FP.ddiv (FP.i2d (n32 s)) (FP.i2d (n32 d))) = true := by
  match d, h1, h2 with
  | 1, _, _ => exact List.all_eq_true.mp mnOk_1 s (List.mem_range.mpr (by omega))
  | 2, _, _ => exact List.all_eq_true.mp mnOk_2 s (List.mem_range.mpr (by omega))
  | 3, _, _ => exact List.all_eq_true.mp mnOk_3 s (List.mem_range.mpr (by omega))
  | 4, _, _ => exact List.all_eq_true.mp mnOk_4 s (List.mem_range.mpr (by omega))
  | 5, _, _ => exact List.all_eq_true.mp mnOk_5 s (List.mem_range.mpr (by omega))
  | 6, _, _ => exact List.all_eq_true.mp mnOk_6 s (List.mem_range.mpr (by omega))
  | 7, _, _ => exact List.all_eq_true.mp mnOk_7 s (List.mem_range.mpr (by omega))
  | 8, _, _ => exact List.all_eq_true.mp mnOk_8 s (List.mem_range.mpr (by omega))
  | 9, _, _ => exact List.all_eq_true.mp mnOk_9 s (List.mem_range.mpr (by omega))
  | 10, _, _ => exact List.all_eq_true.mp mnOk_10 s (List.mem_range.mpr (by omega))
  | 11, _, _ => exact List.all_eq_true.mp mnOk_11 s (List.mem_range.mpr (by omega))
  | 12, _, _ => exact List.all_eq_true.mp mnOk_12 s (List.mem_range.mpr (by omega))
