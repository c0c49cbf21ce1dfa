/-! The bytes of a whole number that is put together byte by byte. -/
theorem xby_def (x : Int32) (k : Nat) : xby x k = x.toBitVec.toNat / 2 ^ (8 * k) % 256 := rfl
/-- one byte more, behind -/
def qpk (x : Int32) (c : Nat) : Int32 := (x <<< ((8 : Int32) &&& 31)) ||| n32 c
theorem qpk_nat (x : Int32) {c : Nat} (hc : c < 256) : (qpk x c).toBitVec.toNat = (x.toBitVec.toNat * 256) % 4294967296 + c := by
  unfold qpk
  rw [Int32.toBitVec_or, BitVec.toNat_or]
  have e1 : (x <<< ((8 : Int32) &&& 31)).toBitVec.toNat = (x.toBitVec.toNat * 256) % 4294967296 := by
    show (x.toBitVec <<< (8 : BitVec 32)).toNat = _
    rw [BitVec.shiftLeft_eq', BitVec.toNat_shiftLeft, Nat.shiftLeft_eq]
    rfl
  have e2 : (n32 c).toBitVec.toNat = c := by
    show (BitVec.ofNat 32 c).toNat = c
    rw [BitVec.toNat_ofNat]; omega
  rw [e1, e2]
  have e3 : (x.toBitVec.toNat * 256) % 4294967296 = 2 ^ 8 * (x.toBitVec.toNat % 16777216) := by omega
  rw [e3, ← Nat.two_pow_add_eq_or_of_lt (i := 8) (by omega)]
theorem xby_pk0 (x : Int32) {c : Nat} (hc : c < 256) : xby (qpk x c) 0 = c := by
  rw [xby_def, qpk_nat x hc]; omega
theorem xby_pk {x : Int32} {c k : Nat} (hc : c < 256) (hk : k < 3) : xby (qpk x c) (k + 1) = xby x k := by
  rw [xby_def, xby_def, qpk_nat x hc]
  have : k = 0 ∨ k = 1 ∨ k = 2 := by omega
  rcases this with rfl | rfl | rfl
  · show (_ + c) / 256 % 256 = _ / 1 % 256
    omega
  · show (_ + c) / 65536 % 256 = _ / 256 % 256
    omega
  · show (_ + c) / 16777216 % 256 = _ / 65536 % 256
    omega
theorem wb_xby (v : Int32) {k : Nat} (hk : k < 4) : wb v k = n32 (xby v (3 - k)) := by
  unfold wb
  apply Int32.toBitVec_inj.mp
  apply BitVec.eq_of_toNat_eq
  rw [Int32.toBitVec_and, BitVec.toNat_and]
  have e2 : (n32 255).toBitVec.toNat = 2 ^ 8 - 1 := by decide
  rw [e2, Nat.and_two_pow_sub_one_eq_mod]
  have hx : xby v (3 - k) < 256 := Nat.mod_lt _ (by decide)
  have e3 : (n32 (xby v (3 - k))).toBitVec.toNat = xby v (3 - k) := by
    show (BitVec.ofNat 32 _).toNat = _
    rw [BitVec.toNat_ofNat]; omega
  rw [e3, xby_def]
  have : k = 0 ∨ k = 1 ∨ k = 2 ∨ k = 3 := by omega
  rcases this with rfl | rfl | rfl | rfl
  · show (v.toBitVec >>> (24 : BitVec 32)).toNat % 256 = _
    rw [BitVec.ushiftRight_eq', BitVec.toNat_ushiftRight, Nat.shiftRight_eq_div_pow]; rfl
  · show (v.toBitVec >>> (16 : BitVec 32)).toNat % 256 = _
    rw [BitVec.ushiftRight_eq', BitVec.toNat_ushiftRight, Nat.shiftRight_eq_div_pow]; rfl
  · show (v.toBitVec >>> (8 : BitVec 32)).toNat % 256 = _
    rw [BitVec.ushiftRight_eq', BitVec.toNat_ushiftRight, Nat.shiftRight_eq_div_pow]; rfl
  · show (v.toBitVec >>> (0 : BitVec 32)).toNat % 256 = _
    rw [BitVec.ushiftRight_eq', BitVec.toNat_ushiftRight, Nat.shiftRight_eq_div_pow]; rfl
