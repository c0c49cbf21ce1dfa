/-! Pairs: what would be (written by program: wip/whole/mkin.py). -/
section PIN
variable {D : Nat} {m : XM} {E : Nat → XM → Prop}
theorem far_cases (v : Int32) : v < n32 0 ∨ (¬ v < n32 0 ∧ n32 300 < v) ∨ ∃ n, n ≤ 300 ∧ v = n32 n := by
  by_cases c1 : v < n32 0
  · exact Or.inl c1
  · by_cases c2 : n32 300 < v
    · exact Or.inr (Or.inl ⟨c1, c2⟩)
    · right; right
      rw [Int32.lt_iff_toInt_lt, n32_toInt (by omega)] at c1 c2
      refine ⟨v.toInt.toNat, by omega, ?_⟩
      apply Int32.toInt_inj.mp
      rw [n32_toInt (by omega)]; omega
theorem code1 (x y : Int32) : codeOf (n32 0) x y = 1 := by unfold codeOf; rw [if_pos rfl]
theorem code2 (y : Int32) : codeOf (n32 1) (n32 0) y = 2 := by unfold codeOf; rw [if_neg n01, if_pos rfl]
theorem code3 : codeOf (n32 1) (n32 1) (n32 0) = 3 := by unfold codeOf; rw [if_neg n01, if_neg n01, if_pos rfl]
theorem xrt2_0 : xrt 2 (n32 0) = true := by decide
theorem xrt2_1 : xrt 2 (n32 1) = true := by decide
end PIN

