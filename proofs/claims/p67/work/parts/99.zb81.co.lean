/-! Pairs: copies, holder. -/
section COQ
variable {D : Nat} {m : XM} {g : PG} {E : Nat → XM → Prop}
theorem letter_cases (v : Int32) : (v < n32 1 ∧ inI v (n32 1) (n32 26) = n32 0) ∨ (¬ v < n32 1 ∧ n32 26 < v ∧ inI v (n32 1) (n32 26) = n32 0) ∨ (¬ v < n32 1 ∧ ¬ n32 26 < v ∧ inI v (n32 1) (n32 26) = n32 1) := by
  unfold inI
  by_cases c1 : v < n32 1
  · rw [if_pos c1]; exact Or.inl ⟨c1, rfl⟩
  · rw [if_neg c1]
    by_cases c2 : n32 26 < v
    · rw [if_pos c2]; exact Or.inr (Or.inl ⟨c1, c2, rfl⟩)
    · rw [if_neg c2]; exact Or.inr (Or.inr ⟨c1, c2, rfl⟩)
/-- the first bearer with a banner, from i on -/
def phl (g : PG) (v : Int32) (b : Nat) : Bool := decide (g (15 + 7 * b) = v)
end COQ

