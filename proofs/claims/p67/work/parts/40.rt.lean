/-! The reference's tick, over its array. -/
section RT
variable {D : Nat} {m : XM} {g : PG} {E : Nat → XM → Prop}
/-- the places before a tick, as far as they are written -/
def bfm (m : XM) (g : PG) (i : Nat) : XM := fun a k => if a = 291 ∧ k < i then g (15 + 7 * k + 1) else m a k
theorem bfm_um (m : XM) (g : PG) (i : Nat) : um (bfm m g i) 291 i (g (15 + 7 * i + 1)) = bfm m g (i + 1) := by
  funext a k
  unfold um bfm
  by_cases h1 : a = 291
  · subst h1
    by_cases h2 : k = i
    · subst h2; simp
    · by_cases h3 : k < i
      · simp [h2, h3, show k < i + 1 by omega]
      · simp [h2, h3, show ¬ k < i + 1 by omega]
  · simp [h1]
end RT

