/-! Pair: swappers. -/
section SPQ
variable {D : Nat} {m : XM} {g : PG} {E : Nat → XM → Prop}
def swpG (g : PG) (b : Nat) : Bool := decide (b + 1 < nBr g) && mayG g b
theorem swp_if {g : PG} {b : Nat} (hb : b + 1 < nBr g) : swpG g b = mayG g b := by unfold swpG; rw [decide_eq_true hb, Bool.true_and]
theorem swp_no {g : PG} {b : Nat} (hb : ¬ b + 1 < nBr g) : swpG g b = false := by unfold swpG; rw [decide_eq_false hb, Bool.false_and]
end SPQ

