/-! Pairs: closedIn, passedIn. -/
section CLO
variable {D : Nat} {m : XM} {g : PG} {E : Nat → XM → Prop}
def pcl (g : PG) (b n : Nat) : Bool := decide (tkn g n (15 + 7 * (b - 1) + 1) - tkn g n (15 + 7 * b + 1) = g 0)
/-- all bearers are past a place -/
def pasG (x : PG) (e : Int32) : Bool := decide (cnt (nBr x) (fun k => decide (¬ x (15 + 7 * k + 1) ≤ e)) = nBr x)
theorem and10 : n32 1 &&& n32 1 = n32 1 ∧ n32 0 &&& n32 1 = n32 0 ∧ n32 1 &&& n32 0 = n32 0 ∧ n32 0 &&& n32 0 = n32 0 := by decide
def ppa (g : PG) (s n : Nat) : Bool := pasG (tkn g n) (g (99 + 12 * s + 1) + g 1)
end CLO

