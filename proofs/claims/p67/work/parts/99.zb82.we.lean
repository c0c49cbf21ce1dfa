/-! Pair: weakest. -/
section WEQ
variable {D : Nat} {m : XM} {g : PG} {E : Nat → XM → Prop}
def wkG (g : PG) (n : Nat) : Int32 := bst n (fun _ => true) (fun k b => decide (¬ g (15 + 7 * b + 4) ≤ g (15 + 7 * k + 4)))
theorem wkG_succ (g : PG) (n : Nat) : wkG g (n + 1) = if (wkG g n == -(n32 1) || decide (¬ g (15 + 7 * ix (wkG g n) + 4) ≤ g (15 + 7 * n + 4))) = true then n32 n else wkG g n := by
  unfold wkG
  rw [bst_succ, Bool.true_and]
end WEQ

