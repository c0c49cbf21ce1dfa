/-! Pair: restore. -/
section RSQ
variable {D : Nat} {m : XM} {E : Nat → XM → Prop}
theorem code11 : codeOf (n32 1) (n32 0) (n32 1) = 2 := code2 _
end RSQ

