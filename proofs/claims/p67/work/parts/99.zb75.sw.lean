/-! Pair: swap. -/
section SWQ
variable {D : Nat} {m : XM} {g : PG} {E : Nat → XM → Prop}
theorem s74' {a b : Nat} {Q : Int32 → XM → Prop} (w : WF g) (r : RS m a g) (hb : b < nBr g) (hb2 : ¬ b + 1 < nBr g) (h : Q (n32 0) m) : VI (D + 1) 74 [vR 8 a, vI (n32 b)] m Q E := by
  have a2 := w.nb
  have h6 : m (a + 3) 0 = n32 (nBr g) := by rw [r.nb]; exact w.1.1
  refine w74_0 ⟨fun c => absurd ((n32_lt (by omega) (by omega)).mp c) (by omega), fun _ => ⟨fun _ => h, fun c => ?_⟩⟩
  rw [h6, n32_add] at c
  exact absurd ((n32_le (by omega) (by omega)).mpr (by omega)) c
end SWQ

