/-! Pair: save. -/
section SVQ
variable {D : Nat} {m : XM} {E : Nat → XM → Prop}
/-- a State that was copied to another place -/
theorem SS_to {m mf : XM} {a b N N' : Nat} {g x : PG} (h : SS m a g N) (hN : N ≤ N') (hc : ∀ d j, cpv d j → mf (b + d) j = m (a + d) j) (hx : ∀ i, i < 243 → x i = g i) (hrt : ∀ d j, d < 5 → mf (69 + d) j = m (69 + d) j) : SS mf b x N' := by
  refine SS_ext hx ?_
  obtain ⟨r1, r2, r3, T, hT, si⟩ := h
  have w := si.w
  have a2 := w.nb
  have a4 := w.ns
  have a6 := w.np
  have a9 := w.nl
  refine ⟨?_, ?_, RT_eq r3 hrt, T, hT, SI_le si (by omega)⟩
  · intro d j i hd
    rw [hc d j (lvn_cpv (lvn_up hd a2 (by omega) a6))]
    exact r1 d j i hd
  · intro s hs
    rw [hc 2 s (Or.inr (Or.inl ⟨Or.inr rfl, by omega⟩))]
    exact r2 s hs
theorem slot_cases (v : Int32) : (v < n32 0) ∨ (¬ v < n32 0 ∧ n32 1 < v ∧ ¬ v < n32 2) ∨ ∃ s, s < 2 ∧ v = n32 s := by
  by_cases c1 : v < n32 0
  · exact Or.inl c1
  · right
    by_cases c2 : n32 1 < v
    · refine Or.inl ⟨c1, c2, ?_⟩
      rw [Int32.lt_iff_toInt_lt, n32_toInt (by omega)] at c2 ⊢
      omega
    · right
      rw [Int32.lt_iff_toInt_lt, n32_toInt (by omega)] at c1 c2
      refine ⟨v.toInt.toNat, by omega, ?_⟩
      apply Int32.toInt_inj.mp
      rw [n32_toInt (by omega)]; omega
end SVQ

