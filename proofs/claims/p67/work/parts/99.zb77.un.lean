/-! Pair: undo. -/
section UND
variable {D : Nat} {m : XM} {E : Nat → XM → Prop}
/-- a State that was copied over the present one -/
theorem SS_back {m mf : XM} {a N N' : Nat} {g x : PG} (h : SS m a g N) (hN : N ≤ N') (hc : ∀ d j, cpv d j → mf (29 + d) j = m (a + d) j) (hx : ∀ i, i < 243 → x i = g i) (hrt : ∀ d j, d < 5 → mf (69 + d) j = m (69 + d) j) : SS mf 29 x N' := by
  refine SS_ext hx ?_
  obtain ⟨r1, r2, r3, T, hT, si⟩ := h
  have w := si.w
  have a2 := w.nb
  have a4 := w.ns
  have a6 := w.np
  have a9 := w.nl
  refine ⟨?_, ?_, RT_eq r3 hrt, T, hT, SI_le si (by omega)⟩
  · intro d j i hd
    rw [hc d j (lvn_cpv (lvn_up hd a2 (by omega) a6))]
    exact r1 d j i hd
  · intro s hs
    rw [hc 2 s (Or.inr (Or.inl ⟨Or.inr rfl, by omega⟩))]
    exact r2 s hs
end UND

