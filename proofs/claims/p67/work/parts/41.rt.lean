/-! The reference lifts; its tick up to the reading of words. -/
section RT2
variable {D : Nat} {m : XM} {g : PG} {E : Nat → XM → Prop}
theorem shiftG_0 (g : PG) (lo : Nat) : shiftG g lo lo = g := by
  funext i; unfold shiftG; rw [if_neg (by omega)]
theorem shiftG_succ (g : PG) {lo i : Nat} (h : lo ≤ i) : gup (shiftG g lo i) i (shiftG g lo i (i + 3)) = shiftG g lo (i + 1) := by
  funext j
  unfold gup shiftG
  by_cases h1 : j = i
  · subst h1; rw [if_pos rfl, if_neg (by omega), if_pos (by omega)]
  · rw [if_neg h1]
    by_cases h2 : lo ≤ j ∧ j < i
    · rw [if_pos h2, if_pos (by omega)]
    · rw [if_neg h2, if_neg (by omega)]
theorem place_moves (g : PG) : ∀ i j, i ≤ j → itr i moveG g (15 + 7 * j + 1) = g (15 + 7 * j + 1) := by
  intro i
  induction i with
  | zero => intro j _; rfl
  | succ i ih =>
    intro j hj
    have e : itr (i + 1) moveG g = moveG i (itr i moveG g) := rfl
    rw [e, ← ih j (by omega)]
    unfold moveG strG
    split
    · rw [gup_ne (by omega)]
    · rw [gup_ne (by omega), gup_ne (by omega), gup_ne (by omega)]
/-- what stays of a memory over a tick of the reference: all but its array, the places before and the text -/
def rfr (m m' : XM) : Prop := ∀ a k, a ≠ 284 → a ≠ 290 → a ≠ 291 → ¬ (a = 283 ∧ k = 18) → m' a k = m a k
theorem rfr.rf (m : XM) : rfr m m := fun _ _ _ _ _ _ => rfl
theorem rfr.tr {m1 m2 m3 : XM} (h1 : rfr m1 m2) (h2 : rfr m2 m3) : rfr m1 m3 := fun a k c1 c2 c3 c4 => (h2 a k c1 c2 c3 c4).trans (h1 a k c1 c2 c3 c4)
theorem bfm_fr (m : XM) (g : PG) (i : Nat) : rfr m (bfm m g i) := fun a k _ _ c _ => if_neg fun e => c e.1
end RT2

