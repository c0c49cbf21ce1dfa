/-! Pairs: setting, plan, lying, count, bearer, stand (written by program). -/
theorem z_iff {x : Int32} {hi : Nat} (h : inR x 0 hi) (hh : hi < 2147483648) : ¬ n32 0 < x ↔ x = n32 0 := by
  obtain ⟨n, -, h2, rfl⟩ := h
  rw [n32_lt (by omega) (by omega)]
  constructor
  · intro h; rw [show n = 0 by omega]
  · intro h; have := n32_inj (by omega) (by omega) h; omega
theorem bst_none {n : Nat} {p : Nat → Bool} {lt : Nat → Nat → Bool} (hn : n < 2147483648) : bst n p lt = -(n32 1) ↔ cnt n p = 0 := by
  induction n with
  | zero => exact ⟨fun _ => rfl, fun _ => rfl⟩
  | succ n ih =>
    have ih := ih (by omega)
    have e : bst (n + 1) p lt = if p n && (bst n p lt == -(n32 1) || lt n (ix (bst n p lt))) then n32 n else bst n p lt := rfl
    rw [e, cnt_succ]
    by_cases hp : p n = true
    · rw [if_pos hp, hp, Bool.true_and]
      refine ⟨fun h => ?_, fun h => absurd h (by omega)⟩
      split at h
      · exact absurd h (n32_nm1 (by omega))
      · rename_i hq
        rw [h, BEq.rfl, Bool.true_or] at hq
        exact absurd rfl hq
    · rw [if_neg hp]
      have : p n = false := by cases h : p n with
        | true => exact absurd h hp
        | false => rfl
      rw [this, Bool.false_and, if_neg (by decide)]
      exact ih
section S85
variable {D : Nat} {m : XM} {g : PG} {E : Nat → XM → Prop}
end S85

