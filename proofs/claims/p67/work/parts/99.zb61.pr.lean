/-! Pairs: the questions of one stand. -/
theorem sub1 : ∀ n, n < 13 → (n32 n - n32 1).toInt = (n : Int) - 1 := by decide
theorem inI_cases {v : Int32} {n : Nat} (hn : n ≤ 12) : (inI v (n32 0) (n32 n - n32 1) = n32 0 ∧ (v < n32 0 ∨ ¬ v < n32 n)) ∨ ∃ k, k < n ∧ v = n32 k ∧ inI v (n32 0) (n32 n - n32 1) = n32 1 := by
  unfold inI
  by_cases c1 : v < n32 0
  · rw [if_pos c1]; exact Or.inl ⟨rfl, Or.inl c1⟩
  · rw [if_neg c1]
    by_cases c2 : n32 n - n32 1 < v
    · rw [if_pos c2]
      refine Or.inl ⟨rfl, Or.inr (fun h => ?_)⟩
      rw [Int32.lt_iff_toInt_lt] at c2 h
      rw [sub1 n (by omega)] at c2
      rw [n32_toInt (by omega)] at h
      omega
    · rw [if_neg c2]
      right
      rw [Int32.lt_iff_toInt_lt] at c1 c2
      rw [sub1 n (by omega)] at c2
      rw [n32_toInt (by omega)] at c1
      refine ⟨v.toInt.toNat, by omega, ?_, rfl⟩
      apply Int32.toInt_inj.mp
      rw [n32_toInt (by omega)]; omega
theorem n01 : ¬ n32 1 = n32 0 := by decide
theorem CPL.ld {m : XM} {N : Nat} (h : CPL m N) : (m 0 7 = n32 0 ∧ m 283 6 = n32 0) ∨ (m 0 7 = n32 1 ∧ m 283 6 = n32 1 ∧ SS m 29 (m 284) N) := by
  obtain ⟨⟨a1, a2⟩, a3, -⟩ := h
  rcases a2 with a2 | a2
  · exact Or.inl ⟨a2, by rw [← a1]; exact a2⟩
  · exact Or.inr ⟨a2, by rw [← a1]; exact a2, a3 a2⟩
theorem stand_cases {m : XM} {N : Nat} (h : CPL m N) (v : Int32) : (m 0 7 = n32 0 ∧ m 283 6 = n32 0) ∨ (m 0 7 = n32 1 ∧ m 283 6 = n32 1 ∧ (v < n32 0 ∨ ¬ v < m 69 0) ∧ inI v (n32 0) (m 284 7 - n32 1) = n32 0) ∨
    (m 0 7 = n32 1 ∧ m 283 6 = n32 1 ∧ SS m 29 (m 284) N ∧ ∃ s, s < nSt (m 284) ∧ v = n32 s ∧ m 69 0 = n32 (nSt (m 284)) ∧ inI v (n32 0) (m 284 7 - n32 1) = n32 1) := by
  rcases h.ld with h | ⟨h1, h2, h3⟩
  · exact Or.inl h
  · obtain ⟨r1, r2, r3, T, hT, si⟩ := h3
    have w := si.w
    have a4 := w.ns
    have e7 := w.2.1.1
    have e69 : m 69 0 = n32 (nSt (m 284)) := by rw [r3.1]; exact e7
    rw [e7, e69]
    rcases inI_cases (v := v) (n := nSt (m 284)) (by omega) with ⟨c1, c2⟩ | ⟨k, k1, k2, k3⟩
    · exact Or.inr (Or.inl ⟨h1, h2, c2, c1⟩)
    · exact Or.inr (Or.inr ⟨h1, h2, ⟨r1, r2, r3, T, hT, si⟩, k, k1, k2, rfl, k3⟩)
theorem bearer_cases {m : XM} {N : Nat} (h : CPL m N) (v : Int32) : (m 0 7 = n32 0 ∧ m 283 6 = n32 0) ∨ (m 0 7 = n32 1 ∧ m 283 6 = n32 1 ∧ (v < n32 0 ∨ ¬ v < m (29 + 3) 0) ∧ inI v (n32 0) (m 284 6 - n32 1) = n32 0) ∨
    (m 0 7 = n32 1 ∧ m 283 6 = n32 1 ∧ SS m 29 (m 284) N ∧ ∃ b, b < nBr (m 284) ∧ v = n32 b ∧ m (29 + 3) 0 = n32 (nBr (m 284)) ∧ inI v (n32 0) (m 284 6 - n32 1) = n32 1) := by
  rcases h.ld with h | ⟨h1, h2, h3⟩
  · exact Or.inl h
  · obtain ⟨r1, r2, r3, T, hT, si⟩ := h3
    have w := si.w
    have a2 := w.nb
    have e6 := w.1.1
    have e3 : m (29 + 3) 0 = n32 (nBr (m 284)) := by rw [r1.nb]; exact e6
    rw [e6, e3]
    rcases inI_cases (v := v) (n := nBr (m 284)) a2 with ⟨c1, c2⟩ | ⟨k, k1, k2, k3⟩
    · exact Or.inr (Or.inl ⟨h1, h2, c2, c1⟩)
    · exact Or.inr (Or.inr ⟨h1, h2, ⟨r1, r2, r3, T, hT, si⟩, k, k1, k2, rfl, k3⟩)
/-- what a refused call leaves -/
theorem CPL_th {m : XM} {N : Nat} {v : Int32} (h : CPL m N) : CPL (um m 283 0 v) N := CPL_fr h (Nat.le_refl _) (QF_th m v)
section PA
variable {D : Nat} {m : XM} {E : Nat → XM → Prop}
theorem s169 {s : Nat} {g : PG} {Q : Int32 → XM → Prop} (w : WF g) (r : RS m 29 g) (rt : RT m 69 g) (hs : s < nSt g) (h : Q (bset (nBr g) fun b => seesG g s b) m) : VI (D + 2) 169 [vR 10 0, vI (n32 s)] m Q E := by
  have a2 := w.nb
  have a4 := w.ns
  have h6 : m (29 + 3) 0 = n32 (nBr g) := by rw [r.nb]; exact w.1.1
  have q2 := (rt.2 s hs).2.1
  refine w169_0 (up (C := fun i => VLI (D + 2) 169 1 [(0, vR 10 0), (1, vI (n32 s)), (2, vI (bset i fun b => seesG g s b)), (3, vI (n32 i))] [] m Q E) (n := nBr g) ?_ ?_ 0 (Nat.zero_le _))
  · intro i hi ih
    refine w169_1 ?_
    rw [h6]
    simp (disch := omega) only [le_f, xin_t, ix_n32, q2, n32_add, false_implies, true_implies, not_false_eq_true, true_and]
    refine s79 (s := s) w r hi ?_
    rw [bset_succ] at ih
    by_cases c : seesG g s i = true
    · rw [if_pos c] at ih ⊢
      exact ⟨fun c => absurd c n01, fun _ => ih⟩
    · rw [if_neg c] at ih ⊢
      exact ⟨fun _ => ih, fun c => absurd rfl c⟩
  · refine w169_1 ?_
    rw [h6]
    exact ⟨fun _ => h, fun c => absurd (n32_rfl _) c⟩
/-- a reference's memory, split into its array and the rest -/
theorem smg_of (m : XM) {g : PG} (h : m 284 = g) : m = smg m g := by rw [← h, smg_self]
end PA

