/-! A change that is remembered keeps the coupling. -/
theorem chg_ok {m m1 m2 m' mf : XM} {N N' o k : Nat} (h : CPL m N) (hl : m 0 7 = n32 1) (hN : N ≤ N') (ho : m 74 0 = n32 o) (o8 : o < 8) (hk : m 74 1 = n32 k) (k8 : k ≤ 8) (hold : ∀ j, j < k → SS m (78 + 20 * ((o + j) % 8)) (slG m 286 j) N)
    (c : CP 29 (78 + 20 * ((o + k) % 8)) m m1) (f2 : ∀ b j, (b < 29 ∨ 49 ≤ b) → m2 b j = (if k < 8 then um m1 74 1 (n32 (k + 1)) else um m1 74 0 (n32 ((o + 1) % 8))) b j)
    (F : ∀ b j, b ≠ 286 → ¬ (b = 283 ∧ j = 7) → m' b j = um m2 283 0 (n32 0) b j) (h7 : m' 283 7 = n32 (if k < 8 then k + 1 else 8)) (hnew : ∀ i, i < 243 → m' 286 ((if k < 8 then k else 7) * 243 + i) = um m2 283 0 (n32 0) 284 i)
    (hkeep : ∀ j, j < (if k < 8 then k else 7) → ∀ i, i < 243 → m' 286 (j * 243 + i) = um m2 283 0 (n32 0) 286 ((if k < 8 then j else j + 1) * 243 + i))
    (fF : ∀ b j, b ≠ 284 → b ≠ 290 → b ≠ 291 → ¬ (b = 283 ∧ j = 18) → mf b j = m' b j) (hnow : SS mf 29 (mf 284) N') : mf 283 0 = n32 0 ∧ CPL mf N' := by
  have j8 : (o + k) % 8 < 8 := Nat.mod_lt _ (by omega)
  generalize hq : (o + k) % 8 = q at c j8
  have ei : ∀ b j, b ≠ 74 → (if k < 8 then um m1 74 1 (n32 (k + 1)) else um m1 74 0 (n32 ((o + 1) % 8))) b j = m1 b j := by
    intro b j hb
    split
    · exact um_a hb
    · exact um_a hb
  have ch : ∀ b j, ¬ (29 ≤ b ∧ b < 49) → b ≠ 74 → ¬ (b = 283 ∧ (j = 0 ∨ j = 7 ∨ j = 18)) → b ≠ 284 → b ≠ 286 → b ≠ 290 → b ≠ 291 → mf b j = m1 b j := by
    intro b j a1 a2 a3 a4 a5 a6 a7
    rw [fF b j a4 a6 a7 (by omega), F b j a5 (by omega)]
    have : um m2 283 0 (n32 0) b j = m2 b j := by unfold um; rw [if_neg (by omega)]
    rw [this, f2 b j (by omega), ei b j a2]
  have chm : ∀ b j, ¬ (29 ≤ b ∧ b < 49) → ¬ (78 + 20 * q ≤ b ∧ b < 78 + 20 * q + 20) → b ≠ 74 → ¬ (b = 283 ∧ (j = 0 ∨ j = 7 ∨ j = 18)) → b ≠ 284 → b ≠ 286 → b ≠ 290 → b ≠ 291 → mf b j = m b j := by
    intro b j a1 a0 a2 a3 a4 a5 a6 a7
    rw [ch b j a1 a2 a3 a4 a5 a6 a7]
    exact c.2 b j (by omega)
  obtain ⟨⟨a1, a2⟩, a3, -, c1, ⟨l, d1, d2, d3, d4⟩, ⟨e1, e2⟩, p, p1, p2, p3, p4⟩ := h
  have f07 : mf 0 7 = n32 1 := by rw [chm 0 7 (by omega) (by omega) (by omega) (by omega) (by omega) (by omega) (by omega) (by omega)]; exact hl
  have fR : ∀ d j, d < 5 → mf (69 + d) j = m (69 + d) j := fun d j hd => chm _ _ (by omega) (by omega) (by omega) (by omega) (by omega) (by omega) (by omega) (by omega)
  have e284 : ∀ i, um m2 283 0 (n32 0) 284 i = m 284 i := fun i => by
    rw [um_a (by omega), f2 284 i (by omega), ei 284 i (by omega)]
    exact c.2 284 i (by omega)
  have e286 : ∀ i, um m2 283 0 (n32 0) 286 i = m 286 i := fun i => by
    rw [um_a (by omega), f2 286 i (by omega), ei 286 i (by omega)]
    exact c.2 286 i (by omega)
  have m286 : ∀ i, mf 286 i = m' 286 i := fun i => fF 286 i (by omega) (by omega) (by omega) (by omega)
  have m74 : ∀ j, mf 74 j = (if k < 8 then um m1 74 1 (n32 (k + 1)) else um m1 74 0 (n32 ((o + 1) % 8))) 74 j := fun j => by
    rw [fF 74 j (by omega) (by omega) (by omega) (by omega), F 74 j (by omega) (by omega)]
    rw [um_a (by omega)]
    exact f2 74 j (by omega)
  have mem : CPM mf N' := by
    refine rem_ok (a3 hl) hN o8 k8 hold f07 ?_ ?_ ?_ fR ?_ ?_ ?_
    · intro d j hd
      rw [hq]
      have hd20 : d < 20 := by rcases hd with hd | hd | hd | hd <;> omega
      rw [ch _ _ (by omega) (by omega) (by omega) (by omega) (by omega) (by omega) (by omega)]
      exact c.1 d j hd
    · intro q' hq8 hne d j hd
      rw [hq] at hne
      exact chm _ _ (by omega) (by omega) (by omega) (by omega) (by omega) (by omega) (by omega) (by omega)
    · split
      · rename_i hk8
        rw [m74 0, m74 1, if_pos hk8]
        refine ⟨?_, um_eq _ _ _ _⟩
        rw [um_k (by omega), c.2 74 0 (by omega)]; exact ho
      · rename_i hk8
        rw [m74 0, m74 1, if_neg hk8]
        refine ⟨um_eq _ _ _ _, ?_⟩
        rw [um_k (by omega), c.2 74 1 (by omega), hk]
        congr 1; omega
    · rw [fF 283 7 (by omega) (by omega) (by omega) (by omega)]; exact h7
    · intro i hi
      rw [m286, hnew i hi, e284]
    · intro j hj i hi
      rw [m286, hkeep j hj i hi, e286]
  refine ⟨?_, ⟨?_, Or.inr f07⟩, fun _ => hnow, mem, ?_, ⟨l, d1, ?_, ?_, ?_⟩, ⟨?_, ?_⟩, p, p1, ?_, ?_, ?_⟩
  · rw [fF 283 0 (by omega) (by omega) (by omega) (by omega), F 283 0 (by omega) (by omega), um_eq]
  · rw [f07, chm 283 6 (by omega) (by omega) (by omega) (by omega) (by omega) (by omega) (by omega) (by omega), ← a1, hl]
  · intro s hs
    obtain ⟨q1, q2⟩ := c1 s hs
    rw [chm 77 s (by omega) (by omega) (by omega) (by omega) (by omega) (by omega) (by omega) (by omega), chm 288 s (by omega) (by omega) (by omega) (by omega) (by omega) (by omega) (by omega) (by omega), f07]
    refine ⟨q1, ?_⟩
    rcases q2 with q2 | ⟨q2, q3, q4⟩
    · exact Or.inl q2
    · refine Or.inr ⟨q2, rfl, SS_eq q4 hN ?_ ?_ fR⟩
      · exact funext fun i => chm _ _ (by omega) (by omega) (by omega) (by omega) (by omega) (by omega) (by omega) (by omega)
      · intro d j hd _
        exact chm _ _ (by omega) (by omega) (by omega) (by omega) (by omega) (by omega) (by omega) (by omega)
  · rw [chm 2 1 (by omega) (by omega) (by omega) (by omega) (by omega) (by omega) (by omega) (by omega)]; exact d2
  · rw [chm 283 9 (by omega) (by omega) (by omega) (by omega) (by omega) (by omega) (by omega) (by omega)]; exact d3
  · intro i hi
    rw [chm 3 i (by omega) (by omega) (by omega) (by omega) (by omega) (by omega) (by omega) (by omega), chm 289 i (by omega) (by omega) (by omega) (by omega) (by omega) (by omega) (by omega) (by omega)]; exact d4 i hi
  · rw [chm 1 3 (by omega) (by omega) (by omega) (by omega) (by omega) (by omega) (by omega) (by omega), chm 283 10 (by omega) (by omega) (by omega) (by omega) (by omega) (by omega) (by omega) (by omega)]; exact e1
  · rw [chm 1 4 (by omega) (by omega) (by omega) (by omega) (by omega) (by omega) (by omega) (by omega), chm 283 11 (by omega) (by omega) (by omega) (by omega) (by omega) (by omega) (by omega) (by omega)]; exact e2
  · rw [chm 281 0 (by omega) (by omega) (by omega) (by omega) (by omega) (by omega) (by omega) (by omega)]; exact p2
  · rw [chm 283 21 (by omega) (by omega) (by omega) (by omega) (by omega) (by omega) (by omega) (by omega)]; exact p3
  · intro i hi
    rw [chm 282 i (by omega) (by omega) (by omega) (by omega) (by omega) (by omega) (by omega) (by omega), chm 292 i (by omega) (by omega) (by omega) (by omega) (by omega) (by omega) (by omega) (by omega)]; exact p4 i hi

