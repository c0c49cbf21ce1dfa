/-! Pair: undo. -/
section UND
variable {D : Nat} {m : XM} {E : Nat → XM → Prop}
/-- a State that was copied over the present one -/
theorem SS_back {m mf : XM} {a N N' : Nat} {g x : PG} (h : SS m a g N) (hN : N ≤ N') (hc : ∀ d j, cpv d j → mf (29 + d) j = m (a + d) j) (hx : ∀ i, i < 243 → x i = g i) (hrt : ∀ d j, d < 5 → mf (69 + d) j = m (69 + d) j) : SS mf 29 x N' := by
  refine SS_ext hx ?_
  obtain ⟨r1, r2, r3, T, hT, si⟩ := h
  have w := si.w
  have a2 := w.nb
  have a4 := w.ns
  have a6 := w.np
  have a9 := w.nl
  refine ⟨?_, ?_, RT_eq r3 hrt, T, hT, SI_le si (by omega)⟩
  · intro d j i hd
    rw [hc d j (lvn_cpv (lvn_up hd a2 (by omega) a6))]
    exact r1 d j i hd
  · intro s hs
    rw [hc 2 s (Or.inr (Or.inl ⟨Or.inr rfl, by omega⟩))]
    exact r2 s hs
theorem p_undo {N : Nat} (h : CPL m N) : PRI (D + 12) 151 319 [vR 10 0] [vR 11 283] mpSA m N := by
  unfold PRI
  obtain ⟨⟨a1, a2⟩, a3, ⟨o, k, ho, o8, hk, k8, hk7, hk0, hold⟩, c1, ⟨l, d1, d2, d3, d4⟩, ⟨e1, e2⟩, p, p1, p2, p3, p4⟩ := id h
  by_cases k0 : k = 0
  · subst k0
    refine w151_0 ⟨fun _ => ?_, fun c => absurd hk c⟩
    refine w319_0 ⟨fun _ => s176 ?_, fun c => ?_⟩
    · rw [code1]
      exact ⟨fun _ => ⟨⟨um_eq _ _ _ _, by decide, by decide⟩, CPL_th h⟩, fun c => absurd rfl c⟩
    · rw [hk7] at c
      exact absurd (n32_rfl 0) c
  · have q8 : (o + (k - 1)) % 8 < 8 := Nat.mod_lt _ (by omega)
    have hl : m 0 7 = n32 1 := by
      rcases a2 with a2 | a2
      · exact absurd (hk0 a2) k0
      · exact a2
    refine w151_0 ⟨fun c => ?_, fun _ => w14_0 ⟨fun c => ?_, fun _ => ?_⟩⟩
    · rw [hk] at c
      exact absurd (n32_inj (by omega) (by omega) c) k0
    · rw [hk] at c
      exact absurd ((n32_le (by omega) (by omega)).mp c) (by omega)
    · have e0 : um m 74 1 (m 74 1 - n32 1) 74 0 = n32 o := by rw [um_k (by omega)]; exact ho
      have e1' : um m 74 1 (m 74 1 - n32 1) 74 1 = n32 (k - 1) := by rw [um_eq, hk, n32_sub (by omega)]
      rw [e0, e1', n32_add, mod8 (o + (k - 1)) (by omega), ix_n32 (show (o + (k - 1)) % 8 < 2147483648 by omega)]
      refine ⟨xin_n q8 (by omega), ?_⟩
      rw [hk, n32_sub (by omega)]
      refine s17 (a1 := 78 + 20 * ((o + (k - 1)) % 8)) (by omega) ?_
      intro m1 cp
      have hS := hold (k - 1) (by omega)
      generalize hq : (o + (k - 1)) % 8 = q at cp q8 hS
      have bk : ∀ b j, ¬ (29 ≤ b ∧ b < 49) → ¬ (b = 74 ∧ j = 1) → m1 b j = m b j := by
        intro b j x1 x2
        rw [cp.2 b j (by omega)]
        unfold um
        rw [if_neg x2]
      have k1 : m1 74 1 = n32 (k - 1) := by rw [cp.2 74 1 (by omega), um_eq]
      have k7 : m1 283 7 = n32 k := by rw [bk 283 7 (by omega) (by omega)]; exact hk7
      rw [k1]
      refine w319_0 ⟨fun c => ?_, fun _ => s176 ?_⟩
      · rw [k7] at c
        exact absurd ((n32_le (by omega) (by omega)).mp c) (by omega)
      · rw [code0]
        refine ⟨fun c => absurd c n01, fun _ => ?_⟩
        rw [um_eq]
        have k7' : um m1 283 0 (n32 0) 283 7 = n32 k := by rw [um_k (by omega)]; exact k7
        rw [k7', n32_sub (by omega), n32_mul]
        refine s178c (p := (k - 1) * 243) (q := 0) (by omega) (by omega) (by omega) ?_
        generalize hmf : lay (um (um m1 283 0 (n32 0)) 283 7 (n32 (k - 1))) 286 ((k - 1) * 243) 284 0 243 = mf
        have fm : ∀ b j, b ≠ 284 → ¬ (b = 283 ∧ (j = 0 ∨ j = 7)) → mf b j = m1 b j := by
          intro b j x1 x2
          rw [← hmf]
          unfold lay um
          rw [if_neg (by omega), if_neg (by omega), if_neg (by omega)]
        have f7 : mf 283 7 = n32 (k - 1) := by
          rw [← hmf]; unfold lay; rw [if_neg (by omega), um_eq]
        have f0 : mf 283 0 = n32 0 := by
          rw [← hmf]; unfold lay; rw [if_neg (by omega), um_k (by omega), um_eq]
        have fn : ∀ i, i < 243 → mf 284 i = slG m 286 (k - 1) i := by
          intro i hi
          rw [← hmf]
          unfold lay
          rw [if_pos ⟨rfl, by omega, by omega⟩, um_a (by omega), um_a (by omega), bk 286 _ (by omega) (by omega)]
          unfold slG
          rw [show (k - 1) * 243 + (i - 0) = (k - 1) * 243 + i by omega]
        have ch : ∀ b j, ¬ (29 ≤ b ∧ b < 49) → ¬ (b = 74 ∧ j = 1) → b ≠ 284 → ¬ (b = 283 ∧ (j = 0 ∨ j = 7)) → mf b j = m b j := by
          intro b j x1 x2 x3 x4
          rw [fm b j x3 x4, bk b j x1 x2]
        have fR : ∀ d j, d < 5 → mf (69 + d) j = m (69 + d) j := fun d j hd => ch _ _ (by omega) (by omega) (by omega) (by omega)
        have fS : ∀ a, 78 ≤ a → a + 20 ≤ 278 → ∀ d j, d < 20 → d ≠ 10 → mf (a + d) j = m (a + d) j := fun a x1 x2 d j hd _ => ch _ _ (by omega) (by omega) (by omega) (by omega)
        have f07 : mf 0 7 = n32 1 := by rw [ch 0 7 (by omega) (by omega) (by omega) (by omega)]; exact hl
        refine ⟨⟨f7.symm, f0⟩, ⟨?_, Or.inr f07⟩, fun _ => ?_, ⟨o, k - 1, ?_, o8, ?_, by omega, f7, fun c => absurd (f07.symm.trans c) n01, ?_⟩, ?_, ⟨l, d1, ?_, ?_, ?_⟩, ⟨?_, ?_⟩, p, p1, ?_, ?_, ?_⟩
        · rw [f07, ch 283 6 (by omega) (by omega) (by omega) (by omega), ← a1, hl]
        · refine SS_back hS (Nat.le_refl _) (fun d j hd => ?_) fn fR
          have hd20 : d < 20 := by rcases hd with hd | hd | hd | hd <;> omega
          rw [fm _ _ (by omega) (by omega), cp.1 d j hd, um_a (by omega)]
        · rw [ch 74 0 (by omega) (by omega) (by omega) (by omega)]; exact ho
        · rw [fm 74 1 (by omega) (by omega)]; exact k1
        · intro j hj
          have : (o + j) % 8 < 8 := Nat.mod_lt _ (by omega)
          exact SS_eq (hold j (by omega)) (Nat.le_refl _) (funext fun i => ch _ _ (by omega) (by omega) (by omega) (by omega)) (fS _ (by omega) (by omega)) fR
        · intro s hs
          obtain ⟨q1, q2⟩ := c1 s hs
          rw [ch 77 s (by omega) (by omega) (by omega) (by omega), ch 288 s (by omega) (by omega) (by omega) (by omega), f07]
          refine ⟨q1, ?_⟩
          rcases q2 with q2 | ⟨q2, q3, q4⟩
          · exact Or.inl q2
          · exact Or.inr ⟨q2, rfl, SS_eq q4 (Nat.le_refl _) (funext fun i => ch _ _ (by omega) (by omega) (by omega) (by omega)) (fS _ (by omega) (by omega)) fR⟩
        · rw [ch 2 1 (by omega) (by omega) (by omega) (by omega)]; exact d2
        · rw [ch 283 9 (by omega) (by omega) (by omega) (by omega)]; exact d3
        · intro i hi
          rw [ch 3 i (by omega) (by omega) (by omega) (by omega), ch 289 i (by omega) (by omega) (by omega) (by omega)]; exact d4 i hi
        · rw [ch 1 3 (by omega) (by omega) (by omega) (by omega), ch 283 10 (by omega) (by omega) (by omega) (by omega)]; exact e1
        · rw [ch 1 4 (by omega) (by omega) (by omega) (by omega), ch 283 11 (by omega) (by omega) (by omega) (by omega)]; exact e2
        · rw [ch 281 0 (by omega) (by omega) (by omega) (by omega)]; exact p2
        · rw [ch 283 21 (by omega) (by omega) (by omega) (by omega)]; exact p3
        · intro i hi
          rw [ch 282 i (by omega) (by omega) (by omega) (by omega), ch 292 i (by omega) (by omega) (by omega) (by omega)]; exact p4 i hi
end UND
