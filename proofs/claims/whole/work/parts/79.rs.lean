/-! Pair: restore. -/
section RSQ
variable {D : Nat} {m : XM} {E : Nat → XM → Prop}
theorem code11 : codeOf (n32 1) (n32 0) (n32 1) = 2 := code2 _
theorem p_restore {v1 : Int32} {N : Nat} (h : CPL m N) : PRI (D + 12) 154 322 [vR 10 0, vI v1] [vR 11 283, vI v1] mpPA m N := by
  unfold PRI
  obtain ⟨⟨a1, a2⟩, a3, ⟨o, k, b1, b2, b3, b4, b5, b6, b7⟩, c1, ⟨l, d1, d2, d3, d4⟩, ⟨e1, e2⟩, p, p1, p2, p3, p4⟩ := id h
  rcases slot_cases v1 with x1 | ⟨x1, x2, x3⟩ | ⟨s, hs, rfl⟩
  · refine w154_0 ⟨fun _ => w322_0 ⟨fun _ => s177 ?_, fun c => absurd x1 c⟩, fun c => absurd x1 c⟩
    rw [code1]
    exact ⟨fun _ => ⟨⟨um_eq _ _ _ _, by decide, by decide⟩, CPL_th h⟩, fun c => absurd rfl c⟩
  · refine w154_0 ⟨fun c => absurd c x1, fun _ => ⟨fun c => absurd c x3, fun _ => w322_0 ⟨fun c => absurd c x1, fun _ => ⟨fun _ => s177 ?_, fun c => absurd x2 c⟩⟩⟩⟩
    rw [code1]
    exact ⟨fun _ => ⟨⟨um_eq _ _ _ _, by decide, by decide⟩, CPL_th h⟩, fun c => absurd rfl c⟩
  · obtain ⟨q1, q2⟩ := c1 s hs
    refine w154_0 ⟨fun c => absurd ((n32_lt (by omega) (by omega)).mp c) (by omega), fun _ => ⟨fun _ => ⟨xin_n hs (by omega), ?_⟩, fun c => absurd ((n32_lt (by omega) (by omega)).mpr hs) c⟩⟩
    rw [ix_n32 (show s < 2147483648 by omega)]
    rcases q2 with q2 | ⟨q2, q3, q4⟩
    · refine ⟨fun _ => ?_, fun c => absurd q2 c⟩
      refine w322_0 ⟨fun c => absurd ((n32_lt (by omega) (by omega)).mp c) (by omega), fun _ => ⟨fun c => absurd ((n32_lt (by omega) (by omega)).mp c) (by omega), fun _ => ⟨xin_n hs (by omega), ?_⟩⟩⟩
      rw [ix_n32 (show s < 2147483648 by omega)]
      refine ⟨fun _ => s177 ?_, fun c => absurd (q1.symm.trans q2) c⟩
      rw [code11]
      exact ⟨fun _ => ⟨⟨um_eq _ _ _ _, by decide, by decide⟩, CPL_th h⟩, fun c => absurd rfl c⟩
    · refine ⟨fun c => absurd (q2.symm.trans c) n01, fun _ => w16_0 ⟨xin_n hs (by omega), ?_⟩⟩
      rw [ix_n32 (show s < 2147483648 by omega)]
      refine s17 (a1 := 74 + 2 + 162 + 20 * s) (by omega) ?_
      intro m1 cp
      generalize hm2 : um (um m1 74 0 (n32 0)) 74 1 (n32 0) = m2
      have f2 : ∀ b j, ¬ (b = 74 ∧ (j = 0 ∨ j = 1)) → m2 b j = m1 b j := by
        intro b j y1
        rw [← hm2]; unfold um; rw [if_neg (by omega), if_neg (by omega)]
      have bk : ∀ b j, ¬ (29 ≤ b ∧ b < 49) → ¬ (b = 74 ∧ (j = 0 ∨ j = 1)) → m2 b j = m b j := by
        intro b j y1 y2
        rw [f2 b j y2]; exact cp.2 b j (by omega)
      have t2 : m2 29 0 = slG m 287 s 9 := by
        rw [f2 29 0 (by omega)]
        have := cp.1 0 0 (Or.inl ⟨rfl, by omega⟩)
        rw [Nat.add_zero] at this
        rw [this]
        exact q4.1.tm
      rw [t2]
      have i2 : m2 288 s = n32 1 := by rw [bk 288 s (by omega) (by omega), ← q1]; exact q2
      refine w322_0 ⟨fun c => absurd ((n32_lt (by omega) (by omega)).mp c) (by omega), fun _ => ⟨fun c => absurd ((n32_lt (by omega) (by omega)).mp c) (by omega), fun _ => ⟨xin_n hs (by omega), ?_⟩⟩⟩
      rw [ix_n32 (show s < 2147483648 by omega), i2]
      refine ⟨fun c => absurd c n01, fun _ => s177 ?_⟩
      rw [code0]
      refine ⟨fun c => absurd c n01, fun _ => ?_⟩
      rw [n32_mul]
      refine s178e (p := s * 243) (q := 0) (by omega) (by omega) (by omega) ?_
      rw [ix_n32 (show 9 < 2147483648 by omega)]
      generalize hmf : um (lay (um m2 283 0 (n32 0)) 287 (s * 243) 284 0 243) 283 7 (n32 0) = mf
      have fm : ∀ b j, b ≠ 284 → ¬ (b = 283 ∧ (j = 0 ∨ j = 7)) → mf b j = m2 b j := by
        intro b j y1 y2
        rw [← hmf]
        unfold um lay
        rw [if_neg (by omega), if_neg (by omega)]
        exact if_neg (by omega)
      have f7 : mf 283 7 = n32 0 := by rw [← hmf, um_eq]
      have f0 : mf 283 0 = n32 0 := by
        rw [← hmf, um_k (by omega)]; unfold lay; rw [if_neg (by omega), um_eq]
      have fn : ∀ i, i < 243 → mf 284 i = slG m 287 s i := by
        intro i hi
        rw [← hmf, um_a (by omega)]
        unfold lay
        rw [if_pos ⟨rfl, by omega, by omega⟩, um_a (by omega), bk 287 _ (by omega) (by omega)]
        unfold slG
        rw [show s * 243 + (i - 0) = s * 243 + i by omega]
      have ch : ∀ b j, ¬ (29 ≤ b ∧ b < 49) → ¬ (b = 74 ∧ (j = 0 ∨ j = 1)) → b ≠ 284 → ¬ (b = 283 ∧ (j = 0 ∨ j = 7)) → mf b j = m b j := by
        intro b j y1 y2 y3 y4
        rw [fm b j y3 y4, bk b j y1 y2]
      have fR : ∀ d j, d < 5 → mf (69 + d) j = m (69 + d) j := fun d j hd => ch _ _ (by omega) (by omega) (by omega) (by omega)
      have f07 : mf 0 7 = n32 1 := by rw [ch 0 7 (by omega) (by omega) (by omega) (by omega)]; exact q3
      refine ⟨⟨(fn 9 (by omega)).symm, f0⟩, ⟨?_, Or.inr f07⟩, fun _ => ?_, ⟨0, 0, ?_, by omega, ?_, by omega, f7, fun _ => rfl, fun j hj => absurd hj (Nat.not_lt_zero j)⟩, ?_, ⟨l, d1, ?_, ?_, ?_⟩, ⟨?_, ?_⟩, p, p1, ?_, ?_, ?_⟩
      · rw [f07, ch 283 6 (by omega) (by omega) (by omega) (by omega), ← a1, q3]
      · refine SS_back q4 (Nat.le_refl _) (fun d j hd => ?_) fn fR
        have hd20 : d < 20 := by rcases hd with hd | hd | hd | hd <;> omega
        rw [fm _ _ (by omega) (by omega), f2 _ _ (by omega)]
        exact cp.1 d j hd
      · rw [fm 74 0 (by omega) (by omega), ← hm2, um_k (by omega), um_eq]
      · rw [fm 74 1 (by omega) (by omega), ← hm2, um_eq]
      · intro s' hs'
        obtain ⟨z1, z2⟩ := c1 s' hs'
        rw [ch 77 s' (by omega) (by omega) (by omega) (by omega), ch 288 s' (by omega) (by omega) (by omega) (by omega), f07]
        refine ⟨z1, ?_⟩
        rcases z2 with z2 | ⟨z2, z3, z4⟩
        · exact Or.inl z2
        · exact Or.inr ⟨z2, rfl, SS_eq z4 (Nat.le_refl _) (funext fun i => ch _ _ (by omega) (by omega) (by omega) (by omega)) (fun d j hd _ => ch _ _ (by omega) (by omega) (by omega) (by omega)) fR⟩
      · rw [ch 2 1 (by omega) (by omega) (by omega) (by omega)]; exact d2
      · rw [ch 283 9 (by omega) (by omega) (by omega) (by omega)]; exact d3
      · intro i hi
        rw [ch 3 i (by omega) (by omega) (by omega) (by omega), ch 289 i (by omega) (by omega) (by omega) (by omega)]; exact d4 i hi
      · rw [ch 1 3 (by omega) (by omega) (by omega) (by omega), ch 283 10 (by omega) (by omega) (by omega) (by omega)]; exact e1
      · rw [ch 1 4 (by omega) (by omega) (by omega) (by omega), ch 283 11 (by omega) (by omega) (by omega) (by omega)]; exact e2
      · rw [ch 281 0 (by omega) (by omega) (by omega) (by omega)]; exact p2
      · rw [ch 283 21 (by omega) (by omega) (by omega) (by omega)]; exact p3
      · intro i hi
        rw [ch 282 i (by omega) (by omega) (by omega) (by omega), ch 292 i (by omega) (by omega) (by omega) (by omega)]; exact p4 i hi
end RSQ
