/-! Pair: save. -/
section SVQ
variable {D : Nat} {m : XM} {E : Nat → XM → Prop}
/-- a State that was copied to another place -/
theorem SS_to {m mf : XM} {a b N N' : Nat} {g x : PG} (h : SS m a g N) (hN : N ≤ N') (hc : ∀ d j, cpv d j → mf (b + d) j = m (a + d) j) (hx : ∀ i, i < 243 → x i = g i) (hrt : ∀ d j, d < 5 → mf (69 + d) j = m (69 + d) j) : SS mf b x N' := by
  refine SS_ext hx ?_
  obtain ⟨r1, r2, r3, T, hT, si⟩ := h
  have w := si.w
  have a2 := w.nb
  have a4 := w.ns
  have a6 := w.np
  have a9 := w.nl
  refine ⟨?_, ?_, RT_eq r3 hrt, T, hT, SI_le si (by omega)⟩
  · intro d j i hd
    rw [hc d j (lvn_cpv (lvn_up hd a2 (by omega) a6))]
    exact r1 d j i hd
  · intro s hs
    rw [hc 2 s (Or.inr (Or.inl ⟨Or.inr rfl, by omega⟩))]
    exact r2 s hs
theorem slot_cases (v : Int32) : (v < n32 0) ∨ (¬ v < n32 0 ∧ n32 1 < v ∧ ¬ v < n32 2) ∨ ∃ s, s < 2 ∧ v = n32 s := by
  by_cases c1 : v < n32 0
  · exact Or.inl c1
  · right
    by_cases c2 : n32 1 < v
    · refine Or.inl ⟨c1, c2, ?_⟩
      rw [Int32.lt_iff_toInt_lt, n32_toInt (by omega)] at c2 ⊢
      omega
    · right
      rw [Int32.lt_iff_toInt_lt, n32_toInt (by omega)] at c1 c2
      refine ⟨v.toInt.toNat, by omega, ?_⟩
      apply Int32.toInt_inj.mp
      rw [n32_toInt (by omega)]; omega
theorem p_save {v1 : Int32} {N : Nat} (h : CPL m N) : PRI (D + 12) 153 321 [vR 10 0, vI v1] [vR 11 283, vI v1] mpSPA m N := by
  unfold PRI
  have no : ∀ (l : Int32) (c : Nat), m 283 6 = l → (∀ t, (t = n32 0 ∨ (t = n32 1 ∧ ∃ s, s < 2 ∧ v1 = n32 s)) → codeOf l t (n32 1) = c) → 1 ≤ c → c ≤ 3 → VI (D + 12) 321 [vR 11 283, vI v1] m (fun _ m2 => (m2 283 0 = n32 c ∧ 1 ≤ c ∧ c ≤ 3) ∧ CPL m2 N) (fun _ _ => False) := by
    intro l c hl hc x1 x3
    have cn : ¬ c = 0 := by omega
    rcases slot_cases v1 with c1 | ⟨c1, c2, -⟩ | ⟨s, hs, rfl⟩
    · refine w321_0 ⟨fun _ => s177 ?_, fun c' => absurd c1 c'⟩
      rw [hl, hc _ (Or.inl rfl), if_neg cn]
      exact ⟨fun _ => ⟨⟨um_eq _ _ _ _, x1, x3⟩, CPL_th h⟩, fun c => absurd rfl c⟩
    · refine w321_0 ⟨fun c' => absurd c' c1, fun _ => ⟨fun _ => s177 ?_, fun c' => absurd c2 c'⟩⟩
      rw [hl, hc _ (Or.inl rfl), if_neg cn]
      exact ⟨fun _ => ⟨⟨um_eq _ _ _ _, x1, x3⟩, CPL_th h⟩, fun c => absurd rfl c⟩
    · refine w321_0 ⟨fun c' => absurd ((n32_lt (by omega) (by omega)).mp c') (by omega), fun _ => ⟨fun c' => absurd ((n32_lt (by omega) (by omega)).mp c') (by omega), fun _ => s177 ?_⟩⟩
      rw [hl, hc _ (Or.inr ⟨rfl, s, hs, rfl⟩), if_neg cn]
      exact ⟨fun _ => ⟨⟨um_eq _ _ _ _, x1, x3⟩, CPL_th h⟩, fun c => absurd rfl c⟩
  rcases h.ld with ⟨h1, h2⟩ | ⟨h1, h2, hS⟩
  · refine w153_0 ⟨fun _ => ?_, fun c => absurd h1 c⟩
    exact no _ 1 h2 (fun t _ => code1 _ _) (by omega) (by omega)
  · refine w153_0 ⟨fun c => absurd (h1.symm.trans c) n01, fun _ => ?_⟩
    rcases slot_cases v1 with c1 | ⟨c1, c2, c3⟩ | ⟨s, hs, rfl⟩
    · refine ⟨fun _ => no _ 2 h2 (fun t ht => ?_) (by omega) (by omega), fun c => absurd c1 c⟩
      rcases ht with rfl | ⟨-, n, hn, rfl⟩
      · exact code2 _
      · exact absurd ((n32_lt (by omega) (by omega)).mp c1) (by omega)
    · refine ⟨fun c => absurd c c1, fun _ => ⟨fun c => absurd c c3, fun _ => no _ 2 h2 (fun t ht => ?_) (by omega) (by omega)⟩⟩
      rcases ht with rfl | ⟨-, n, hn, rfl⟩
      · exact code2 _
      · exact absurd ((n32_lt (by omega) (by omega)).mp c2) (by omega)
    · refine ⟨fun c => absurd ((n32_lt (by omega) (by omega)).mp c) (by omega), fun _ => ⟨fun _ => w15_0 ⟨xin_n hs (by omega), ?_⟩, fun c => absurd ((n32_lt (by omega) (by omega)).mpr hs) c⟩⟩
      rw [ix_n32 (show s < 2147483648 by omega)]
      refine s17 (a0 := 74 + 2 + 162 + 20 * s) (by omega) ?_
      intro m1 cp
      refine ⟨xin_n hs (by omega), ?_⟩
      generalize hm2 : um m1 (74 + 3) s (n32 1) = m2
      have f2 : ∀ b j, ¬ (b = 77 ∧ j = s) → m2 b j = m1 b j := by
        intro b j x1
        rw [← hm2]; unfold um; rw [if_neg x1]
      have bk : ∀ b j, ¬ (238 + 20 * s ≤ b ∧ b < 238 + 20 * s + 20) → ¬ (b = 77 ∧ j = s) → m2 b j = m b j := by
        intro b j x1 x2
        rw [f2 b j x2]; exact cp.2 b j (by omega)
      have v9 : m2 29 0 = m 284 9 := by rw [bk 29 0 (by omega) (by omega)]; exact hS.1.tm
      rw [v9]
      refine w321_0 ⟨fun c' => absurd ((n32_lt (by omega) (by omega)).mp c') (by omega), fun _ => ⟨fun c' => absurd ((n32_lt (by omega) (by omega)).mp c') (by omega), fun _ => s177 ?_⟩⟩
      have l2 : m2 283 6 = n32 1 := by rw [bk 283 6 (by omega) (by omega)]; exact h2
      rw [l2, code0]
      refine ⟨fun c => absurd c n01, fun _ => ?_⟩
      rw [n32_mul]
      refine s178d (p := 0) (q := s * 243) (by omega) (by omega) (by omega) ?_
      refine ⟨xin_n hs (by omega), ?_⟩
      rw [ix_n32 (show s < 2147483648 by omega), ix_n32 (show 9 < 2147483648 by omega)]
      generalize hmf : um (lay (um m2 283 0 (n32 0)) 284 0 287 (s * 243) 243) 288 s (n32 1) = mf
      have fm : ∀ b j, ¬ (b = 287 ∧ s * 243 ≤ j ∧ j < s * 243 + 243) → ¬ (b = 288 ∧ j = s) → ¬ (b = 283 ∧ j = 0) → mf b j = m2 b j := by
        intro b j x1 x2 x3
        rw [← hmf]
        unfold um lay
        rw [if_neg x2, if_neg x1]
        exact if_neg x3
      have f0 : mf 283 0 = n32 0 := by
        rw [← hmf, um_a (by omega)]; unfold lay; rw [if_neg (by omega), um_eq]
      have fn : ∀ i, i < 243 → mf 287 (s * 243 + i) = m 284 i := by
        intro i hi
        rw [← hmf, um_a (by omega)]
        unfold lay
        rw [if_pos ⟨rfl, by omega, by omega⟩, um_a (by omega), bk 284 _ (by omega) (by omega)]
        rw [show 0 + (s * 243 + i - s * 243) = i by omega]
      have ch : ∀ b j, ¬ (238 + 20 * s ≤ b ∧ b < 238 + 20 * s + 20) → ¬ (b = 77 ∧ j = s) → ¬ (b = 287 ∧ s * 243 ≤ j ∧ j < s * 243 + 243) → ¬ (b = 288 ∧ j = s) → ¬ (b = 283 ∧ j = 0) → mf b j = m b j := by
        intro b j x1 x2 x3 x4 x5
        rw [fm b j x3 x4 x5, bk b j x1 x2]
      have fR : ∀ d j, d < 5 → mf (69 + d) j = m (69 + d) j := fun d j hd => ch _ _ (by omega) (by omega) (by omega) (by omega) (by omega)
      obtain ⟨⟨a1, a2⟩, a3, ⟨o, k, b1, b2, b3, b4, b5, b6, b7⟩, c1, ⟨l, d1, d2, d3, d4⟩, ⟨e1, e2⟩, p, p1, p2, p3, p4⟩ := id h
      have f07 : mf 0 7 = n32 1 := by rw [ch 0 7 (by omega) (by omega) (by omega) (by omega) (by omega)]; exact h1
      have g9 : mf 284 9 = m 284 9 := ch 284 9 (by omega) (by omega) (by omega) (by omega) (by omega)
      refine ⟨⟨g9.symm, f0⟩, ⟨?_, Or.inr f07⟩, fun _ => ?_, ⟨o, k, ?_, b2, ?_, b4, ?_, fun c => absurd (f07.symm.trans c) n01, ?_⟩, ?_, ⟨l, d1, ?_, ?_, ?_⟩, ⟨?_, ?_⟩, p, p1, ?_, ?_, ?_⟩
      · rw [f07, ch 283 6 (by omega) (by omega) (by omega) (by omega) (by omega)]; exact h2.symm
      · exact SS_eq hS (Nat.le_refl _) (funext fun j => ch _ _ (by omega) (by omega) (by omega) (by omega) (by omega)) (fun d j hd _ => ch _ _ (by omega) (by omega) (by omega) (by omega) (by omega)) fR
      · rw [ch 74 0 (by omega) (by omega) (by omega) (by omega) (by omega)]; exact b1
      · rw [ch 74 1 (by omega) (by omega) (by omega) (by omega) (by omega)]; exact b3
      · rw [ch 283 7 (by omega) (by omega) (by omega) (by omega) (by omega)]; exact b5
      · intro j hj
        have : (o + j) % 8 < 8 := Nat.mod_lt _ (by omega)
        exact SS_eq (b7 j hj) (Nat.le_refl _) (funext fun i => ch _ _ (by omega) (by omega) (by omega) (by omega) (by omega)) (fun d i hd _ => ch _ _ (by omega) (by omega) (by omega) (by omega) (by omega)) fR
      · intro s' hs'
        by_cases e : s' = s
        · subst e
          have x1 : mf 77 s' = n32 1 := by rw [fm 77 s' (by omega) (by omega) (by omega), ← hm2, um_eq]
          have x2 : mf 288 s' = n32 1 := by rw [← hmf, um_eq]
          refine ⟨x1.trans x2.symm, Or.inr ⟨x1, f07, ?_⟩⟩
          refine SS_to hS (Nat.le_refl _) (fun d j hd => ?_) (fun i hi => fn i hi) fR
          have hd20 : d < 20 := by rcases hd with hd | hd | hd | hd <;> omega
          rw [fm _ _ (by omega) (by omega) (by omega), f2 _ _ (by omega)]
          exact cp.1 d j hd
        · obtain ⟨q1, q2⟩ := c1 s' hs'
          rw [ch 77 s' (by omega) (by omega) (by omega) (by omega) (by omega), ch 288 s' (by omega) (by omega) (by omega) (by omega) (by omega), f07]
          refine ⟨q1, ?_⟩
          rcases q2 with q2 | ⟨q2, q3, q4⟩
          · exact Or.inl q2
          · refine Or.inr ⟨q2, rfl, SS_ext (g := slG m 287 s') (fun i hi => ch _ _ (by omega) (by omega) (by omega) (by omega) (by omega)) (SS_eq q4 (Nat.le_refl _) rfl (fun d j hd _ => ch _ _ (by omega) (by omega) (by omega) (by omega) (by omega)) fR)⟩
      · rw [ch 2 1 (by omega) (by omega) (by omega) (by omega) (by omega)]; exact d2
      · rw [ch 283 9 (by omega) (by omega) (by omega) (by omega) (by omega)]; exact d3
      · intro i hi
        rw [ch 3 i (by omega) (by omega) (by omega) (by omega) (by omega), ch 289 i (by omega) (by omega) (by omega) (by omega) (by omega)]; exact d4 i hi
      · rw [ch 1 3 (by omega) (by omega) (by omega) (by omega) (by omega), ch 283 10 (by omega) (by omega) (by omega) (by omega) (by omega)]; exact e1
      · rw [ch 1 4 (by omega) (by omega) (by omega) (by omega) (by omega), ch 283 11 (by omega) (by omega) (by omega) (by omega) (by omega)]; exact e2
      · rw [ch 281 0 (by omega) (by omega) (by omega) (by omega) (by omega)]; exact p2
      · rw [ch 283 21 (by omega) (by omega) (by omega) (by omega) (by omega)]; exact p3
      · intro i hi
        rw [ch 282 i (by omega) (by omega) (by omega) (by omega) (by omega), ch 292 i (by omega) (by omega) (by omega) (by omega) (by omega)]; exact p4 i hi
end SVQ
