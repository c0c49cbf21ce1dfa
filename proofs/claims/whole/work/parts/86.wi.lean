/-! Pairs: bearer, stand (written by program). -/
section S86
variable {D : Nat} {m : XM} {g : PG} {E : Nat → XM → Prop}
theorem p_bearer {v1 v2 : Int32} {N : Nat} (h : CPL m N) : PRI (D + 12) 98 246 [vR 10 0, vI v1, vI v2] [vR 11 283, vI v1, vI v2] mpSPA m N := by
  unfold PRI
  have no : ∀ c, codeOf (m 283 6) (inI v1 (n32 0) (m 284 6 - n32 1)) (inI v2 (n32 0) (n32 12)) = c → 1 ≤ c → c ≤ 3 → VI (D + 12) 246 [vR 11 283, vI v1, vI v2] m (fun _ m2 => (m2 283 0 = n32 c ∧ 1 ≤ c ∧ c ≤ 3) ∧ CPL m2 N) (fun _ _ => False) := by
    intro c hc y1 y3
    have cn : ¬ c = 0 := by omega
    unfold inI at hc
    refine w246_0 ⟨fun d2 => s243 xrt2_0 ?_, fun d2 => ⟨fun d3 => s243 xrt2_0 ?_, fun d3 => s243 xrt2_1 ?_⟩⟩
    · rw [if_pos d2] at hc
      unfold inI
      rw [hc, if_neg cn]
      exact ⟨fun _ => ⟨⟨um_eq _ _ _ _, y1, y3⟩, CPL_th h⟩, fun c => absurd rfl c⟩
    · rw [if_neg d2, if_pos d3] at hc
      unfold inI
      rw [hc, if_neg cn]
      exact ⟨fun _ => ⟨⟨um_eq _ _ _ _, y1, y3⟩, CPL_th h⟩, fun c => absurd rfl c⟩
    · rw [if_neg d2, if_neg d3] at hc
      unfold inI
      rw [hc, if_neg cn]
      exact ⟨fun _ => ⟨⟨um_eq _ _ _ _, y1, y3⟩, CPL_th h⟩, fun c => absurd rfl c⟩
  rcases bearer_cases h v1 with ⟨h1, h2⟩ | ⟨h1, h2, h3, h4⟩ | ⟨h1, h2, hS, b, hb, rfl, h69, h4⟩
  · exact w98_0 ⟨fun _ => no 1 (by rw [h2, code1]) (by omega) (by omega), fun c => absurd h1 c⟩
  · have rb := no 2 (by rw [h2, h4, code2]) (by omega) (by omega)
    refine w98_0 ⟨fun c => absurd (h1.symm.trans c) n01, fun _ => ⟨fun _ => rb, fun d1 => ⟨fun d2 => ?_, fun _ => rb⟩⟩⟩
    rcases h3 with h3 | h3
    · exact absurd h3 d1
    · exact absurd d2 h3
  · obtain ⟨r1, r2, r3, T, hT, si⟩ := hS
    have w := si.w
    have a2 := w.nb
    have a4 := w.ns
    have a9 := w.nl
    have e6 : m (29 + 3) 0 = n32 (nBr (m 284)) := by rw [r1.nb]; exact w.1.1
    have b0 : ¬ n32 b < n32 0 := by rw [n32_lt (by omega) (by omega)]; omega
    have bn : n32 b < m (29 + 3) 0 := by rw [h69, n32_lt (by omega) (by omega)]; omega
    have e8 : m 284 6 = n32 (nBr (m 284)) := w.1.1
    have bm : ¬ m 284 (ix (n32 6)) - n32 1 < n32 b := by rw [ix_n32 (by omega), e8, n32_sub (by omega), n32_lt (by omega) (by omega)]; omega
    rcases rng_cases v2 12 (by omega) with ⟨d1, e1⟩ | ⟨d1, d2, e1⟩ | ⟨j, hj, rfl, e1⟩
    · exact w98_0 ⟨fun c => absurd (h1.symm.trans c) n01, fun _ => ⟨fun c => absurd c b0, fun _ => ⟨fun _ => ⟨fun _ => no 3 (by rw [h2, h4, e1, code3]) (by omega) (by omega), fun c => absurd d1 c⟩, fun c => absurd bn c⟩⟩⟩
    · exact w98_0 ⟨fun c => absurd (h1.symm.trans c) n01, fun _ => ⟨fun c => absurd c b0, fun _ => ⟨fun _ => ⟨fun c => absurd c d1, fun _ => ⟨fun _ => no 3 (by rw [h2, h4, e1, code3]) (by omega) (by omega), fun c => absurd d2 c⟩⟩, fun c => absurd bn c⟩⟩⟩
    · obtain ⟨x1, x2⟩ := fin1 h (show m 284 = m 284 from rfl)
      have n0 : ¬ n32 j < n32 0 := by rw [n32_lt (by omega) (by omega)]; omega
      have nk : ¬ n32 12 < n32 j := by rw [n32_lt (by omega) (by omega)]; omega
      obtain rfl | rfl | rfl | rfl | rfl | rfl | rfl | rfl | rfl | rfl | rfl | rfl | rfl : j = 0 ∨ j = 1 ∨ j = 2 ∨ j = 3 ∨ j = 4 ∨ j = 5 ∨ j = 6 ∨ j = 7 ∨ j = 8 ∨ j = 9 ∨ j = 10 ∨ j = 11 ∨ j = 12 := by omega
      · refine w98_0 ⟨fun c => absurd (h1.symm.trans c) n01, fun _ => ⟨fun c => absurd c b0, fun _ => ⟨fun _ => ⟨fun c => absurd c n0, fun _ => ⟨fun c => absurd c nk, fun _ => ⟨fun _ => ?_, fun c => absurd rfl c⟩⟩⟩, fun c => absurd bn c⟩⟩⟩
        refine ⟨xin_n (by omega) (by omega), ?_⟩
        rw [ix_n32 (show b < 2147483648 by omega), r1.ban hb]
        refine w246_0 ⟨fun c => absurd c n0, fun _ => ⟨fun c => absurd c nk, fun _ => s243 xrt2_1 ?_⟩⟩
        rw [h2, h4, code0]
        refine ⟨fun c => absurd c n01, fun _ => ⟨fun c => absurd c (n32_ne (by decide) (by decide) (by decide)), fun _ => ⟨fun c => absurd c (n32_ne (by decide) (by decide) (by decide)), fun _ => ⟨fun c => absurd c (n32_ne (by decide) (by decide) (by decide)), fun _ => ⟨fun c => absurd c (n32_ne (by decide) (by decide) (by decide)), fun _ => ⟨fun c => absurd c (n32_ne (by decide) (by decide) (by decide)), fun _ => ⟨fun c => absurd c (n32_ne (by decide) (by decide) (by decide)), fun _ => ⟨fun c => absurd c (n32_ne (by decide) (by decide) (by decide)), fun _ => ⟨fun c => absurd c (n32_ne (by decide) (by decide) (by decide)), fun _ => ?_⟩⟩⟩⟩⟩⟩⟩⟩⟩
        rw [st0 (show m 284 = m 284 from rfl)]
        simp (disch := omega) only [smg_at, n32_mul, n32_add, Nat.add_zero, xin_t, ix_n32, true_and]
        first | exact ⟨⟨rfl, x1⟩, x2⟩ | exact ⟨⟨trivial, x1⟩, x2⟩ | exact ⟨x1, x2⟩
      · refine w98_0 ⟨fun c => absurd (h1.symm.trans c) n01, fun _ => ⟨fun c => absurd c b0, fun _ => ⟨fun _ => ⟨fun c => absurd c n0, fun _ => ⟨fun c => absurd c nk, fun _ => ⟨fun c => absurd c (n32_ne (by decide) (by decide) (by decide)), fun _ => ⟨fun _ => ?_, fun c => absurd rfl c⟩⟩⟩⟩, fun c => absurd bn c⟩⟩⟩
        refine ⟨xin_n (by omega) (by omega), ?_⟩
        rw [ix_n32 (show b < 2147483648 by omega), r1.pla hb]
        refine w246_0 ⟨fun c => absurd c n0, fun _ => ⟨fun c => absurd c nk, fun _ => s243 xrt2_1 ?_⟩⟩
        rw [h2, h4, code0]
        refine ⟨fun c => absurd c n01, fun _ => ⟨fun c => absurd c (n32_ne (by decide) (by decide) (by decide)), fun _ => ⟨fun c => absurd c (n32_ne (by decide) (by decide) (by decide)), fun _ => ⟨fun c => absurd c (n32_ne (by decide) (by decide) (by decide)), fun _ => ⟨fun c => absurd c (n32_ne (by decide) (by decide) (by decide)), fun _ => ⟨fun c => absurd c (n32_ne (by decide) (by decide) (by decide)), fun _ => ⟨fun c => absurd c (n32_ne (by decide) (by decide) (by decide)), fun _ => ⟨fun c => absurd c (n32_ne (by decide) (by decide) (by decide)), fun _ => ⟨fun c => absurd c (n32_ne (by decide) (by decide) (by decide)), fun _ => ?_⟩⟩⟩⟩⟩⟩⟩⟩⟩
        rw [st0 (show m 284 = m 284 from rfl)]
        simp (disch := omega) only [smg_at, n32_mul, n32_add, Nat.add_zero, xin_t, ix_n32, true_and]
        first | exact ⟨⟨rfl, x1⟩, x2⟩ | exact ⟨⟨trivial, x1⟩, x2⟩ | exact ⟨x1, x2⟩
      · refine w98_0 ⟨fun c => absurd (h1.symm.trans c) n01, fun _ => ⟨fun c => absurd c b0, fun _ => ⟨fun _ => ⟨fun c => absurd c n0, fun _ => ⟨fun c => absurd c nk, fun _ => ⟨fun c => absurd c (n32_ne (by decide) (by decide) (by decide)), fun _ => ⟨fun c => absurd c (n32_ne (by decide) (by decide) (by decide)), fun _ => ⟨fun _ => ?_, fun c => absurd rfl c⟩⟩⟩⟩⟩, fun c => absurd bn c⟩⟩⟩
        refine ⟨xin_n (by omega) (by omega), ?_⟩
        rw [ix_n32 (show b < 2147483648 by omega), r1.step hb]
        refine w246_0 ⟨fun c => absurd c n0, fun _ => ⟨fun c => absurd c nk, fun _ => s243 xrt2_1 ?_⟩⟩
        rw [h2, h4, code0]
        refine ⟨fun c => absurd c n01, fun _ => ⟨fun c => absurd c (n32_ne (by decide) (by decide) (by decide)), fun _ => ⟨fun c => absurd c (n32_ne (by decide) (by decide) (by decide)), fun _ => ⟨fun c => absurd c (n32_ne (by decide) (by decide) (by decide)), fun _ => ⟨fun c => absurd c (n32_ne (by decide) (by decide) (by decide)), fun _ => ⟨fun c => absurd c (n32_ne (by decide) (by decide) (by decide)), fun _ => ⟨fun c => absurd c (n32_ne (by decide) (by decide) (by decide)), fun _ => ⟨fun c => absurd c (n32_ne (by decide) (by decide) (by decide)), fun _ => ⟨fun c => absurd c (n32_ne (by decide) (by decide) (by decide)), fun _ => ?_⟩⟩⟩⟩⟩⟩⟩⟩⟩
        rw [st0 (show m 284 = m 284 from rfl)]
        simp (disch := omega) only [smg_at, n32_mul, n32_add, Nat.add_zero, xin_t, ix_n32, true_and]
        first | exact ⟨⟨rfl, x1⟩, x2⟩ | exact ⟨⟨trivial, x1⟩, x2⟩ | exact ⟨x1, x2⟩
      · refine w98_0 ⟨fun c => absurd (h1.symm.trans c) n01, fun _ => ⟨fun c => absurd c b0, fun _ => ⟨fun _ => ⟨fun c => absurd c n0, fun _ => ⟨fun c => absurd c nk, fun _ => ⟨fun c => absurd c (n32_ne (by decide) (by decide) (by decide)), fun _ => ⟨fun c => absurd c (n32_ne (by decide) (by decide) (by decide)), fun _ => ⟨fun c => absurd c (n32_ne (by decide) (by decide) (by decide)), fun _ => ⟨fun _ => ?_, fun c => absurd rfl c⟩⟩⟩⟩⟩⟩, fun c => absurd bn c⟩⟩⟩
        refine ⟨xin_n (by omega) (by omega), ?_⟩
        rw [ix_n32 (show b < 2147483648 by omega), r1.lag hb]
        refine w246_0 ⟨fun c => absurd c n0, fun _ => ⟨fun c => absurd c nk, fun _ => s243 xrt2_1 ?_⟩⟩
        rw [h2, h4, code0]
        refine ⟨fun c => absurd c n01, fun _ => ⟨fun c => absurd c (n32_ne (by decide) (by decide) (by decide)), fun _ => ⟨fun c => absurd c (n32_ne (by decide) (by decide) (by decide)), fun _ => ⟨fun c => absurd c (n32_ne (by decide) (by decide) (by decide)), fun _ => ⟨fun c => absurd c (n32_ne (by decide) (by decide) (by decide)), fun _ => ⟨fun c => absurd c (n32_ne (by decide) (by decide) (by decide)), fun _ => ⟨fun c => absurd c (n32_ne (by decide) (by decide) (by decide)), fun _ => ⟨fun c => absurd c (n32_ne (by decide) (by decide) (by decide)), fun _ => ⟨fun c => absurd c (n32_ne (by decide) (by decide) (by decide)), fun _ => ?_⟩⟩⟩⟩⟩⟩⟩⟩⟩
        rw [st0 (show m 284 = m 284 from rfl)]
        simp (disch := omega) only [smg_at, n32_mul, n32_add, Nat.add_zero, xin_t, ix_n32, true_and]
        first | exact ⟨⟨rfl, x1⟩, x2⟩ | exact ⟨⟨trivial, x1⟩, x2⟩ | exact ⟨x1, x2⟩
      · refine w98_0 ⟨fun c => absurd (h1.symm.trans c) n01, fun _ => ⟨fun c => absurd c b0, fun _ => ⟨fun _ => ⟨fun c => absurd c n0, fun _ => ⟨fun c => absurd c nk, fun _ => ⟨fun c => absurd c (n32_ne (by decide) (by decide) (by decide)), fun _ => ⟨fun c => absurd c (n32_ne (by decide) (by decide) (by decide)), fun _ => ⟨fun c => absurd c (n32_ne (by decide) (by decide) (by decide)), fun _ => ⟨fun c => absurd c (n32_ne (by decide) (by decide) (by decide)), fun _ => ⟨fun _ => ?_, fun c => absurd rfl c⟩⟩⟩⟩⟩⟩⟩, fun c => absurd bn c⟩⟩⟩
        refine ⟨xin_n (by omega) (by omega), ?_⟩
        rw [ix_n32 (show b < 2147483648 by omega), r1.str hb]
        refine w246_0 ⟨fun c => absurd c n0, fun _ => ⟨fun c => absurd c nk, fun _ => s243 xrt2_1 ?_⟩⟩
        rw [h2, h4, code0]
        refine ⟨fun c => absurd c n01, fun _ => ⟨fun c => absurd c (n32_ne (by decide) (by decide) (by decide)), fun _ => ⟨fun c => absurd c (n32_ne (by decide) (by decide) (by decide)), fun _ => ⟨fun c => absurd c (n32_ne (by decide) (by decide) (by decide)), fun _ => ⟨fun c => absurd c (n32_ne (by decide) (by decide) (by decide)), fun _ => ⟨fun c => absurd c (n32_ne (by decide) (by decide) (by decide)), fun _ => ⟨fun c => absurd c (n32_ne (by decide) (by decide) (by decide)), fun _ => ⟨fun c => absurd c (n32_ne (by decide) (by decide) (by decide)), fun _ => ⟨fun c => absurd c (n32_ne (by decide) (by decide) (by decide)), fun _ => ?_⟩⟩⟩⟩⟩⟩⟩⟩⟩
        rw [st0 (show m 284 = m 284 from rfl)]
        simp (disch := omega) only [smg_at, n32_mul, n32_add, Nat.add_zero, xin_t, ix_n32, true_and]
        first | exact ⟨⟨rfl, x1⟩, x2⟩ | exact ⟨⟨trivial, x1⟩, x2⟩ | exact ⟨x1, x2⟩
      · refine w98_0 ⟨fun c => absurd (h1.symm.trans c) n01, fun _ => ⟨fun c => absurd c b0, fun _ => ⟨fun _ => ⟨fun c => absurd c n0, fun _ => ⟨fun c => absurd c nk, fun _ => ⟨fun c => absurd c (n32_ne (by decide) (by decide) (by decide)), fun _ => ⟨fun c => absurd c (n32_ne (by decide) (by decide) (by decide)), fun _ => ⟨fun c => absurd c (n32_ne (by decide) (by decide) (by decide)), fun _ => ⟨fun c => absurd c (n32_ne (by decide) (by decide) (by decide)), fun _ => ⟨fun c => absurd c (n32_ne (by decide) (by decide) (by decide)), fun _ => ⟨fun _ => ?_, fun c => absurd rfl c⟩⟩⟩⟩⟩⟩⟩⟩, fun c => absurd bn c⟩⟩⟩
        refine s50 (by omega) (r1.step hb) (r1.str hb) (w.st_b hb) (w.b4 hb) ?_
        refine w246_0 ⟨fun c => absurd c n0, fun _ => ⟨fun c => absurd c nk, fun _ => s243 xrt2_1 ?_⟩⟩
        rw [h2, h4, code0]
        refine ⟨fun c => absurd c n01, fun _ => ⟨fun _ => ?_, fun c => absurd rfl c⟩⟩
        rw [st0 (show m 284 = m 284 from rfl)]
        refine s210 w hb ?_
        first | exact ⟨⟨rfl, x1⟩, x2⟩ | exact ⟨⟨trivial, x1⟩, x2⟩ | exact ⟨x1, x2⟩
      · refine w98_0 ⟨fun c => absurd (h1.symm.trans c) n01, fun _ => ⟨fun c => absurd c b0, fun _ => ⟨fun _ => ⟨fun c => absurd c n0, fun _ => ⟨fun c => absurd c nk, fun _ => ⟨fun c => absurd c (n32_ne (by decide) (by decide) (by decide)), fun _ => ⟨fun c => absurd c (n32_ne (by decide) (by decide) (by decide)), fun _ => ⟨fun c => absurd c (n32_ne (by decide) (by decide) (by decide)), fun _ => ⟨fun c => absurd c (n32_ne (by decide) (by decide) (by decide)), fun _ => ⟨fun c => absurd c (n32_ne (by decide) (by decide) (by decide)), fun _ => ⟨fun c => absurd c (n32_ne (by decide) (by decide) (by decide)), fun _ => ⟨fun _ => ?_, fun c => absurd rfl c⟩⟩⟩⟩⟩⟩⟩⟩⟩, fun c => absurd bn c⟩⟩⟩
        by_cases hz : b = 0
        · subst hz
          refine ⟨fun _ => ?_, fun c => absurd (n32_rfl _) c⟩
          refine w246_0 ⟨fun c => absurd c n0, fun _ => ⟨fun c => absurd c nk, fun _ => s243 xrt2_1 ?_⟩⟩
          rw [h2, h4, code0]
          refine ⟨fun c => absurd c n01, fun _ => ⟨fun c => absurd c (n32_ne (by decide) (by decide) (by decide)), fun _ => ⟨fun _ => ?_, fun c => absurd rfl c⟩⟩⟩
          rw [st0 (show m 284 = m 284 from rfl)]
          refine ⟨fun _ => ?_, fun c => absurd rfl c⟩
          first | exact ⟨⟨rfl, x1⟩, x2⟩ | exact ⟨⟨trivial, x1⟩, x2⟩ | exact ⟨x1, x2⟩
        · refine ⟨fun c => absurd ((n32_le (by omega) (by omega)).mp c) (by omega), fun _ => ?_⟩
          rw [n32_sub (by omega), ix_n32 (show b < 2147483648 by omega), ix_n32 (show b - 1 < 2147483648 by omega), r1.pla hb, r1.pla (b := b - 1) (by omega)]
          refine ⟨xin_n (by omega) (by omega), xin_n (by omega) (by omega), ?_⟩
          refine w246_0 ⟨fun c => absurd c n0, fun _ => ⟨fun c => absurd c nk, fun _ => s243 xrt2_1 ?_⟩⟩
          rw [h2, h4, code0]
          refine ⟨fun c => absurd c n01, fun _ => ⟨fun c => absurd c (n32_ne (by decide) (by decide) (by decide)), fun _ => ⟨fun _ => ?_, fun c => absurd rfl c⟩⟩⟩
          rw [st0 (show m 284 = m 284 from rfl)]
          refine ⟨fun c => absurd (n32_inj (by omega) (by omega) c) hz, fun _ => ?_⟩
          simp (disch := omega) only [smg_at, n32_sub, n32_mul, n32_add, Nat.add_zero, xin_t, ix_n32, true_and]
          first | exact ⟨⟨rfl, x1⟩, x2⟩ | exact ⟨⟨trivial, x1⟩, x2⟩ | exact ⟨x1, x2⟩
      · refine w98_0 ⟨fun c => absurd (h1.symm.trans c) n01, fun _ => ⟨fun c => absurd c b0, fun _ => ⟨fun _ => ⟨fun c => absurd c n0, fun _ => ⟨fun c => absurd c nk, fun _ => ⟨fun c => absurd c (n32_ne (by decide) (by decide) (by decide)), fun _ => ⟨fun c => absurd c (n32_ne (by decide) (by decide) (by decide)), fun _ => ⟨fun c => absurd c (n32_ne (by decide) (by decide) (by decide)), fun _ => ⟨fun c => absurd c (n32_ne (by decide) (by decide) (by decide)), fun _ => ⟨fun c => absurd c (n32_ne (by decide) (by decide) (by decide)), fun _ => ⟨fun c => absurd c (n32_ne (by decide) (by decide) (by decide)), fun _ => ⟨fun c => absurd c (n32_ne (by decide) (by decide) (by decide)), fun _ => ⟨fun _ => ?_, fun c => absurd rfl c⟩⟩⟩⟩⟩⟩⟩⟩⟩⟩, fun c => absurd bn c⟩⟩⟩
        refine ⟨xin_n (by omega) (by omega), ?_⟩
        rw [ix_n32 (show b < 2147483648 by omega), r1.mov hb]
        refine w246_0 ⟨fun c => absurd c n0, fun _ => ⟨fun c => absurd c nk, fun _ => s243 xrt2_1 ?_⟩⟩
        rw [h2, h4, code0]
        refine ⟨fun c => absurd c n01, fun _ => ⟨fun c => absurd c (n32_ne (by decide) (by decide) (by decide)), fun _ => ⟨fun c => absurd c (n32_ne (by decide) (by decide) (by decide)), fun _ => ⟨fun _ => ?_, fun c => absurd rfl c⟩⟩⟩⟩
        rw [st0 (show m 284 = m 284 from rfl)]
        simp (disch := omega) only [smg_at, n32_mul, n32_add, Nat.add_zero, xin_t, ix_n32, true_and]
        first | exact ⟨⟨rfl, x1⟩, x2⟩ | exact ⟨⟨trivial, x1⟩, x2⟩ | exact ⟨x1, x2⟩
      · refine w98_0 ⟨fun c => absurd (h1.symm.trans c) n01, fun _ => ⟨fun c => absurd c b0, fun _ => ⟨fun _ => ⟨fun c => absurd c n0, fun _ => ⟨fun c => absurd c nk, fun _ => ⟨fun c => absurd c (n32_ne (by decide) (by decide) (by decide)), fun _ => ⟨fun c => absurd c (n32_ne (by decide) (by decide) (by decide)), fun _ => ⟨fun c => absurd c (n32_ne (by decide) (by decide) (by decide)), fun _ => ⟨fun c => absurd c (n32_ne (by decide) (by decide) (by decide)), fun _ => ⟨fun c => absurd c (n32_ne (by decide) (by decide) (by decide)), fun _ => ⟨fun c => absurd c (n32_ne (by decide) (by decide) (by decide)), fun _ => ⟨fun c => absurd c (n32_ne (by decide) (by decide) (by decide)), fun _ => ⟨fun c => absurd c (n32_ne (by decide) (by decide) (by decide)), fun _ => ⟨fun _ => ?_, fun c => absurd rfl c⟩⟩⟩⟩⟩⟩⟩⟩⟩⟩⟩, fun c => absurd bn c⟩⟩⟩
        refine ⟨xin_n (by omega) (by omega), ?_⟩
        rw [ix_n32 (show b < 2147483648 by omega), r1.own hb]
        refine w246_0 ⟨fun c => absurd c n0, fun _ => ⟨fun c => absurd c nk, fun _ => s243 xrt2_1 ?_⟩⟩
        rw [h2, h4, code0]
        refine ⟨fun c => absurd c n01, fun _ => ⟨fun c => absurd c (n32_ne (by decide) (by decide) (by decide)), fun _ => ⟨fun c => absurd c (n32_ne (by decide) (by decide) (by decide)), fun _ => ⟨fun c => absurd c (n32_ne (by decide) (by decide) (by decide)), fun _ => ⟨fun _ => ?_, fun c => absurd rfl c⟩⟩⟩⟩⟩
        rw [st0 (show m 284 = m 284 from rfl)]
        simp (disch := omega) only [smg_at, n32_mul, n32_add, Nat.add_zero, xin_t, ix_n32, true_and]
        first | exact ⟨⟨rfl, x1⟩, x2⟩ | exact ⟨⟨trivial, x1⟩, x2⟩ | exact ⟨x1, x2⟩
      · refine w98_0 ⟨fun c => absurd (h1.symm.trans c) n01, fun _ => ⟨fun c => absurd c b0, fun _ => ⟨fun _ => ⟨fun c => absurd c n0, fun _ => ⟨fun c => absurd c nk, fun _ => ⟨fun c => absurd c (n32_ne (by decide) (by decide) (by decide)), fun _ => ⟨fun c => absurd c (n32_ne (by decide) (by decide) (by decide)), fun _ => ⟨fun c => absurd c (n32_ne (by decide) (by decide) (by decide)), fun _ => ⟨fun c => absurd c (n32_ne (by decide) (by decide) (by decide)), fun _ => ⟨fun c => absurd c (n32_ne (by decide) (by decide) (by decide)), fun _ => ⟨fun c => absurd c (n32_ne (by decide) (by decide) (by decide)), fun _ => ⟨fun c => absurd c (n32_ne (by decide) (by decide) (by decide)), fun _ => ⟨fun c => absurd c (n32_ne (by decide) (by decide) (by decide)), fun _ => ⟨fun c => absurd c (n32_ne (by decide) (by decide) (by decide)), fun _ => ⟨fun _ => ?_, fun c => absurd rfl c⟩⟩⟩⟩⟩⟩⟩⟩⟩⟩⟩⟩, fun c => absurd bn c⟩⟩⟩
        refine s168 w r1 r3 hb ?_
        refine w246_0 ⟨fun c => absurd c n0, fun _ => ⟨fun c => absurd c nk, fun _ => s243 xrt2_1 ?_⟩⟩
        rw [h2, h4, code0]
        refine ⟨fun c => absurd c n01, fun _ => ⟨fun c => absurd c (n32_ne (by decide) (by decide) (by decide)), fun _ => ⟨fun c => absurd c (n32_ne (by decide) (by decide) (by decide)), fun _ => ⟨fun c => absurd c (n32_ne (by decide) (by decide) (by decide)), fun _ => ⟨fun c => absurd c (n32_ne (by decide) (by decide) (by decide)), fun _ => ⟨fun _ => ?_, fun c => absurd rfl c⟩⟩⟩⟩⟩⟩
        rw [st0 (show m 284 = m 284 from rfl)]
        refine s244 w hb ?_
        first | exact ⟨⟨rfl, x1⟩, x2⟩ | exact ⟨⟨trivial, x1⟩, x2⟩ | exact ⟨x1, x2⟩
      · refine w98_0 ⟨fun c => absurd (h1.symm.trans c) n01, fun _ => ⟨fun c => absurd c b0, fun _ => ⟨fun _ => ⟨fun c => absurd c n0, fun _ => ⟨fun c => absurd c nk, fun _ => ⟨fun c => absurd c (n32_ne (by decide) (by decide) (by decide)), fun _ => ⟨fun c => absurd c (n32_ne (by decide) (by decide) (by decide)), fun _ => ⟨fun c => absurd c (n32_ne (by decide) (by decide) (by decide)), fun _ => ⟨fun c => absurd c (n32_ne (by decide) (by decide) (by decide)), fun _ => ⟨fun c => absurd c (n32_ne (by decide) (by decide) (by decide)), fun _ => ⟨fun c => absurd c (n32_ne (by decide) (by decide) (by decide)), fun _ => ⟨fun c => absurd c (n32_ne (by decide) (by decide) (by decide)), fun _ => ⟨fun c => absurd c (n32_ne (by decide) (by decide) (by decide)), fun _ => ⟨fun c => absurd c (n32_ne (by decide) (by decide) (by decide)), fun _ => ⟨fun c => absurd c (n32_ne (by decide) (by decide) (by decide)), fun _ => ⟨fun _ => ?_, fun c => absurd rfl c⟩⟩⟩⟩⟩⟩⟩⟩⟩⟩⟩⟩⟩, fun c => absurd bn c⟩⟩⟩
        refine ⟨xin_n (by omega) (by omega), ?_⟩
        rw [ix_n32 (show b < 2147483648 by omega), ix_n32 (show 0 < 2147483648 by omega), r1.pla hb, r1.pla (b := 0) (by omega)]
        refine w246_0 ⟨fun c => absurd c n0, fun _ => ⟨fun c => absurd c nk, fun _ => s243 xrt2_1 ?_⟩⟩
        rw [h2, h4, code0]
        refine ⟨fun c => absurd c n01, fun _ => ⟨fun c => absurd c (n32_ne (by decide) (by decide) (by decide)), fun _ => ⟨fun c => absurd c (n32_ne (by decide) (by decide) (by decide)), fun _ => ⟨fun c => absurd c (n32_ne (by decide) (by decide) (by decide)), fun _ => ⟨fun c => absurd c (n32_ne (by decide) (by decide) (by decide)), fun _ => ⟨fun c => absurd c (n32_ne (by decide) (by decide) (by decide)), fun _ => ⟨fun _ => ?_, fun c => absurd rfl c⟩⟩⟩⟩⟩⟩⟩
        rw [st0 (show m 284 = m 284 from rfl)]
        simp (disch := omega) only [smg_at, n32_mul, n32_add, Nat.mul_zero, Nat.add_zero, Nat.zero_add, xin_t, ix_n32, true_and]
        first | exact ⟨⟨rfl, x1⟩, x2⟩ | exact ⟨⟨trivial, x1⟩, x2⟩ | exact ⟨x1, x2⟩
      · refine w98_0 ⟨fun c => absurd (h1.symm.trans c) n01, fun _ => ⟨fun c => absurd c b0, fun _ => ⟨fun _ => ⟨fun c => absurd c n0, fun _ => ⟨fun c => absurd c nk, fun _ => ⟨fun c => absurd c (n32_ne (by decide) (by decide) (by decide)), fun _ => ⟨fun c => absurd c (n32_ne (by decide) (by decide) (by decide)), fun _ => ⟨fun c => absurd c (n32_ne (by decide) (by decide) (by decide)), fun _ => ⟨fun c => absurd c (n32_ne (by decide) (by decide) (by decide)), fun _ => ⟨fun c => absurd c (n32_ne (by decide) (by decide) (by decide)), fun _ => ⟨fun c => absurd c (n32_ne (by decide) (by decide) (by decide)), fun _ => ⟨fun c => absurd c (n32_ne (by decide) (by decide) (by decide)), fun _ => ⟨fun c => absurd c (n32_ne (by decide) (by decide) (by decide)), fun _ => ⟨fun c => absurd c (n32_ne (by decide) (by decide) (by decide)), fun _ => ⟨fun c => absurd c (n32_ne (by decide) (by decide) (by decide)), fun _ => ⟨fun c => absurd c (n32_ne (by decide) (by decide) (by decide)), fun _ => ⟨fun _ => ?_, fun c => absurd rfl c⟩⟩⟩⟩⟩⟩⟩⟩⟩⟩⟩⟩⟩⟩, fun c => absurd bn c⟩⟩⟩
        refine ⟨xin_n (by omega) (by omega), ?_⟩
        rw [ix_n32 (show b < 2147483648 by omega), r1.str hb]
        refine s63 (n := nBr (m 284)) e6 a2 ?_
        refine w246_0 ⟨fun c => absurd c n0, fun _ => ⟨fun c => absurd c nk, fun _ => s243 xrt2_1 ?_⟩⟩
        rw [h2, h4, code0]
        refine ⟨fun c => absurd c n01, fun _ => ⟨fun c => absurd c (n32_ne (by decide) (by decide) (by decide)), fun _ => ⟨fun c => absurd c (n32_ne (by decide) (by decide) (by decide)), fun _ => ⟨fun c => absurd c (n32_ne (by decide) (by decide) (by decide)), fun _ => ⟨fun c => absurd c (n32_ne (by decide) (by decide) (by decide)), fun _ => ⟨fun c => absurd c (n32_ne (by decide) (by decide) (by decide)), fun _ => ⟨fun c => absurd c (n32_ne (by decide) (by decide) (by decide)), fun _ => ⟨fun _ => ?_, fun c => absurd rfl c⟩⟩⟩⟩⟩⟩⟩⟩
        rw [st0 (show m 284 = m 284 from rfl)]
        refine s245 (n := nBr (m 284)) (b := b) (by rw [smg_at]; exact w.1.1) a2 (by omega) ?_
        refine ⟨⟨?_, x1⟩, x2⟩
        exact congrArg n32 (cnt_congr fun i hi => by simp only [smg_at]; rw [r1.str hi])
      · refine w98_0 ⟨fun c => absurd (h1.symm.trans c) n01, fun _ => ⟨fun c => absurd c b0, fun _ => ⟨fun _ => ⟨fun c => absurd c n0, fun _ => ⟨fun c => absurd c nk, fun _ => ⟨fun c => absurd c (n32_ne (by decide) (by decide) (by decide)), fun _ => ⟨fun c => absurd c (n32_ne (by decide) (by decide) (by decide)), fun _ => ⟨fun c => absurd c (n32_ne (by decide) (by decide) (by decide)), fun _ => ⟨fun c => absurd c (n32_ne (by decide) (by decide) (by decide)), fun _ => ⟨fun c => absurd c (n32_ne (by decide) (by decide) (by decide)), fun _ => ⟨fun c => absurd c (n32_ne (by decide) (by decide) (by decide)), fun _ => ⟨fun c => absurd c (n32_ne (by decide) (by decide) (by decide)), fun _ => ⟨fun c => absurd c (n32_ne (by decide) (by decide) (by decide)), fun _ => ⟨fun c => absurd c (n32_ne (by decide) (by decide) (by decide)), fun _ => ⟨fun c => absurd c (n32_ne (by decide) (by decide) (by decide)), fun _ => ⟨fun c => absurd c (n32_ne (by decide) (by decide) (by decide)), fun _ => ⟨fun c => absurd c (n32_ne (by decide) (by decide) (by decide)), fun _ => ?_⟩⟩⟩⟩⟩⟩⟩⟩⟩⟩⟩⟩⟩⟩, fun c => absurd bn c⟩⟩⟩
        refine ⟨xin_n (by omega) (by omega), ?_⟩
        rw [ix_n32 (show b < 2147483648 by omega), r1.pla hb]
        refine s7 (n := nL (m 284)) (by rw [r1.nl]; exact w.2.2.2.1.1) (by omega) ?_
        have ec : cnt (nL (m 284)) (fun k => decide (¬ m (29 + 12 + 2) k < m 284 (15 + 7 * b + 1)) && decide (¬ m 284 (15 + 7 * b + 1) < m (29 + 12 + 2) k)) = cnt (nL (m 284)) (fun k => decide (¬ m 284 (207 + 3 * k + 1) < m 284 (15 + 7 * b + 1)) && decide (¬ m 284 (15 + 7 * b + 1) < m 284 (207 + 3 * k + 1))) := cnt_congr fun i hi => by rw [r1.lp hi]
        rw [ec]
        have bn := bst_none (n := nL (m 284)) (p := fun k => decide (¬ m 284 (207 + 3 * k + 1) < m 284 (15 + 7 * b + 1)) && decide (¬ m 284 (15 + 7 * b + 1) < m 284 (207 + 3 * k + 1))) (lt := fun k b => decide (¬ m 284 (207 + 3 * k + 1) ≤ m 284 (207 + 3 * b + 1))) (by omega)
        have cl := cnt_le (nL (m 284)) (fun k => decide (¬ m 284 (207 + 3 * k + 1) < m 284 (15 + 7 * b + 1)) && decide (¬ m 284 (15 + 7 * b + 1) < m 284 (207 + 3 * k + 1)))
        generalize cnt (nL (m 284)) (fun k => decide (¬ m 284 (207 + 3 * k + 1) < m 284 (15 + 7 * b + 1)) && decide (¬ m 284 (15 + 7 * b + 1) < m 284 (207 + 3 * k + 1))) = cn at bn cl
        have go : ∀ Q : Int32 → XM → Prop, Q (if cn = 0 then n32 0 else n32 1) (smg (um m 283 0 (n32 0)) (m 284)) → VI (D + 12) 246 [vR 11 283, vI (n32 b), vI (n32 12)] m Q (fun _ _ => False) := by
          intro Q hQ
          refine w246_0 ⟨fun c => absurd c n0, fun _ => ⟨fun c => absurd c nk, fun _ => s243 xrt2_1 ?_⟩⟩
          rw [h2, h4, code0]
          refine ⟨fun c => absurd c n01, fun _ => ⟨fun c => absurd c (n32_ne (by decide) (by decide) (by decide)), fun _ => ⟨fun c => absurd c (n32_ne (by decide) (by decide) (by decide)), fun _ => ⟨fun c => absurd c (n32_ne (by decide) (by decide) (by decide)), fun _ => ⟨fun c => absurd c (n32_ne (by decide) (by decide) (by decide)), fun _ => ⟨fun c => absurd c (n32_ne (by decide) (by decide) (by decide)), fun _ => ⟨fun c => absurd c (n32_ne (by decide) (by decide) (by decide)), fun _ => ⟨fun c => absurd c (n32_ne (by decide) (by decide) (by decide)), fun _ => ⟨fun _ => ?_, fun c => absurd rfl c⟩⟩⟩⟩⟩⟩⟩⟩⟩
          rw [st0 (show m 284 = m 284 from rfl)]
          simp (disch := omega) only [smg_at, n32_mul, n32_add, Nat.add_zero, xin_t, ix_n32, true_and]
          refine s215 w ?_
          by_cases c : cn = 0
          · rw [if_pos c] at hQ
            exact ⟨fun _ => hQ, fun c' => absurd (bn.mpr c) c'⟩
          · rw [if_neg c] at hQ
            exact ⟨fun c' => absurd (bn.mp c') c, fun _ => hQ⟩
        by_cases c : cn = 0
        · rw [if_pos c] at go
          refine ⟨fun _ => go _ ?_, fun c' => absurd (by rw [c]; exact n32_rfl 0) c'⟩
          first | exact ⟨⟨rfl, x1⟩, x2⟩ | exact ⟨⟨trivial, x1⟩, x2⟩ | exact ⟨x1, x2⟩
        · rw [if_neg c] at go
          refine ⟨fun c' => absurd ((n32_le (by omega) (by omega)).mp c') (by omega), fun _ => go _ ?_⟩
          first | exact ⟨⟨rfl, x1⟩, x2⟩ | exact ⟨⟨trivial, x1⟩, x2⟩ | exact ⟨x1, x2⟩
theorem p_stand {v1 v2 : Int32} {N : Nat} (h : CPL m N) : PRI (D + 12) 99 253 [vR 10 0, vI v1, vI v2] [vR 11 283, vI v1, vI v2] mpSPA m N := by
  unfold PRI
  have no : ∀ c, codeOf (m 283 6) (inI v1 (n32 0) (m 284 7 - n32 1)) (inI v2 (n32 0) (n32 8)) = c → 1 ≤ c → c ≤ 3 → VI (D + 12) 253 [vR 11 283, vI v1, vI v2] m (fun _ m2 => (m2 283 0 = n32 c ∧ 1 ≤ c ∧ c ≤ 3) ∧ CPL m2 N) (fun _ _ => False) := by
    intro c hc y1 y3
    have cn : ¬ c = 0 := by omega
    unfold inI at hc
    refine w253_0 ⟨fun d1 => ⟨fun d2 => s176 ?_, fun d2 => ⟨fun d3 => s176 ?_, fun d3 => s176 ?_⟩⟩, fun d1 => ?_⟩
    · rw [if_pos d1, if_pos d2] at hc
      rw [hc, if_neg cn]
      exact ⟨fun _ => ⟨⟨um_eq _ _ _ _, y1, y3⟩, CPL_th h⟩, fun c => absurd rfl c⟩
    · rw [if_pos d1, if_neg d2, if_pos d3] at hc
      rw [hc, if_neg cn]
      exact ⟨fun _ => ⟨⟨um_eq _ _ _ _, y1, y3⟩, CPL_th h⟩, fun c => absurd rfl c⟩
    · rw [if_pos d1, if_neg d2, if_neg d3] at hc
      rw [hc, if_neg cn]
      exact ⟨fun _ => ⟨⟨um_eq _ _ _ _, y1, y3⟩, CPL_th h⟩, fun c => absurd rfl c⟩
    · rw [ix_n32 (by omega)]
      refine ⟨fun d4 => ⟨fun d2 => s176 ?_, fun d2 => ⟨fun d3 => s176 ?_, fun d3 => s176 ?_⟩⟩, fun d4 => ⟨fun d2 => s176 ?_, fun d2 => ⟨fun d3 => s176 ?_, fun d3 => s176 ?_⟩⟩⟩
      · rw [if_neg d1, if_pos d4, if_pos d2] at hc
        rw [hc, if_neg cn]
        exact ⟨fun _ => ⟨⟨um_eq _ _ _ _, y1, y3⟩, CPL_th h⟩, fun c => absurd rfl c⟩
      · rw [if_neg d1, if_pos d4, if_neg d2, if_pos d3] at hc
        rw [hc, if_neg cn]
        exact ⟨fun _ => ⟨⟨um_eq _ _ _ _, y1, y3⟩, CPL_th h⟩, fun c => absurd rfl c⟩
      · rw [if_neg d1, if_pos d4, if_neg d2, if_neg d3] at hc
        rw [hc, if_neg cn]
        exact ⟨fun _ => ⟨⟨um_eq _ _ _ _, y1, y3⟩, CPL_th h⟩, fun c => absurd rfl c⟩
      · rw [if_neg d1, if_neg d4, if_pos d2] at hc
        rw [hc, if_neg cn]
        exact ⟨fun _ => ⟨⟨um_eq _ _ _ _, y1, y3⟩, CPL_th h⟩, fun c => absurd rfl c⟩
      · rw [if_neg d1, if_neg d4, if_neg d2, if_pos d3] at hc
        rw [hc, if_neg cn]
        exact ⟨fun _ => ⟨⟨um_eq _ _ _ _, y1, y3⟩, CPL_th h⟩, fun c => absurd rfl c⟩
      · rw [if_neg d1, if_neg d4, if_neg d2, if_neg d3] at hc
        rw [hc, if_neg cn]
        exact ⟨fun _ => ⟨⟨um_eq _ _ _ _, y1, y3⟩, CPL_th h⟩, fun c => absurd rfl c⟩
  rcases stand_cases h v1 with ⟨h1, h2⟩ | ⟨h1, h2, h3, h4⟩ | ⟨h1, h2, hS, s, hb, rfl, h69, h4⟩
  · exact w99_0 ⟨fun _ => no 1 (by rw [h2, code1]) (by omega) (by omega), fun c => absurd h1 c⟩
  · have rb := no 2 (by rw [h2, h4, code2]) (by omega) (by omega)
    refine w99_0 ⟨fun c => absurd (h1.symm.trans c) n01, fun _ => ⟨fun _ => rb, fun d1 => ⟨fun d2 => ?_, fun _ => rb⟩⟩⟩
    rcases h3 with h3 | h3
    · exact absurd h3 d1
    · exact absurd d2 h3
  · obtain ⟨r1, r2, r3, T, hT, si⟩ := hS
    have w := si.w
    have a2 := w.nb
    have a4 := w.ns
    have a9 := w.nl
    have e6 : m (29 + 3) 0 = n32 (nBr (m 284)) := by rw [r1.nb]; exact w.1.1
    have b0 : ¬ n32 s < n32 0 := by rw [n32_lt (by omega) (by omega)]; omega
    have bn : n32 s < m 69 0 := by rw [h69, n32_lt (by omega) (by omega)]; omega
    have e8 : m 284 7 = n32 (nSt (m 284)) := w.2.1.1
    have bm : ¬ m 284 (ix (n32 7)) - n32 1 < n32 s := by rw [ix_n32 (by omega), e8, n32_sub (by omega), n32_lt (by omega) (by omega)]; omega
    rcases rng_cases v2 8 (by omega) with ⟨d1, e1⟩ | ⟨d1, d2, e1⟩ | ⟨j, hj, rfl, e1⟩
    · exact w99_0 ⟨fun c => absurd (h1.symm.trans c) n01, fun _ => ⟨fun c => absurd c b0, fun _ => ⟨fun _ => ⟨fun _ => no 3 (by rw [h2, h4, e1, code3]) (by omega) (by omega), fun c => absurd d1 c⟩, fun c => absurd bn c⟩⟩⟩
    · exact w99_0 ⟨fun c => absurd (h1.symm.trans c) n01, fun _ => ⟨fun c => absurd c b0, fun _ => ⟨fun _ => ⟨fun c => absurd c d1, fun _ => ⟨fun _ => no 3 (by rw [h2, h4, e1, code3]) (by omega) (by omega), fun c => absurd d2 c⟩⟩, fun c => absurd bn c⟩⟩⟩
    · obtain ⟨x1, x2⟩ := fin1 h (show m 284 = m 284 from rfl)
      have n0 : ¬ n32 j < n32 0 := by rw [n32_lt (by omega) (by omega)]; omega
      have nk : ¬ n32 8 < n32 j := by rw [n32_lt (by omega) (by omega)]; omega
      obtain ⟨q1, q2, q3, q4⟩ := r3.2 s hb
      obtain rfl | rfl | rfl | rfl | rfl | rfl | rfl | rfl | rfl : j = 0 ∨ j = 1 ∨ j = 2 ∨ j = 3 ∨ j = 4 ∨ j = 5 ∨ j = 6 ∨ j = 7 ∨ j = 8 := by omega
      · refine w99_0 ⟨fun c => absurd (h1.symm.trans c) n01, fun _ => ⟨fun c => absurd c b0, fun _ => ⟨fun _ => ⟨fun c => absurd c n0, fun _ => ⟨fun c => absurd c nk, fun _ => ⟨fun _ => ?_, fun c => absurd rfl c⟩⟩⟩, fun c => absurd bn c⟩⟩⟩
        refine ⟨xin_n (by omega) (by omega), ?_⟩
        rw [ix_n32 (show s < 2147483648 by omega), q1]
        refine w253_0 ⟨fun c => absurd c b0, fun _ => ⟨fun c => absurd c bm, fun _ => ⟨fun c => absurd c n0, fun _ => ⟨fun c => absurd c nk, fun _ => s176 ?_⟩⟩⟩⟩
        rw [h2, code0]
        refine ⟨fun c => absurd c n01, fun _ => ⟨fun c => absurd c (n32_ne (by decide) (by decide) (by decide)), fun _ => ⟨fun c => absurd c (n32_ne (by decide) (by decide) (by decide)), fun _ => ⟨fun c => absurd c (n32_ne (by decide) (by decide) (by decide)), fun _ => ⟨fun c => absurd c (n32_ne (by decide) (by decide) (by decide)), fun _ => ⟨fun c => absurd c (n32_ne (by decide) (by decide) (by decide)), fun _ => ?_⟩⟩⟩⟩⟩⟩
        rw [st0 (show m 284 = m 284 from rfl)]
        simp (disch := omega) only [smg_at, n32_mul, n32_add, Nat.add_zero, xin_t, ix_n32, true_and]
        first | exact ⟨⟨rfl, x1⟩, x2⟩ | exact ⟨⟨trivial, x1⟩, x2⟩ | exact ⟨x1, x2⟩
      · refine w99_0 ⟨fun c => absurd (h1.symm.trans c) n01, fun _ => ⟨fun c => absurd c b0, fun _ => ⟨fun _ => ⟨fun c => absurd c n0, fun _ => ⟨fun c => absurd c nk, fun _ => ⟨fun c => absurd c (n32_ne (by decide) (by decide) (by decide)), fun _ => ⟨fun _ => ?_, fun c => absurd rfl c⟩⟩⟩⟩, fun c => absurd bn c⟩⟩⟩
        refine ⟨xin_n (by omega) (by omega), ?_⟩
        rw [ix_n32 (show s < 2147483648 by omega), q2]
        refine w253_0 ⟨fun c => absurd c b0, fun _ => ⟨fun c => absurd c bm, fun _ => ⟨fun c => absurd c n0, fun _ => ⟨fun c => absurd c nk, fun _ => s176 ?_⟩⟩⟩⟩
        rw [h2, code0]
        refine ⟨fun c => absurd c n01, fun _ => ⟨fun c => absurd c (n32_ne (by decide) (by decide) (by decide)), fun _ => ⟨fun c => absurd c (n32_ne (by decide) (by decide) (by decide)), fun _ => ⟨fun c => absurd c (n32_ne (by decide) (by decide) (by decide)), fun _ => ⟨fun c => absurd c (n32_ne (by decide) (by decide) (by decide)), fun _ => ⟨fun c => absurd c (n32_ne (by decide) (by decide) (by decide)), fun _ => ?_⟩⟩⟩⟩⟩⟩
        rw [st0 (show m 284 = m 284 from rfl)]
        simp (disch := omega) only [smg_at, n32_mul, n32_add, Nat.add_zero, xin_t, ix_n32, true_and]
        first | exact ⟨⟨rfl, x1⟩, x2⟩ | exact ⟨⟨trivial, x1⟩, x2⟩ | exact ⟨x1, x2⟩
      · refine w99_0 ⟨fun c => absurd (h1.symm.trans c) n01, fun _ => ⟨fun c => absurd c b0, fun _ => ⟨fun _ => ⟨fun c => absurd c n0, fun _ => ⟨fun c => absurd c nk, fun _ => ⟨fun c => absurd c (n32_ne (by decide) (by decide) (by decide)), fun _ => ⟨fun c => absurd c (n32_ne (by decide) (by decide) (by decide)), fun _ => ⟨fun _ => ?_, fun c => absurd rfl c⟩⟩⟩⟩⟩, fun c => absurd bn c⟩⟩⟩
        refine ⟨xin_n (by omega) (by omega), ?_⟩
        rw [ix_n32 (show s < 2147483648 by omega), q3]
        refine w253_0 ⟨fun c => absurd c b0, fun _ => ⟨fun c => absurd c bm, fun _ => ⟨fun c => absurd c n0, fun _ => ⟨fun c => absurd c nk, fun _ => s176 ?_⟩⟩⟩⟩
        rw [h2, code0]
        refine ⟨fun c => absurd c n01, fun _ => ⟨fun c => absurd c (n32_ne (by decide) (by decide) (by decide)), fun _ => ⟨fun c => absurd c (n32_ne (by decide) (by decide) (by decide)), fun _ => ⟨fun c => absurd c (n32_ne (by decide) (by decide) (by decide)), fun _ => ⟨fun c => absurd c (n32_ne (by decide) (by decide) (by decide)), fun _ => ⟨fun c => absurd c (n32_ne (by decide) (by decide) (by decide)), fun _ => ?_⟩⟩⟩⟩⟩⟩
        rw [st0 (show m 284 = m 284 from rfl)]
        simp (disch := omega) only [smg_at, n32_mul, n32_add, Nat.add_zero, xin_t, ix_n32, true_and]
        first | exact ⟨⟨rfl, x1⟩, x2⟩ | exact ⟨⟨trivial, x1⟩, x2⟩ | exact ⟨x1, x2⟩
      · refine w99_0 ⟨fun c => absurd (h1.symm.trans c) n01, fun _ => ⟨fun c => absurd c b0, fun _ => ⟨fun _ => ⟨fun c => absurd c n0, fun _ => ⟨fun c => absurd c nk, fun _ => ⟨fun c => absurd c (n32_ne (by decide) (by decide) (by decide)), fun _ => ⟨fun c => absurd c (n32_ne (by decide) (by decide) (by decide)), fun _ => ⟨fun c => absurd c (n32_ne (by decide) (by decide) (by decide)), fun _ => ⟨fun _ => ?_, fun c => absurd rfl c⟩⟩⟩⟩⟩⟩, fun c => absurd bn c⟩⟩⟩
        refine ⟨xin_n (by omega) (by omega), ?_⟩
        rw [ix_n32 (show s < 2147483648 by omega), r2 s hb]
        refine w253_0 ⟨fun c => absurd c b0, fun _ => ⟨fun c => absurd c bm, fun _ => ⟨fun c => absurd c n0, fun _ => ⟨fun c => absurd c nk, fun _ => s176 ?_⟩⟩⟩⟩
        rw [h2, code0]
        refine ⟨fun c => absurd c n01, fun _ => ⟨fun c => absurd c (n32_ne (by decide) (by decide) (by decide)), fun _ => ⟨fun c => absurd c (n32_ne (by decide) (by decide) (by decide)), fun _ => ⟨fun c => absurd c (n32_ne (by decide) (by decide) (by decide)), fun _ => ⟨fun c => absurd c (n32_ne (by decide) (by decide) (by decide)), fun _ => ⟨fun c => absurd c (n32_ne (by decide) (by decide) (by decide)), fun _ => ?_⟩⟩⟩⟩⟩⟩
        rw [st0 (show m 284 = m 284 from rfl)]
        simp (disch := omega) only [smg_at, n32_mul, n32_add, Nat.add_zero, xin_t, ix_n32, true_and]
        first | exact ⟨⟨rfl, x1⟩, x2⟩ | exact ⟨⟨trivial, x1⟩, x2⟩ | exact ⟨x1, x2⟩
      · refine w99_0 ⟨fun c => absurd (h1.symm.trans c) n01, fun _ => ⟨fun c => absurd c b0, fun _ => ⟨fun _ => ⟨fun c => absurd c n0, fun _ => ⟨fun c => absurd c nk, fun _ => ⟨fun c => absurd c (n32_ne (by decide) (by decide) (by decide)), fun _ => ⟨fun c => absurd c (n32_ne (by decide) (by decide) (by decide)), fun _ => ⟨fun c => absurd c (n32_ne (by decide) (by decide) (by decide)), fun _ => ⟨fun c => absurd c (n32_ne (by decide) (by decide) (by decide)), fun _ => ⟨fun _ => ?_, fun c => absurd rfl c⟩⟩⟩⟩⟩⟩⟩, fun c => absurd bn c⟩⟩⟩
        refine s169 w r1 r3 hb ?_
        refine w253_0 ⟨fun c => absurd c b0, fun _ => ⟨fun c => absurd c bm, fun _ => ⟨fun c => absurd c n0, fun _ => ⟨fun c => absurd c nk, fun _ => s176 ?_⟩⟩⟩⟩
        rw [h2, code0]
        refine ⟨fun c => absurd c n01, fun _ => ⟨fun _ => ?_, fun c => absurd rfl c⟩⟩
        rw [st0 (show m 284 = m 284 from rfl)]
        refine s247 w hb (s248 ?_)
        refine ⟨⟨?_, x1⟩, x2⟩
        have bb := bits_bset (n := nBr (m 284)) (fun b => seesG (m 284) s b) a2
        exact bb.1.trans bb.2.symm
      · refine w99_0 ⟨fun c => absurd (h1.symm.trans c) n01, fun _ => ⟨fun c => absurd c b0, fun _ => ⟨fun _ => ⟨fun c => absurd c n0, fun _ => ⟨fun c => absurd c nk, fun _ => ⟨fun c => absurd c (n32_ne (by decide) (by decide) (by decide)), fun _ => ⟨fun c => absurd c (n32_ne (by decide) (by decide) (by decide)), fun _ => ⟨fun c => absurd c (n32_ne (by decide) (by decide) (by decide)), fun _ => ⟨fun c => absurd c (n32_ne (by decide) (by decide) (by decide)), fun _ => ⟨fun c => absurd c (n32_ne (by decide) (by decide) (by decide)), fun _ => ⟨fun _ => ?_, fun c => absurd rfl c⟩⟩⟩⟩⟩⟩⟩⟩, fun c => absurd bn c⟩⟩⟩
        refine s161 w r1 r3 hb ?_
        intro m1 hT1 fd
        have f : QF m m1 := QF_fd fd
        have hc : CPL m1 N := CPL_fr h (Nat.le_refl _) f
        have hg : m1 284 = m 284 := funext fun k => f _ _ (by unfold REL; omega)
        have h2' : m1 283 6 = n32 1 := by rw [f _ _ (by unfold REL; omega)]; exact h2
        have bm' : ¬ m1 284 (ix (n32 7)) - n32 1 < n32 s := by rw [hg]; exact bm
        rw [hT1.1]
        refine w253_0 ⟨fun c => absurd c b0, fun _ => ⟨fun c => absurd c bm', fun _ => ⟨fun c => absurd c n0, fun _ => ⟨fun c => absurd c nk, fun _ => s176 ?_⟩⟩⟩⟩
        rw [h2', code0]
        refine ⟨fun c => absurd c n01, fun _ => ⟨fun c => absurd c (n32_ne (by decide) (by decide) (by decide)), fun _ => ⟨fun _ => ?_, fun c => absurd rfl c⟩⟩⟩
        rw [st0 hg]
        refine w249_0 (s220 w hb ?_)
        intro m2 f2 hT2
        obtain ⟨z1, z2⟩ := fin0 hc hg f2
        have e18 := hT2.1
        simp (disch := omega) only [smg_ne, e18]
        first | exact ⟨⟨rfl, z1⟩, z2⟩ | exact ⟨⟨trivial, z1⟩, z2⟩ | exact ⟨z1, z2⟩
      · refine w99_0 ⟨fun c => absurd (h1.symm.trans c) n01, fun _ => ⟨fun c => absurd c b0, fun _ => ⟨fun _ => ⟨fun c => absurd c n0, fun _ => ⟨fun c => absurd c nk, fun _ => ⟨fun c => absurd c (n32_ne (by decide) (by decide) (by decide)), fun _ => ⟨fun c => absurd c (n32_ne (by decide) (by decide) (by decide)), fun _ => ⟨fun c => absurd c (n32_ne (by decide) (by decide) (by decide)), fun _ => ⟨fun c => absurd c (n32_ne (by decide) (by decide) (by decide)), fun _ => ⟨fun c => absurd c (n32_ne (by decide) (by decide) (by decide)), fun _ => ⟨fun c => absurd c (n32_ne (by decide) (by decide) (by decide)), fun _ => ⟨fun _ => ?_, fun c => absurd rfl c⟩⟩⟩⟩⟩⟩⟩⟩⟩, fun c => absurd bn c⟩⟩⟩
        refine ⟨xin_n (by omega) (by omega), ?_⟩
        rw [ix_n32 (show s < 2147483648 by omega), q2]
        refine s66 w r1 ?_
        refine w253_0 ⟨fun c => absurd c b0, fun _ => ⟨fun c => absurd c bm, fun _ => ⟨fun c => absurd c n0, fun _ => ⟨fun c => absurd c nk, fun _ => s176 ?_⟩⟩⟩⟩
        rw [h2, code0]
        refine ⟨fun c => absurd c n01, fun _ => ⟨fun c => absurd c (n32_ne (by decide) (by decide) (by decide)), fun _ => ⟨fun c => absurd c (n32_ne (by decide) (by decide) (by decide)), fun _ => ⟨fun _ => ?_, fun c => absurd rfl c⟩⟩⟩⟩
        rw [st0 (show m 284 = m 284 from rfl)]
        refine s250 w hb ?_
        first | exact ⟨⟨rfl, x1⟩, x2⟩ | exact ⟨⟨trivial, x1⟩, x2⟩ | exact ⟨x1, x2⟩
      · refine w99_0 ⟨fun c => absurd (h1.symm.trans c) n01, fun _ => ⟨fun c => absurd c b0, fun _ => ⟨fun _ => ⟨fun c => absurd c n0, fun _ => ⟨fun c => absurd c nk, fun _ => ⟨fun c => absurd c (n32_ne (by decide) (by decide) (by decide)), fun _ => ⟨fun c => absurd c (n32_ne (by decide) (by decide) (by decide)), fun _ => ⟨fun c => absurd c (n32_ne (by decide) (by decide) (by decide)), fun _ => ⟨fun c => absurd c (n32_ne (by decide) (by decide) (by decide)), fun _ => ⟨fun c => absurd c (n32_ne (by decide) (by decide) (by decide)), fun _ => ⟨fun c => absurd c (n32_ne (by decide) (by decide) (by decide)), fun _ => ⟨fun c => absurd c (n32_ne (by decide) (by decide) (by decide)), fun _ => ⟨fun _ => ?_, fun c => absurd rfl c⟩⟩⟩⟩⟩⟩⟩⟩⟩⟩, fun c => absurd bn c⟩⟩⟩
        refine ⟨xin_n (by omega) (by omega), ?_⟩
        rw [ix_n32 (show s < 2147483648 by omega), q2, ix_n32 (show 1 < 2147483648 by omega), r1.se (k := 1) (by omega)]
        refine s64 (n := nBr (m 284)) e6 a2 ?_
        refine w253_0 ⟨fun c => absurd c b0, fun _ => ⟨fun c => absurd c bm, fun _ => ⟨fun c => absurd c n0, fun _ => ⟨fun c => absurd c nk, fun _ => s176 ?_⟩⟩⟩⟩
        rw [h2, code0]
        refine ⟨fun c => absurd c n01, fun _ => ⟨fun c => absurd c (n32_ne (by decide) (by decide) (by decide)), fun _ => ⟨fun c => absurd c (n32_ne (by decide) (by decide) (by decide)), fun _ => ⟨fun c => absurd c (n32_ne (by decide) (by decide) (by decide)), fun _ => ⟨fun _ => ?_, fun c => absurd rfl c⟩⟩⟩⟩⟩
        rw [st0 (show m 284 = m 284 from rfl)]
        refine s251 (n := nBr (m 284)) (by rw [smg_at]; exact w.1.1) a2 (by omega) ?_
        refine ⟨⟨?_, x1⟩, x2⟩
        exact congrArg n32 (cnt_congr fun i hi => by simp only [smg_at]; rw [r1.pla hi])
      · refine w99_0 ⟨fun c => absurd (h1.symm.trans c) n01, fun _ => ⟨fun c => absurd c b0, fun _ => ⟨fun _ => ⟨fun c => absurd c n0, fun _ => ⟨fun c => absurd c nk, fun _ => ⟨fun c => absurd c (n32_ne (by decide) (by decide) (by decide)), fun _ => ⟨fun c => absurd c (n32_ne (by decide) (by decide) (by decide)), fun _ => ⟨fun c => absurd c (n32_ne (by decide) (by decide) (by decide)), fun _ => ⟨fun c => absurd c (n32_ne (by decide) (by decide) (by decide)), fun _ => ⟨fun c => absurd c (n32_ne (by decide) (by decide) (by decide)), fun _ => ⟨fun c => absurd c (n32_ne (by decide) (by decide) (by decide)), fun _ => ⟨fun c => absurd c (n32_ne (by decide) (by decide) (by decide)), fun _ => ⟨fun c => absurd c (n32_ne (by decide) (by decide) (by decide)), fun _ => ?_⟩⟩⟩⟩⟩⟩⟩⟩⟩⟩, fun c => absurd bn c⟩⟩⟩
        refine ⟨xin_n (by omega) (by omega), ?_⟩
        rw [ix_n32 (show s < 2147483648 by omega), q2, ix_n32 (show 1 < 2147483648 by omega), r1.se (k := 1) (by omega)]
        refine s65 (n := nBr (m 284)) e6 a2 ?_
        refine w253_0 ⟨fun c => absurd c b0, fun _ => ⟨fun c => absurd c bm, fun _ => ⟨fun c => absurd c n0, fun _ => ⟨fun c => absurd c nk, fun _ => s176 ?_⟩⟩⟩⟩
        rw [h2, code0]
        refine ⟨fun c => absurd c n01, fun _ => ⟨fun c => absurd c (n32_ne (by decide) (by decide) (by decide)), fun _ => ⟨fun c => absurd c (n32_ne (by decide) (by decide) (by decide)), fun _ => ⟨fun c => absurd c (n32_ne (by decide) (by decide) (by decide)), fun _ => ⟨fun c => absurd c (n32_ne (by decide) (by decide) (by decide)), fun _ => ⟨fun _ => ?_, fun c => absurd rfl c⟩⟩⟩⟩⟩⟩
        rw [st0 (show m 284 = m 284 from rfl)]
        refine s252 (n := nBr (m 284)) (by rw [smg_at]; exact w.1.1) a2 (by omega) ?_
        refine ⟨⟨?_, x1⟩, x2⟩
        exact congrArg n32 (cnt_congr fun i hi => by simp only [smg_at]; rw [r1.pla hi])
end S86
