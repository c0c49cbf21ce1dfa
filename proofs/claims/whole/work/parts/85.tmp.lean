/-! Pairs: setting, plan, lying, count, bearer, stand (written by program). -/
theorem z_iff {x : Int32} {hi : Nat} (h : inR x 0 hi) (hh : hi < 2147483648) : ¬ n32 0 < x ↔ x = n32 0 := by
  obtain ⟨n, -, h2, rfl⟩ := h
  rw [n32_lt (by omega) (by omega)]
  constructor
  · intro h; rw [show n = 0 by omega]
  · intro h; have := n32_inj (by omega) (by omega) h; omega
theorem bst_none {n : Nat} {p : Nat → Bool} {lt : Nat → Nat → Bool} (hn : n < 2147483648) : bst n p lt = -(n32 1) ↔ cnt n p = 0 := by
  induction n with
  | zero => exact ⟨fun _ => rfl, fun _ => rfl⟩
  | succ n ih =>
    have ih := ih (by omega)
    have e : bst (n + 1) p lt = if p n && (bst n p lt == -(n32 1) || lt n (ix (bst n p lt))) then n32 n else bst n p lt := rfl
    rw [e, cnt_succ]
    by_cases hp : p n = true
    · rw [if_pos hp, hp, Bool.true_and]
      refine ⟨fun h => ?_, fun h => absurd h (by omega)⟩
      split at h
      · exact absurd h (n32_nm1 (by omega))
      · rename_i hq
        rw [h, BEq.rfl, Bool.true_or] at hq
        exact absurd rfl hq
    · rw [if_neg hp]
      have : p n = false := by cases h : p n with
        | true => exact absurd h hp
        | false => rfl
      rw [this, Bool.false_and, if_neg (by decide)]
      exact ih
section S85
variable {D : Nat} {m : XM} {g : PG} {E : Nat → XM → Prop}
theorem p_setting {v : Int32} {N : Nat} (h : CPL m N) : PRI (D + 12) 97 240 [vR 10 0, vI v] [vR 11 283, vI v] mpSA m N := by
  unfold PRI
  have no : ∀ c, codeOf (m 283 6) (inI v (n32 0) (n32 5)) (n32 1) = c → 1 ≤ c → c ≤ 3 → VI (D + 12) 240 [vR 11 283, vI v] m (fun _ m2 => (m2 283 0 = n32 c ∧ 1 ≤ c ∧ c ≤ 3) ∧ CPL m2 N) (fun _ _ => False) := by
    intro c hc y1 y3
    have cn : ¬ c = 0 := by omega
    unfold inI at hc
    refine w240_0 ⟨fun d1 => s177 ?_, fun d1 => ⟨fun d2 => s177 ?_, fun d2 => s177 ?_⟩⟩
    · rw [if_pos d1] at hc
      rw [hc, if_neg cn]
      exact ⟨fun _ => ⟨⟨um_eq _ _ _ _, y1, y3⟩, CPL_th h⟩, fun c => absurd rfl c⟩
    · rw [if_neg d1, if_pos d2] at hc
      rw [hc, if_neg cn]
      exact ⟨fun _ => ⟨⟨um_eq _ _ _ _, y1, y3⟩, CPL_th h⟩, fun c => absurd rfl c⟩
    · rw [if_neg d1, if_neg d2] at hc
      rw [hc, if_neg cn]
      exact ⟨fun _ => ⟨⟨um_eq _ _ _ _, y1, y3⟩, CPL_th h⟩, fun c => absurd rfl c⟩
  rcases h.ld with ⟨h1, h2⟩ | ⟨h1, h2, r1, r2, r3, T, hT, si⟩
  · exact w97_0 ⟨fun _ => no 1 (by rw [h2, code1]) (by omega) (by omega), fun c => absurd h1 c⟩
  · rcases rng_cases v 5 (by omega) with ⟨d1, e1⟩ | ⟨d1, d2, e1⟩ | ⟨j, hj, rfl, e1⟩
    · exact w97_0 ⟨fun c => absurd (h1.symm.trans c) n01, fun _ => ⟨fun _ => no 2 (by rw [h2, e1, code2]) (by omega) (by omega), fun c => absurd d1 c⟩⟩
    · exact w97_0 ⟨fun c => absurd (h1.symm.trans c) n01, fun _ => ⟨fun c => absurd c d1, fun _ => ⟨fun _ => no 2 (by rw [h2, e1, code2]) (by omega) (by omega), fun c => absurd d2 c⟩⟩⟩
    · have n0 : ¬ n32 j < n32 0 := by rw [n32_lt (by omega) (by omega)]; omega
      have nk : ¬ n32 5 < n32 j := by rw [n32_lt (by omega) (by omega)]; omega
      refine w97_0 ⟨fun c => absurd (h1.symm.trans c) n01, fun _ => ⟨fun c => absurd c n0, fun _ => ⟨fun c => absurd c nk, fun _ => ⟨xin_n (by omega) (by omega), ?_⟩⟩⟩⟩
      refine w240_0 ⟨fun c => absurd c n0, fun _ => ⟨fun c => absurd c nk, fun _ => s177 ?_⟩⟩
      rw [h2, code0]
      refine ⟨fun c => absurd c n01, fun _ => ⟨xin_n (by omega) (by omega), ?_⟩⟩
      refine ⟨⟨?_, um_eq _ _ _ _⟩, CPL_th h⟩
      rw [um_a (by omega), ix_n32 (by omega)]
      exact r1.se (by omega)
theorem p_plan {v1 v2 : Int32} {N : Nat} (h : CPL m N) : PRI (D + 12) 100 254 [vR 10 0, vI v1, vI v2] [vR 11 283, vI v1, vI v2] mpSPA m N := by
  unfold PRI
  have no : ∀ c, codeOf (m 283 6) (inI v1 (n32 0) (m 284 8 - n32 1)) (inI v2 (n32 0) (n32 3)) = c → 1 ≤ c → c ≤ 3 → VI (D + 12) 254 [vR 11 283, vI v1, vI v2] m (fun _ m2 => (m2 283 0 = n32 c ∧ 1 ≤ c ∧ c ≤ 3) ∧ CPL m2 N) (fun _ _ => False) := by
    intro c hc y1 y3
    have cn : ¬ c = 0 := by omega
    unfold inI at hc
    refine w254_0 ⟨fun d1 => ⟨fun d2 => s176 ?_, fun d2 => ⟨fun d3 => s176 ?_, fun d3 => s176 ?_⟩⟩, fun d1 => ?_⟩
    · rw [if_pos d1, if_pos d2] at hc
    rw [hc, if_neg cn]
    exact ⟨fun _ => ⟨⟨um_eq _ _ _ _, y1, y3⟩, CPL_th h⟩, fun c => absurd rfl c⟩
    · rw [if_pos d1, if_neg d2, if_pos d3] at hc
      rw [hc, if_neg cn]
      exact ⟨fun _ => ⟨⟨um_eq _ _ _ _, y1, y3⟩, CPL_th h⟩, fun c => absurd rfl c⟩
    · rw [if_pos d1, if_neg d2, if_neg d3] at hc
      rw [hc, if_neg cn]
      exact ⟨fun _ => ⟨⟨um_eq _ _ _ _, y1, y3⟩, CPL_th h⟩, fun c => absurd rfl c⟩
    · rw [ix_n32 (by omega)]
      refine ⟨fun d4 => ⟨fun d2 => s176 ?_, fun d2 => ⟨fun d3 => s176 ?_, fun d3 => s176 ?_⟩⟩, fun d4 => ⟨fun d2 => s176 ?_, fun d2 => ⟨fun d3 => s176 ?_, fun d3 => s176 ?_⟩⟩⟩
      · rw [if_neg d1, if_pos d4, if_pos d2] at hc
        rw [hc, if_neg cn]
        exact ⟨fun _ => ⟨⟨um_eq _ _ _ _, y1, y3⟩, CPL_th h⟩, fun c => absurd rfl c⟩
      · rw [if_neg d1, if_pos d4, if_neg d2, if_pos d3] at hc
        rw [hc, if_neg cn]
        exact ⟨fun _ => ⟨⟨um_eq _ _ _ _, y1, y3⟩, CPL_th h⟩, fun c => absurd rfl c⟩
      · rw [if_neg d1, if_pos d4, if_neg d2, if_neg d3] at hc
        rw [hc, if_neg cn]
        exact ⟨fun _ => ⟨⟨um_eq _ _ _ _, y1, y3⟩, CPL_th h⟩, fun c => absurd rfl c⟩
      · rw [if_neg d1, if_neg d4, if_pos d2] at hc
        rw [hc, if_neg cn]
        exact ⟨fun _ => ⟨⟨um_eq _ _ _ _, y1, y3⟩, CPL_th h⟩, fun c => absurd rfl c⟩
      · rw [if_neg d1, if_neg d4, if_neg d2, if_pos d3] at hc
        rw [hc, if_neg cn]
        exact ⟨fun _ => ⟨⟨um_eq _ _ _ _, y1, y3⟩, CPL_th h⟩, fun c => absurd rfl c⟩
      · rw [if_neg d1, if_neg d4, if_neg d2, if_neg d3] at hc
        rw [hc, if_neg cn]
        exact ⟨fun _ => ⟨⟨um_eq _ _ _ _, y1, y3⟩, CPL_th h⟩, fun c => absurd rfl c⟩
  rcases h.ld with ⟨h1, h2⟩ | ⟨h1, h2, r1, r2, r3, T, hT, si⟩
  · exact w100_0 ⟨fun _ => no 1 (by rw [h2, code1]) (by omega) (by omega), fun c => absurd h1 c⟩
  · have w := si.w
    have a2 := w.nb
    have a6 := w.np
    have a9 := w.nl
    have e8 : m 284 8 = n32 (nPl (m 284)) := w.2.2.1.1
    have e16 : m (29 + 16) 0 = n32 (nPl (m 284)) := by rw [r1.np]; exact e8
    rcases inI_cases (v := v1) (n := nPl (m 284)) (by omega) with ⟨c1, c2⟩ | ⟨b, hb, rfl, c1⟩
    · have rb := no 2 (by rw [h2, e8, c1, code2]) (by omega) (by omega)
      refine w100_0 ⟨fun c => absurd (h1.symm.trans c) n01, fun _ => ⟨fun _ => rb, fun d1 => ⟨fun d2 => ?_, fun _ => rb⟩⟩⟩
      rw [e16] at d2
      rcases c2 with c2 | c2
      · exact absurd c2 d1
      · exact absurd d2 c2
    · have b0 : ¬ n32 b < n32 0 := by rw [n32_lt (by omega) (by omega)]; omega
      have bn : n32 b < m (29 + 16) 0 := by rw [e16, n32_lt (by omega) (by omega)]; omega
      have bm : ¬ m 284 (ix (n32 8)) - n32 1 < n32 b := by rw [ix_n32 (by omega), e8, n32_sub (by omega), n32_lt (by omega) (by omega)]; omega
      rcases rng_cases v2 3 (by omega) with ⟨d1, e1⟩ | ⟨d1, d2, e1⟩ | ⟨j, hj, rfl, e1⟩
      · exact w100_0 ⟨fun c => absurd (h1.symm.trans c) n01, fun _ => ⟨fun c => absurd c b0, fun _ => ⟨fun _ => ⟨fun _ => no 3 (by rw [h2, e8, c1, e1, code3]) (by omega) (by omega), fun c => absurd d1 c⟩, fun c => absurd bn c⟩⟩⟩
      · exact w100_0 ⟨fun c => absurd (h1.symm.trans c) n01, fun _ => ⟨fun c => absurd c b0, fun _ => ⟨fun _ => ⟨fun c => absurd c d1, fun _ => ⟨fun _ => no 3 (by rw [h2, e8, c1, e1, code3]) (by omega) (by omega), fun c => absurd d2 c⟩⟩, fun c => absurd bn c⟩⟩⟩
      · obtain ⟨x1, x2⟩ := fin1 h (show m 284 = m 284 from rfl)
        have n0 : ¬ n32 j < n32 0 := by rw [n32_lt (by omega) (by omega)]; omega
        have nk : ¬ n32 3 < n32 j := by rw [n32_lt (by omega) (by omega)]; omega
        obtain rfl | rfl | rfl | rfl : j = 0 ∨ j = 1 ∨ j = 2 ∨ j = 3 := by omega
        · refine w100_0 ⟨fun c => absurd (h1.symm.trans c) n01, fun _ => ⟨fun c => absurd c b0, fun _ => ⟨fun _ => ⟨fun c => absurd c n0, fun _ => ⟨fun c => absurd c nk, fun _ => ⟨fun _ => ?_, fun c => absurd rfl c⟩⟩⟩, fun c => absurd bn c⟩⟩⟩
          refine ⟨xin_n (by omega) (by omega), ?_⟩
          rw [ix_n32 (show b < 2147483648 by omega)]
          rw [r1.pt hb]
          refine w254_0 ⟨fun c => absurd c b0, fun _ => ⟨fun c => absurd c bm, fun _ => ⟨fun c => absurd c n0, fun _ => ⟨fun c => absurd c nk, fun _ => s176 ?_⟩⟩⟩⟩
          rw [h2, code0]
          refine ⟨fun c => absurd c n01, fun _ => ?_⟩
          rw [st0 (show m 284 = m 284 from rfl)]
          refine ⟨fun c => absurd ((n32_le (by omega) (by omega)).mp c) (by omega), fun _ => ?_⟩
          simp (disch := omega) only [smg_at, n32_mul, n32_add, Nat.add_zero, xin_t, ix_n32, true_and]
          first | exact ⟨⟨rfl, x1⟩, x2⟩ | exact ⟨⟨trivial, x1⟩, x2⟩ | exact ⟨x1, x2⟩
        · refine w100_0 ⟨fun c => absurd (h1.symm.trans c) n01, fun _ => ⟨fun c => absurd c b0, fun _ => ⟨fun _ => ⟨fun c => absurd c n0, fun _ => ⟨fun c => absurd c nk, fun _ => ⟨fun c => absurd c (n32_ne (by decide) (by decide) (by decide)), fun _ => ⟨fun _ => ?_, fun c => absurd rfl c⟩⟩⟩⟩, fun c => absurd bn c⟩⟩⟩
          refine ⟨xin_n (by omega) (by omega), ?_⟩
          rw [ix_n32 (show b < 2147483648 by omega)]
          rw [r1.pa hb]
          refine w254_0 ⟨fun c => absurd c b0, fun _ => ⟨fun c => absurd c bm, fun _ => ⟨fun c => absurd c n0, fun _ => ⟨fun c => absurd c nk, fun _ => s176 ?_⟩⟩⟩⟩
          rw [h2, code0]
          refine ⟨fun c => absurd c n01, fun _ => ?_⟩
          rw [st0 (show m 284 = m 284 from rfl)]
          refine ⟨fun c => absurd ((n32_le (by omega) (by omega)).mp c) (by omega), fun _ => ?_⟩
          simp (disch := omega) only [smg_at, n32_mul, n32_add, Nat.add_zero, xin_t, ix_n32, true_and]
          first | exact ⟨⟨rfl, x1⟩, x2⟩ | exact ⟨⟨trivial, x1⟩, x2⟩ | exact ⟨x1, x2⟩
        · refine w100_0 ⟨fun c => absurd (h1.symm.trans c) n01, fun _ => ⟨fun c => absurd c b0, fun _ => ⟨fun _ => ⟨fun c => absurd c n0, fun _ => ⟨fun c => absurd c nk, fun _ => ⟨fun c => absurd c (n32_ne (by decide) (by decide) (by decide)), fun _ => ⟨fun c => absurd c (n32_ne (by decide) (by decide) (by decide)), fun _ => ⟨fun _ => ?_, fun c => absurd rfl c⟩⟩⟩⟩⟩, fun c => absurd bn c⟩⟩⟩
          refine ⟨xin_n (by omega) (by omega), ?_⟩
          rw [ix_n32 (show b < 2147483648 by omega)]
          rw [r1.po hb]
          refine w254_0 ⟨fun c => absurd c b0, fun _ => ⟨fun c => absurd c bm, fun _ => ⟨fun c => absurd c n0, fun _ => ⟨fun c => absurd c nk, fun _ => s176 ?_⟩⟩⟩⟩
          rw [h2, code0]
          refine ⟨fun c => absurd c n01, fun _ => ?_⟩
          rw [st0 (show m 284 = m 284 from rfl)]
          refine ⟨fun c => absurd ((n32_le (by omega) (by omega)).mp c) (by omega), fun _ => ?_⟩
          simp (disch := omega) only [smg_at, n32_mul, n32_add, Nat.add_zero, xin_t, ix_n32, true_and]
          first | exact ⟨⟨rfl, x1⟩, x2⟩ | exact ⟨⟨trivial, x1⟩, x2⟩ | exact ⟨x1, x2⟩
        · refine w100_0 ⟨fun c => absurd (h1.symm.trans c) n01, fun _ => ⟨fun c => absurd c b0, fun _ => ⟨fun _ => ⟨fun c => absurd c n0, fun _ => ⟨fun c => absurd c nk, fun _ => ⟨fun c => absurd c (n32_ne (by decide) (by decide) (by decide)), fun _ => ⟨fun c => absurd c (n32_ne (by decide) (by decide) (by decide)), fun _ => ⟨fun c => absurd c (n32_ne (by decide) (by decide) (by decide)), fun _ => ?_⟩⟩⟩⟩⟩, fun c => absurd bn c⟩⟩⟩
          refine ⟨xin_n (by omega) (by omega), ?_⟩
          rw [ix_n32 (show b < 2147483648 by omega)]
          rw [r1.po hb, r1.pt hb, r1.tm]
          have go : ∀ Q : Int32 → XM → Prop, Q (if m 284 (171 + 3 * b + 2) = n32 0 then m 284 (171 + 3 * b) - m 284 9 else -(n32 1)) (smg (um m 283 0 (n32 0)) (m 284)) → VI (D + 12) 254 [vR 11 283, vI (n32 b), vI (n32 3)] m Q (fun _ _ => False) := by
            intro Q hQ
            refine w254_0 ⟨fun c => absurd c b0, fun _ => ⟨fun c => absurd c bm, fun _ => ⟨fun c => absurd c n0, fun _ => ⟨fun c => absurd c nk, fun _ => s176 ?_⟩⟩⟩⟩
            rw [h2, code0]
            refine ⟨fun c => absurd c n01, fun _ => ?_⟩
            rw [st0 (show m 284 = m 284 from rfl)]
            refine ⟨fun _ => ?_, fun c => absurd (n32_rfl _) c⟩
            simp (disch := omega) only [smg_at, n32_mul, n32_add, Nat.add_zero, xin_t, ix_n32, true_and]
            by_cases c : m 284 (171 + 3 * b + 2) = n32 0
            · rw [if_pos c] at hQ
              exact ⟨fun _ => hQ, fun c' => absurd c c'⟩
            · rw [if_neg c] at hQ
              exact ⟨fun c' => absurd c' c, fun _ => hQ⟩
          refine ⟨fun c => go _ ?_, fun c => go _ ?_⟩
          · rw [if_pos c]
            first | exact ⟨⟨rfl, x1⟩, x2⟩ | exact ⟨⟨trivial, x1⟩, x2⟩ | exact ⟨x1, x2⟩
          · rw [if_neg c]
            first | exact ⟨⟨rfl, x1⟩, x2⟩ | exact ⟨⟨trivial, x1⟩, x2⟩ | exact ⟨x1, x2⟩
theorem p_lying {v1 v2 : Int32} {N : Nat} (h : CPL m N) : PRI (D + 12) 101 255 [vR 10 0, vI v1, vI v2] [vR 11 283, vI v1, vI v2] mpSPA m N := by
  unfold PRI
  have no : ∀ c, codeOf (m 283 6) (inI v1 (n32 0) (m 284 10 - n32 1)) (inI v2 (n32 0) (n32 2)) = c → 1 ≤ c → c ≤ 3 → VI (D + 12) 255 [vR 11 283, vI v1, vI v2] m (fun _ m2 => (m2 283 0 = n32 c ∧ 1 ≤ c ∧ c ≤ 3) ∧ CPL m2 N) (fun _ _ => False) := by
    intro c hc y1 y3
    have cn : ¬ c = 0 := by omega
    unfold inI at hc
    refine w255_0 ⟨fun d1 => ⟨fun d2 => s176 ?_, fun d2 => ⟨fun d3 => s176 ?_, fun d3 => s176 ?_⟩⟩, fun d1 => ?_⟩
    · rw [if_pos d1, if_pos d2] at hc
      rw [hc, if_neg cn]
      exact ⟨fun _ => ⟨⟨um_eq _ _ _ _, y1, y3⟩, CPL_th h⟩, fun c => absurd rfl c⟩
    · rw [if_pos d1, if_neg d2, if_pos d3] at hc
      rw [hc, if_neg cn]
      exact ⟨fun _ => ⟨⟨um_eq _ _ _ _, y1, y3⟩, CPL_th h⟩, fun c => absurd rfl c⟩
    · rw [if_pos d1, if_neg d2, if_neg d3] at hc
      rw [hc, if_neg cn]
      exact ⟨fun _ => ⟨⟨um_eq _ _ _ _, y1, y3⟩, CPL_th h⟩, fun c => absurd rfl c⟩
    · rw [ix_n32 (by omega)]
      refine ⟨fun d4 => ⟨fun d2 => s176 ?_, fun d2 => ⟨fun d3 => s176 ?_, fun d3 => s176 ?_⟩⟩, fun d4 => ⟨fun d2 => s176 ?_, fun d2 => ⟨fun d3 => s176 ?_, fun d3 => s176 ?_⟩⟩⟩
      · rw [if_neg d1, if_pos d4, if_pos d2] at hc
        rw [hc, if_neg cn]
        exact ⟨fun _ => ⟨⟨um_eq _ _ _ _, y1, y3⟩, CPL_th h⟩, fun c => absurd rfl c⟩
      · rw [if_neg d1, if_pos d4, if_neg d2, if_pos d3] at hc
        rw [hc, if_neg cn]
        exact ⟨fun _ => ⟨⟨um_eq _ _ _ _, y1, y3⟩, CPL_th h⟩, fun c => absurd rfl c⟩
      · rw [if_neg d1, if_pos d4, if_neg d2, if_neg d3] at hc
        rw [hc, if_neg cn]
        exact ⟨fun _ => ⟨⟨um_eq _ _ _ _, y1, y3⟩, CPL_th h⟩, fun c => absurd rfl c⟩
      · rw [if_neg d1, if_neg d4, if_pos d2] at hc
        rw [hc, if_neg cn]
        exact ⟨fun _ => ⟨⟨um_eq _ _ _ _, y1, y3⟩, CPL_th h⟩, fun c => absurd rfl c⟩
      · rw [if_neg d1, if_neg d4, if_neg d2, if_pos d3] at hc
        rw [hc, if_neg cn]
        exact ⟨fun _ => ⟨⟨um_eq _ _ _ _, y1, y3⟩, CPL_th h⟩, fun c => absurd rfl c⟩
      · rw [if_neg d1, if_neg d4, if_neg d2, if_neg d3] at hc
        rw [hc, if_neg cn]
        exact ⟨fun _ => ⟨⟨um_eq _ _ _ _, y1, y3⟩, CPL_th h⟩, fun c => absurd rfl c⟩
  rcases h.ld with ⟨h1, h2⟩ | ⟨h1, h2, r1, r2, r3, T, hT, si⟩
  · exact w101_0 ⟨fun _ => no 1 (by rw [h2, code1]) (by omega) (by omega), fun c => absurd h1 c⟩
  · have w := si.w
    have a2 := w.nb
    have a6 := w.np
    have a9 := w.nl
    have e8 : m 284 10 = n32 (nL (m 284)) := w.2.2.2.1.1
    have e16 : m (29 + 12) 0 = n32 (nL (m 284)) := by rw [r1.nl]; exact e8
    rcases inI_cases (v := v1) (n := nL (m 284)) (by omega) with ⟨c1, c2⟩ | ⟨b, hb, rfl, c1⟩
    · have rb := no 2 (by rw [h2, e8, c1, code2]) (by omega) (by omega)
      refine w101_0 ⟨fun c => absurd (h1.symm.trans c) n01, fun _ => ⟨fun _ => rb, fun d1 => ⟨fun d2 => ?_, fun _ => rb⟩⟩⟩
      rw [e16] at d2
      rcases c2 with c2 | c2
      · exact absurd c2 d1
      · exact absurd d2 c2
    · have b0 : ¬ n32 b < n32 0 := by rw [n32_lt (by omega) (by omega)]; omega
      have bn : n32 b < m (29 + 12) 0 := by rw [e16, n32_lt (by omega) (by omega)]; omega
      have bm : ¬ m 284 (ix (n32 10)) - n32 1 < n32 b := by rw [ix_n32 (by omega), e8, n32_sub (by omega), n32_lt (by omega) (by omega)]; omega
      rcases rng_cases v2 2 (by omega) with ⟨d1, e1⟩ | ⟨d1, d2, e1⟩ | ⟨j, hj, rfl, e1⟩
      · exact w101_0 ⟨fun c => absurd (h1.symm.trans c) n01, fun _ => ⟨fun c => absurd c b0, fun _ => ⟨fun _ => ⟨fun _ => no 3 (by rw [h2, e8, c1, e1, code3]) (by omega) (by omega), fun c => absurd d1 c⟩, fun c => absurd bn c⟩⟩⟩
      · exact w101_0 ⟨fun c => absurd (h1.symm.trans c) n01, fun _ => ⟨fun c => absurd c b0, fun _ => ⟨fun _ => ⟨fun c => absurd c d1, fun _ => ⟨fun _ => no 3 (by rw [h2, e8, c1, e1, code3]) (by omega) (by omega), fun c => absurd d2 c⟩⟩, fun c => absurd bn c⟩⟩⟩
      · obtain ⟨x1, x2⟩ := fin1 h (show m 284 = m 284 from rfl)
        have n0 : ¬ n32 j < n32 0 := by rw [n32_lt (by omega) (by omega)]; omega
        have nk : ¬ n32 2 < n32 j := by rw [n32_lt (by omega) (by omega)]; omega
        obtain rfl | rfl | rfl : j = 0 ∨ j = 1 ∨ j = 2 := by omega
        · refine w101_0 ⟨fun c => absurd (h1.symm.trans c) n01, fun _ => ⟨fun c => absurd c b0, fun _ => ⟨fun _ => ⟨fun c => absurd c n0, fun _ => ⟨fun c => absurd c nk, fun _ => ⟨fun _ => ?_, fun c => absurd rfl c⟩⟩⟩, fun c => absurd bn c⟩⟩⟩
          refine ⟨xin_n (by omega) (by omega), ?_⟩
          rw [ix_n32 (show b < 2147483648 by omega)]
          rw [r1.ll hb]
          refine w255_0 ⟨fun c => absurd c b0, fun _ => ⟨fun c => absurd c bm, fun _ => ⟨fun c => absurd c n0, fun _ => ⟨fun c => absurd c nk, fun _ => s176 ?_⟩⟩⟩⟩
          rw [h2, code0]
          refine ⟨fun c => absurd c n01, fun _ => ?_⟩
          rw [st0 (show m 284 = m 284 from rfl)]
          simp (disch := omega) only [smg_at, n32_mul, n32_add, Nat.add_zero, xin_t, ix_n32, true_and]
          first | exact ⟨⟨rfl, x1⟩, x2⟩ | exact ⟨⟨trivial, x1⟩, x2⟩ | exact ⟨x1, x2⟩
        · refine w101_0 ⟨fun c => absurd (h1.symm.trans c) n01, fun _ => ⟨fun c => absurd c b0, fun _ => ⟨fun _ => ⟨fun c => absurd c n0, fun _ => ⟨fun c => absurd c nk, fun _ => ⟨fun c => absurd c (n32_ne (by decide) (by decide) (by decide)), fun _ => ⟨fun _ => ?_, fun c => absurd rfl c⟩⟩⟩⟩, fun c => absurd bn c⟩⟩⟩
          refine ⟨xin_n (by omega) (by omega), ?_⟩
          rw [ix_n32 (show b < 2147483648 by omega)]
          rw [r1.lp hb]
          refine w255_0 ⟨fun c => absurd c b0, fun _ => ⟨fun c => absurd c bm, fun _ => ⟨fun c => absurd c n0, fun _ => ⟨fun c => absurd c nk, fun _ => s176 ?_⟩⟩⟩⟩
          rw [h2, code0]
          refine ⟨fun c => absurd c n01, fun _ => ?_⟩
          rw [st0 (show m 284 = m 284 from rfl)]
          simp (disch := omega) only [smg_at, n32_mul, n32_add, Nat.add_zero, xin_t, ix_n32, true_and]
          first | exact ⟨⟨rfl, x1⟩, x2⟩ | exact ⟨⟨trivial, x1⟩, x2⟩ | exact ⟨x1, x2⟩
        · refine w101_0 ⟨fun c => absurd (h1.symm.trans c) n01, fun _ => ⟨fun c => absurd c b0, fun _ => ⟨fun _ => ⟨fun c => absurd c n0, fun _ => ⟨fun c => absurd c nk, fun _ => ⟨fun c => absurd c (n32_ne (by decide) (by decide) (by decide)), fun _ => ⟨fun c => absurd c (n32_ne (by decide) (by decide) (by decide)), fun _ => ?_⟩⟩⟩⟩, fun c => absurd bn c⟩⟩⟩
          refine ⟨xin_n (by omega) (by omega), ?_⟩
          rw [ix_n32 (show b < 2147483648 by omega)]
          rw [r1.lt hb]
          refine w255_0 ⟨fun c => absurd c b0, fun _ => ⟨fun c => absurd c bm, fun _ => ⟨fun c => absurd c n0, fun _ => ⟨fun c => absurd c nk, fun _ => s176 ?_⟩⟩⟩⟩
          rw [h2, code0]
          refine ⟨fun c => absurd c n01, fun _ => ?_⟩
          rw [st0 (show m 284 = m 284 from rfl)]
          simp (disch := omega) only [smg_at, n32_mul, n32_add, Nat.add_zero, xin_t, ix_n32, true_and]
          first | exact ⟨⟨rfl, x1⟩, x2⟩ | exact ⟨⟨trivial, x1⟩, x2⟩ | exact ⟨x1, x2⟩
theorem p_count {v : Int32} {N : Nat} (h : CPL m N) : PRI (D + 12) 96 239 [vR 10 0, vI v] [vR 11 283, vI v] mpSA m N := by
  unfold PRI
  have no : ∀ c, codeOf (m 283 6) (inI v (n32 0) (n32 16)) (n32 1) = c → 1 ≤ c → c ≤ 3 → VI (D + 12) 239 [vR 11 283, vI v] m (fun _ m2 => (m2 283 0 = n32 c ∧ 1 ≤ c ∧ c ≤ 3) ∧ CPL m2 N) (fun _ _ => False) := by
    intro c hc y1 y3
    have cn : ¬ c = 0 := by omega
    unfold inI at hc
    refine w239_0 ⟨fun d1 => s177 ?_, fun d1 => ⟨fun d2 => s177 ?_, fun d2 => s177 ?_⟩⟩
    · rw [if_pos d1] at hc
      rw [hc, if_neg cn]
      exact ⟨fun _ => ⟨⟨um_eq _ _ _ _, y1, y3⟩, CPL_th h⟩, fun c => absurd rfl c⟩
    · rw [if_neg d1, if_pos d2] at hc
      rw [hc, if_neg cn]
      exact ⟨fun _ => ⟨⟨um_eq _ _ _ _, y1, y3⟩, CPL_th h⟩, fun c => absurd rfl c⟩
    · rw [if_neg d1, if_neg d2] at hc
      rw [hc, if_neg cn]
      exact ⟨fun _ => ⟨⟨um_eq _ _ _ _, y1, y3⟩, CPL_th h⟩, fun c => absurd rfl c⟩
  rcases h.ld with ⟨h1, h2⟩ | ⟨h1, h2, r1, r2, r3, T, hT, si⟩
  · exact w96_0 ⟨fun _ => no 1 (by rw [h2, code1]) (by omega) (by omega), fun c => absurd h1 c⟩
  · have w := si.w
    have a2 := w.nb
    have a4 := w.ns
    have a6 := w.np
    rcases rng_cases v 16 (by omega) with ⟨d1, e1⟩ | ⟨d1, d2, e1⟩ | ⟨j, hj, rfl, e1⟩
    · exact w96_0 ⟨fun c => absurd (h1.symm.trans c) n01, fun _ => ⟨fun _ => no 2 (by rw [h2, e1, code2]) (by omega) (by omega), fun c => absurd d1 c⟩⟩
    · exact w96_0 ⟨fun c => absurd (h1.symm.trans c) n01, fun _ => ⟨fun c => absurd c d1, fun _ => ⟨fun _ => no 2 (by rw [h2, e1, code2]) (by omega) (by omega), fun c => absurd d2 c⟩⟩⟩
    · obtain ⟨x1, x2⟩ := fin1 h (show m 284 = m 284 from rfl)
      have n0 : ¬ n32 j < n32 0 := by rw [n32_lt (by omega) (by omega)]; omega
      have nk : ¬ n32 16 < n32 j := by rw [n32_lt (by omega) (by omega)]; omega
      have e6 : m (29 + 3) 0 = n32 (nBr (m 284)) := by rw [r1.nb]; exact w.1.1
      have e8 : m (29 + 16) 0 = n32 (nPl (m 284)) := by rw [r1.np]; exact w.2.2.1.1
      have g6 : smg (um m 283 0 (n32 0)) (m 284) 284 6 = n32 (nBr (m 284)) := by rw [smg_at]; exact w.1.1
      have g7 : smg (um m 283 0 (n32 0)) (m 284) 284 7 = n32 (nSt (m 284)) := by rw [smg_at]; exact w.2.1.1
      have g8 : smg (um m 283 0 (n32 0)) (m 284) 284 8 = n32 (nPl (m 284)) := by rw [smg_at]; exact w.2.2.1.1
      obtain rfl | rfl | rfl | rfl | rfl | rfl | rfl | rfl | rfl | rfl | rfl | rfl | rfl | rfl | rfl | rfl | rfl : j = 0 ∨ j = 1 ∨ j = 2 ∨ j = 3 ∨ j = 4 ∨ j = 5 ∨ j = 6 ∨ j = 7 ∨ j = 8 ∨ j = 9 ∨ j = 10 ∨ j = 11 ∨ j = 12 ∨ j = 13 ∨ j = 14 ∨ j = 15 ∨ j = 16 := by omega
      · refine w96_0 ⟨fun c => absurd (h1.symm.trans c) n01, fun _ => ⟨fun c => absurd c n0, fun _ => ⟨fun c => absurd c nk, fun _ => ⟨fun _ => ?_, fun c => absurd rfl c⟩⟩⟩⟩
        refine w239_0 ⟨fun c => absurd c n0, fun _ => ⟨fun c => absurd c nk, fun _ => s177 ?_⟩⟩
        rw [h2, code0]
        refine ⟨fun c => absurd c n01, fun _ => ⟨fun _ => ?_, fun c => absurd rfl c⟩⟩
        refine ⟨⟨?_, um_eq _ _ _ _⟩, CPL_th h⟩
        rw [um_a (by omega), ix_n32 (by omega)]
        exact r1.nb
      · refine w96_0 ⟨fun c => absurd (h1.symm.trans c) n01, fun _ => ⟨fun c => absurd c n0, fun _ => ⟨fun c => absurd c nk, fun _ => ⟨fun c => absurd c (n32_ne (by decide) (by decide) (by decide)), fun _ => ⟨fun _ => ?_, fun c => absurd rfl c⟩⟩⟩⟩⟩
        refine w239_0 ⟨fun c => absurd c n0, fun _ => ⟨fun c => absurd c nk, fun _ => s177 ?_⟩⟩
        rw [h2, code0]
        refine ⟨fun c => absurd c n01, fun _ => ⟨fun c => absurd c (n32_ne (by decide) (by decide) (by decide)), fun _ => ⟨fun _ => ?_, fun c => absurd rfl c⟩⟩⟩
        refine ⟨⟨?_, um_eq _ _ _ _⟩, CPL_th h⟩
        rw [um_a (by omega), ix_n32 (by omega)]
        exact r3.1
      · refine w96_0 ⟨fun c => absurd (h1.symm.trans c) n01, fun _ => ⟨fun c => absurd c n0, fun _ => ⟨fun c => absurd c nk, fun _ => ⟨fun c => absurd c (n32_ne (by decide) (by decide) (by decide)), fun _ => ⟨fun c => absurd c (n32_ne (by decide) (by decide) (by decide)), fun _ => ⟨fun _ => ?_, fun c => absurd rfl c⟩⟩⟩⟩⟩⟩
        refine w239_0 ⟨fun c => absurd c n0, fun _ => ⟨fun c => absurd c nk, fun _ => s177 ?_⟩⟩
        rw [h2, code0]
        refine ⟨fun c => absurd c n01, fun _ => ⟨fun c => absurd c (n32_ne (by decide) (by decide) (by decide)), fun _ => ⟨fun c => absurd c (n32_ne (by decide) (by decide) (by decide)), fun _ => ⟨fun _ => ?_, fun c => absurd rfl c⟩⟩⟩⟩
        refine ⟨⟨?_, um_eq _ _ _ _⟩, CPL_th h⟩
        rw [um_a (by omega), ix_n32 (by omega)]
        exact r1.np
      · refine w96_0 ⟨fun c => absurd (h1.symm.trans c) n01, fun _ => ⟨fun c => absurd c n0, fun _ => ⟨fun c => absurd c nk, fun _ => ⟨fun c => absurd c (n32_ne (by decide) (by decide) (by decide)), fun _ => ⟨fun c => absurd c (n32_ne (by decide) (by decide) (by decide)), fun _ => ⟨fun c => absurd c (n32_ne (by decide) (by decide) (by decide)), fun _ => ⟨fun _ => ?_, fun c => absurd rfl c⟩⟩⟩⟩⟩⟩⟩
        refine w239_0 ⟨fun c => absurd c n0, fun _ => ⟨fun c => absurd c nk, fun _ => s177 ?_⟩⟩
        rw [h2, code0]
        refine ⟨fun c => absurd c n01, fun _ => ⟨fun c => absurd c (n32_ne (by decide) (by decide) (by decide)), fun _ => ⟨fun c => absurd c (n32_ne (by decide) (by decide) (by decide)), fun _ => ⟨fun c => absurd c (n32_ne (by decide) (by decide) (by decide)), fun _ => ⟨fun _ => ?_, fun c => absurd rfl c⟩⟩⟩⟩⟩
        refine ⟨⟨?_, um_eq _ _ _ _⟩, CPL_th h⟩
        rw [um_a (by omega), ix_n32 (by omega)]
        exact r1.tm
      · refine w96_0 ⟨fun c => absurd (h1.symm.trans c) n01, fun _ => ⟨fun c => absurd c n0, fun _ => ⟨fun c => absurd c nk, fun _ => ⟨fun c => absurd c (n32_ne (by decide) (by decide) (by decide)), fun _ => ⟨fun c => absurd c (n32_ne (by decide) (by decide) (by decide)), fun _ => ⟨fun c => absurd c (n32_ne (by decide) (by decide) (by decide)), fun _ => ⟨fun c => absurd c (n32_ne (by decide) (by decide) (by decide)), fun _ => ⟨fun _ => ?_, fun c => absurd rfl c⟩⟩⟩⟩⟩⟩⟩⟩
        refine s55 (n := nBr (m 284)) e6 a2 ?_
        refine w239_0 ⟨fun c => absurd c n0, fun _ => ⟨fun c => absurd c nk, fun _ => s177 ?_⟩⟩
        rw [h2, code0]
        refine ⟨fun c => absurd c n01, fun _ => ⟨fun c => absurd c (n32_ne (by decide) (by decide) (by decide)), fun _ => ⟨fun c => absurd c (n32_ne (by decide) (by decide) (by decide)), fun _ => ⟨fun c => absurd c (n32_ne (by decide) (by decide) (by decide)), fun _ => ⟨fun c => absurd c (n32_ne (by decide) (by decide) (by decide)), fun _ => ⟨fun _ => ?_, fun c => absurd rfl c⟩⟩⟩⟩⟩⟩
        rw [st0 (show m 284 = m 284 from rfl)]
        refine s230 (n := nBr (m 284)) g6 a2 ?_
        refine ⟨⟨?_, x1⟩, x2⟩
        exact congrArg n32 (cnt_congr fun i hi => by rw [smg_at, r1.ban hi]; exact decide_eq_decide.mpr (not_congr (weak_iff w hi)))
      · refine w96_0 ⟨fun c => absurd (h1.symm.trans c) n01, fun _ => ⟨fun c => absurd c n0, fun _ => ⟨fun c => absurd c nk, fun _ => ⟨fun c => absurd c (n32_ne (by decide) (by decide) (by decide)), fun _ => ⟨fun c => absurd c (n32_ne (by decide) (by decide) (by decide)), fun _ => ⟨fun c => absurd c (n32_ne (by decide) (by decide) (by decide)), fun _ => ⟨fun c => absurd c (n32_ne (by decide) (by decide) (by decide)), fun _ => ⟨fun c => absurd c (n32_ne (by decide) (by decide) (by decide)), fun _ => ⟨fun _ => ?_, fun c => absurd rfl c⟩⟩⟩⟩⟩⟩⟩⟩⟩
        refine w239_0 ⟨fun c => absurd c n0, fun _ => ⟨fun c => absurd c nk, fun _ => s177 ?_⟩⟩
        rw [h2, code0]
        refine ⟨fun c => absurd c n01, fun _ => ⟨fun c => absurd c (n32_ne (by decide) (by decide) (by decide)), fun _ => ⟨fun c => absurd c (n32_ne (by decide) (by decide) (by decide)), fun _ => ⟨fun c => absurd c (n32_ne (by decide) (by decide) (by decide)), fun _ => ⟨fun c => absurd c (n32_ne (by decide) (by decide) (by decide)), fun _ => ⟨fun c => absurd c (n32_ne (by decide) (by decide) (by decide)), fun _ => ⟨fun _ => ?_, fun c => absurd rfl c⟩⟩⟩⟩⟩⟩⟩
        refine ⟨⟨?_, um_eq _ _ _ _⟩, CPL_th h⟩
        rw [um_a (by omega), ix_n32 (by omega)]
        exact r1.nl
      · refine w96_0 ⟨fun c => absurd (h1.symm.trans c) n01, fun _ => ⟨fun c => absurd c n0, fun _ => ⟨fun c => absurd c nk, fun _ => ⟨fun c => absurd c (n32_ne (by decide) (by decide) (by decide)), fun _ => ⟨fun c => absurd c (n32_ne (by decide) (by decide) (by decide)), fun _ => ⟨fun c => absurd c (n32_ne (by decide) (by decide) (by decide)), fun _ => ⟨fun c => absurd c (n32_ne (by decide) (by decide) (by decide)), fun _ => ⟨fun c => absurd c (n32_ne (by decide) (by decide) (by decide)), fun _ => ⟨fun c => absurd c (n32_ne (by decide) (by decide) (by decide)), fun _ => ⟨fun _ => ?_, fun c => absurd rfl c⟩⟩⟩⟩⟩⟩⟩⟩⟩⟩
        refine w239_0 ⟨fun c => absurd c n0, fun _ => ⟨fun c => absurd c nk, fun _ => s177 ?_⟩⟩
        rw [h2, code0]
        refine ⟨fun c => absurd c n01, fun _ => ⟨fun c => absurd c (n32_ne (by decide) (by decide) (by decide)), fun _ => ⟨fun c => absurd c (n32_ne (by decide) (by decide) (by decide)), fun _ => ⟨fun c => absurd c (n32_ne (by decide) (by decide) (by decide)), fun _ => ⟨fun c => absurd c (n32_ne (by decide) (by decide) (by decide)), fun _ => ⟨fun c => absurd c (n32_ne (by decide) (by decide) (by decide)), fun _ => ⟨fun c => absurd c (n32_ne (by decide) (by decide) (by decide)), fun _ => ⟨fun _ => ?_, fun c => absurd rfl c⟩⟩⟩⟩⟩⟩⟩⟩
        refine ⟨⟨?_, um_eq _ _ _ _⟩, CPL_th h⟩
        rw [um_a (by omega), ix_n32 (by omega)]
        exact r1.sw
      · refine w96_0 ⟨fun c => absurd (h1.symm.trans c) n01, fun _ => ⟨fun c => absurd c n0, fun _ => ⟨fun c => absurd c nk, fun _ => ⟨fun c => absurd c (n32_ne (by decide) (by decide) (by decide)), fun _ => ⟨fun c => absurd c (n32_ne (by decide) (by decide) (by decide)), fun _ => ⟨fun c => absurd c (n32_ne (by decide) (by decide) (by decide)), fun _ => ⟨fun c => absurd c (n32_ne (by decide) (by decide) (by decide)), fun _ => ⟨fun c => absurd c (n32_ne (by decide) (by decide) (by decide)), fun _ => ⟨fun c => absurd c (n32_ne (by decide) (by decide) (by decide)), fun _ => ⟨fun c => absurd c (n32_ne (by decide) (by decide) (by decide)), fun _ => ⟨fun _ => ?_, fun c => absurd rfl c⟩⟩⟩⟩⟩⟩⟩⟩⟩⟩⟩
        refine s30 (n := nPl (m 284)) e8 a6 ?_
        refine w239_0 ⟨fun c => absurd c n0, fun _ => ⟨fun c => absurd c nk, fun _ => s177 ?_⟩⟩
        rw [h2, code0]
        refine ⟨fun c => absurd c n01, fun _ => ⟨fun c => absurd c (n32_ne (by decide) (by decide) (by decide)), fun _ => ⟨fun c => absurd c (n32_ne (by decide) (by decide) (by decide)), fun _ => ⟨fun c => absurd c (n32_ne (by decide) (by decide) (by decide)), fun _ => ⟨fun c => absurd c (n32_ne (by decide) (by decide) (by decide)), fun _ => ⟨fun c => absurd c (n32_ne (by decide) (by decide) (by decide)), fun _ => ⟨fun c => absurd c (n32_ne (by decide) (by decide) (by decide)), fun _ => ⟨fun c => absurd c (n32_ne (by decide) (by decide) (by decide)), fun _ => ⟨fun _ => ?_, fun c => absurd rfl c⟩⟩⟩⟩⟩⟩⟩⟩⟩
        refine ⟨⟨?_, um_eq _ _ _ _⟩, CPL_th h⟩
        rw [um_a (by omega), ix_n32 (by omega)]
        exact (congrArg n32 (cnt_congr fun i hi => by rw [r1.po hi])).trans si.2.2.2.1.symm
      · refine w96_0 ⟨fun c => absurd (h1.symm.trans c) n01, fun _ => ⟨fun c => absurd c n0, fun _ => ⟨fun c => absurd c nk, fun _ => ⟨fun c => absurd c (n32_ne (by decide) (by decide) (by decide)), fun _ => ⟨fun c => absurd c (n32_ne (by decide) (by decide) (by decide)), fun _ => ⟨fun c => absurd c (n32_ne (by decide) (by decide) (by decide)), fun _ => ⟨fun c => absurd c (n32_ne (by decide) (by decide) (by decide)), fun _ => ⟨fun c => absurd c (n32_ne (by decide) (by decide) (by decide)), fun _ => ⟨fun c => absurd c (n32_ne (by decide) (by decide) (by decide)), fun _ => ⟨fun c => absurd c (n32_ne (by decide) (by decide) (by decide)), fun _ => ⟨fun c => absurd c (n32_ne (by decide) (by decide) (by decide)), fun _ => ⟨fun _ => ?_, fun c => absurd rfl c⟩⟩⟩⟩⟩⟩⟩⟩⟩⟩⟩⟩
        refine w239_0 ⟨fun c => absurd c n0, fun _ => ⟨fun c => absurd c nk, fun _ => s177 ?_⟩⟩
        rw [h2, code0]
        refine ⟨fun c => absurd c n01, fun _ => ⟨fun c => absurd c (n32_ne (by decide) (by decide) (by decide)), fun _ => ⟨fun c => absurd c (n32_ne (by decide) (by decide) (by decide)), fun _ => ⟨fun c => absurd c (n32_ne (by decide) (by decide) (by decide)), fun _ => ⟨fun c => absurd c (n32_ne (by decide) (by decide) (by decide)), fun _ => ⟨fun c => absurd c (n32_ne (by decide) (by decide) (by decide)), fun _ => ⟨fun c => absurd c (n32_ne (by decide) (by decide) (by decide)), fun _ => ⟨fun c => absurd c (n32_ne (by decide) (by decide) (by decide)), fun _ => ⟨fun c => absurd c (n32_ne (by decide) (by decide) (by decide)), fun _ => ⟨fun _ => ?_, fun c => absurd rfl c⟩⟩⟩⟩⟩⟩⟩⟩⟩⟩
        refine ⟨⟨?_, um_eq _ _ _ _⟩, CPL_th h⟩
        rw [um_a (by omega), ix_n32 (by omega)]
        exact r1.dr
      · refine w96_0 ⟨fun c => absurd (h1.symm.trans c) n01, fun _ => ⟨fun c => absurd c n0, fun _ => ⟨fun c => absurd c nk, fun _ => ⟨fun c => absurd c (n32_ne (by decide) (by decide) (by decide)), fun _ => ⟨fun c => absurd c (n32_ne (by decide) (by decide) (by decide)), fun _ => ⟨fun c => absurd c (n32_ne (by decide) (by decide) (by decide)), fun _ => ⟨fun c => absurd c (n32_ne (by decide) (by decide) (by decide)), fun _ => ⟨fun c => absurd c (n32_ne (by decide) (by decide) (by decide)), fun _ => ⟨fun c => absurd c (n32_ne (by decide) (by decide) (by decide)), fun _ => ⟨fun c => absurd c (n32_ne (by decide) (by decide) (by decide)), fun _ => ⟨fun c => absurd c (n32_ne (by decide) (by decide) (by decide)), fun _ => ⟨fun c => absurd c (n32_ne (by decide) (by decide) (by decide)), fun _ => ⟨fun _ => ?_, fun c => absurd rfl c⟩⟩⟩⟩⟩⟩⟩⟩⟩⟩⟩⟩⟩
        refine w239_0 ⟨fun c => absurd c n0, fun _ => ⟨fun c => absurd c nk, fun _ => s177 ?_⟩⟩
        rw [h2, code0]
        refine ⟨fun c => absurd c n01, fun _ => ⟨fun c => absurd c (n32_ne (by decide) (by decide) (by decide)), fun _ => ⟨fun c => absurd c (n32_ne (by decide) (by decide) (by decide)), fun _ => ⟨fun c => absurd c (n32_ne (by decide) (by decide) (by decide)), fun _ => ⟨fun c => absurd c (n32_ne (by decide) (by decide) (by decide)), fun _ => ⟨fun c => absurd c (n32_ne (by decide) (by decide) (by decide)), fun _ => ⟨fun c => absurd c (n32_ne (by decide) (by decide) (by decide)), fun _ => ⟨fun c => absurd c (n32_ne (by decide) (by decide) (by decide)), fun _ => ⟨fun c => absurd c (n32_ne (by decide) (by decide) (by decide)), fun _ => ⟨fun c => absurd c (n32_ne (by decide) (by decide) (by decide)), fun _ => ⟨fun _ => ?_, fun c => absurd rfl c⟩⟩⟩⟩⟩⟩⟩⟩⟩⟩⟩
        refine ⟨⟨?_, um_eq _ _ _ _⟩, CPL_th h⟩
        rw [um_a (by omega), ix_n32 (by omega)]
        exact r1.pk
      · refine w96_0 ⟨fun c => absurd (h1.symm.trans c) n01, fun _ => ⟨fun c => absurd c n0, fun _ => ⟨fun c => absurd c nk, fun _ => ⟨fun c => absurd c (n32_ne (by decide) (by decide) (by decide)), fun _ => ⟨fun c => absurd c (n32_ne (by decide) (by decide) (by decide)), fun _ => ⟨fun c => absurd c (n32_ne (by decide) (by decide) (by decide)), fun _ => ⟨fun c => absurd c (n32_ne (by decide) (by decide) (by decide)), fun _ => ⟨fun c => absurd c (n32_ne (by decide) (by decide) (by decide)), fun _ => ⟨fun c => absurd c (n32_ne (by decide) (by decide) (by decide)), fun _ => ⟨fun c => absurd c (n32_ne (by decide) (by decide) (by decide)), fun _ => ⟨fun c => absurd c (n32_ne (by decide) (by decide) (by decide)), fun _ => ⟨fun c => absurd c (n32_ne (by decide) (by decide) (by decide)), fun _ => ⟨fun c => absurd c (n32_ne (by decide) (by decide) (by decide)), fun _ => ⟨fun _ => ?_, fun c => absurd rfl c⟩⟩⟩⟩⟩⟩⟩⟩⟩⟩⟩⟩⟩⟩
        refine s166 w r2 r3 ?_
        refine w239_0 ⟨fun c => absurd c n0, fun _ => ⟨fun c => absurd c nk, fun _ => s177 ?_⟩⟩
        rw [h2, code0]
        refine ⟨fun c => absurd c n01, fun _ => ⟨fun c => absurd c (n32_ne (by decide) (by decide) (by decide)), fun _ => ⟨fun c => absurd c (n32_ne (by decide) (by decide) (by decide)), fun _ => ⟨fun c => absurd c (n32_ne (by decide) (by decide) (by decide)), fun _ => ⟨fun c => absurd c (n32_ne (by decide) (by decide) (by decide)), fun _ => ⟨fun c => absurd c (n32_ne (by decide) (by decide) (by decide)), fun _ => ⟨fun c => absurd c (n32_ne (by decide) (by decide) (by decide)), fun _ => ⟨fun c => absurd c (n32_ne (by decide) (by decide) (by decide)), fun _ => ⟨fun c => absurd c (n32_ne (by decide) (by decide) (by decide)), fun _ => ⟨fun c => absurd c (n32_ne (by decide) (by decide) (by decide)), fun _ => ⟨fun c => absurd c (n32_ne (by decide) (by decide) (by decide)), fun _ => ⟨fun _ => ?_, fun c => absurd rfl c⟩⟩⟩⟩⟩⟩⟩⟩⟩⟩⟩⟩
        rw [st0 (show m 284 = m 284 from rfl)]
        refine s232 (n := nSt (m 284)) g7 a4 ?_
        refine ⟨⟨?_, x1⟩, x2⟩
        simp only [smg_at]
        exact (bits_bset (n := nSt (m 284)) (fun s => decide (¬ m 284 (99 + 12 * s + 3) = -(n32 1))) (by omega)).1
      · refine w96_0 ⟨fun c => absurd (h1.symm.trans c) n01, fun _ => ⟨fun c => absurd c n0, fun _ => ⟨fun c => absurd c nk, fun _ => ⟨fun c => absurd c (n32_ne (by decide) (by decide) (by decide)), fun _ => ⟨fun c => absurd c (n32_ne (by decide) (by decide) (by decide)), fun _ => ⟨fun c => absurd c (n32_ne (by decide) (by decide) (by decide)), fun _ => ⟨fun c => absurd c (n32_ne (by decide) (by decide) (by decide)), fun _ => ⟨fun c => absurd c (n32_ne (by decide) (by decide) (by decide)), fun _ => ⟨fun c => absurd c (n32_ne (by decide) (by decide) (by decide)), fun _ => ⟨fun c => absurd c (n32_ne (by decide) (by decide) (by decide)), fun _ => ⟨fun c => absurd c (n32_ne (by decide) (by decide) (by decide)), fun _ => ⟨fun c => absurd c (n32_ne (by decide) (by decide) (by decide)), fun _ => ⟨fun c => absurd c (n32_ne (by decide) (by decide) (by decide)), fun _ => ⟨fun c => absurd c (n32_ne (by decide) (by decide) (by decide)), fun _ => ⟨fun _ => ?_, fun c => absurd rfl c⟩⟩⟩⟩⟩⟩⟩⟩⟩⟩⟩⟩⟩⟩⟩
        refine s30 (n := nPl (m 284)) e8 a6 ?_
        refine w239_0 ⟨fun c => absurd c n0, fun _ => ⟨fun c => absurd c nk, fun _ => s177 ?_⟩⟩
        rw [h2, code0]
        refine ⟨fun c => absurd c n01, fun _ => ⟨fun c => absurd c (n32_ne (by decide) (by decide) (by decide)), fun _ => ⟨fun c => absurd c (n32_ne (by decide) (by decide) (by decide)), fun _ => ⟨fun c => absurd c (n32_ne (by decide) (by decide) (by decide)), fun _ => ⟨fun c => absurd c (n32_ne (by decide) (by decide) (by decide)), fun _ => ⟨fun c => absurd c (n32_ne (by decide) (by decide) (by decide)), fun _ => ⟨fun c => absurd c (n32_ne (by decide) (by decide) (by decide)), fun _ => ⟨fun c => absurd c (n32_ne (by decide) (by decide) (by decide)), fun _ => ⟨fun c => absurd c (n32_ne (by decide) (by decide) (by decide)), fun _ => ⟨fun c => absurd c (n32_ne (by decide) (by decide) (by decide)), fun _ => ⟨fun c => absurd c (n32_ne (by decide) (by decide) (by decide)), fun _ => ⟨fun c => absurd c (n32_ne (by decide) (by decide) (by decide)), fun _ => ⟨fun _ => ?_, fun c => absurd rfl c⟩⟩⟩⟩⟩⟩⟩⟩⟩⟩⟩⟩⟩
        rw [st0 (show m 284 = m 284 from rfl)]
        refine s233 (n := nPl (m 284)) g8 a6 ?_
        refine ⟨⟨?_, x1⟩, x2⟩
        exact congrArg n32 (cnt_congr fun i hi => by rw [smg_at, r1.po hi])
      · refine w96_0 ⟨fun c => absurd (h1.symm.trans c) n01, fun _ => ⟨fun c => absurd c n0, fun _ => ⟨fun c => absurd c nk, fun _ => ⟨fun c => absurd c (n32_ne (by decide) (by decide) (by decide)), fun _ => ⟨fun c => absurd c (n32_ne (by decide) (by decide) (by decide)), fun _ => ⟨fun c => absurd c (n32_ne (by decide) (by decide) (by decide)), fun _ => ⟨fun c => absurd c (n32_ne (by decide) (by decide) (by decide)), fun _ => ⟨fun c => absurd c (n32_ne (by decide) (by decide) (by decide)), fun _ => ⟨fun c => absurd c (n32_ne (by decide) (by decide) (by decide)), fun _ => ⟨fun c => absurd c (n32_ne (by decide) (by decide) (by decide)), fun _ => ⟨fun c => absurd c (n32_ne (by decide) (by decide) (by decide)), fun _ => ⟨fun c => absurd c (n32_ne (by decide) (by decide) (by decide)), fun _ => ⟨fun c => absurd c (n32_ne (by decide) (by decide) (by decide)), fun _ => ⟨fun c => absurd c (n32_ne (by decide) (by decide) (by decide)), fun _ => ⟨fun c => absurd c (n32_ne (by decide) (by decide) (by decide)), fun _ => ⟨fun _ => ?_, fun c => absurd rfl c⟩⟩⟩⟩⟩⟩⟩⟩⟩⟩⟩⟩⟩⟩⟩⟩
        refine s62 (n := nBr (m 284)) e6 a2 ?_
        refine w239_0 ⟨fun c => absurd c n0, fun _ => ⟨fun c => absurd c nk, fun _ => s177 ?_⟩⟩
        rw [h2, code0]
        refine ⟨fun c => absurd c n01, fun _ => ⟨fun c => absurd c (n32_ne (by decide) (by decide) (by decide)), fun _ => ⟨fun c => absurd c (n32_ne (by decide) (by decide) (by decide)), fun _ => ⟨fun c => absurd c (n32_ne (by decide) (by decide) (by decide)), fun _ => ⟨fun c => absurd c (n32_ne (by decide) (by decide) (by decide)), fun _ => ⟨fun c => absurd c (n32_ne (by decide) (by decide) (by decide)), fun _ => ⟨fun c => absurd c (n32_ne (by decide) (by decide) (by decide)), fun _ => ⟨fun c => absurd c (n32_ne (by decide) (by decide) (by decide)), fun _ => ⟨fun c => absurd c (n32_ne (by decide) (by decide) (by decide)), fun _ => ⟨fun c => absurd c (n32_ne (by decide) (by decide) (by decide)), fun _ => ⟨fun c => absurd c (n32_ne (by decide) (by decide) (by decide)), fun _ => ⟨fun c => absurd c (n32_ne (by decide) (by decide) (by decide)), fun _ => ⟨fun c => absurd c (n32_ne (by decide) (by decide) (by decide)), fun _ => ⟨fun _ => ?_, fun c => absurd rfl c⟩⟩⟩⟩⟩⟩⟩⟩⟩⟩⟩⟩⟩⟩
        rw [st0 (show m 284 = m 284 from rfl)]
        refine s234 (n := nBr (m 284)) g6 a2 ?_
        refine ⟨⟨?_, x1⟩, x2⟩
        refine ((bits_bset (n := nBr (m 284)) (fun k => decide (¬ n32 0 < m (29 + 3 + 4) k)) a2).1).trans ?_
        exact congrArg n32 (cnt_congr fun i hi => by rw [smg_at, r1.str hi]; exact decide_eq_decide.mpr (z_iff (w.b4 hi) (by omega)))
      · refine w96_0 ⟨fun c => absurd (h1.symm.trans c) n01, fun _ => ⟨fun c => absurd c n0, fun _ => ⟨fun c => absurd c nk, fun _ => ⟨fun c => absurd c (n32_ne (by decide) (by decide) (by decide)), fun _ => ⟨fun c => absurd c (n32_ne (by decide) (by decide) (by decide)), fun _ => ⟨fun c => absurd c (n32_ne (by decide) (by decide) (by decide)), fun _ => ⟨fun c => absurd c (n32_ne (by decide) (by decide) (by decide)), fun _ => ⟨fun c => absurd c (n32_ne (by decide) (by decide) (by decide)), fun _ => ⟨fun c => absurd c (n32_ne (by decide) (by decide) (by decide)), fun _ => ⟨fun c => absurd c (n32_ne (by decide) (by decide) (by decide)), fun _ => ⟨fun c => absurd c (n32_ne (by decide) (by decide) (by decide)), fun _ => ⟨fun c => absurd c (n32_ne (by decide) (by decide) (by decide)), fun _ => ⟨fun c => absurd c (n32_ne (by decide) (by decide) (by decide)), fun _ => ⟨fun c => absurd c (n32_ne (by decide) (by decide) (by decide)), fun _ => ⟨fun c => absurd c (n32_ne (by decide) (by decide) (by decide)), fun _ => ⟨fun c => absurd c (n32_ne (by decide) (by decide) (by decide)), fun _ => ⟨fun _ => ?_, fun c => absurd rfl c⟩⟩⟩⟩⟩⟩⟩⟩⟩⟩⟩⟩⟩⟩⟩⟩⟩
        refine s57 (n := nBr (m 284)) e6 a2 ?_
        refine w239_0 ⟨fun c => absurd c n0, fun _ => ⟨fun c => absurd c nk, fun _ => s177 ?_⟩⟩
        rw [h2, code0]
        refine ⟨fun c => absurd c n01, fun _ => ⟨fun c => absurd c (n32_ne (by decide) (by decide) (by decide)), fun _ => ⟨fun c => absurd c (n32_ne (by decide) (by decide) (by decide)), fun _ => ⟨fun c => absurd c (n32_ne (by decide) (by decide) (by decide)), fun _ => ⟨fun c => absurd c (n32_ne (by decide) (by decide) (by decide)), fun _ => ⟨fun c => absurd c (n32_ne (by decide) (by decide) (by decide)), fun _ => ⟨fun c => absurd c (n32_ne (by decide) (by decide) (by decide)), fun _ => ⟨fun c => absurd c (n32_ne (by decide) (by decide) (by decide)), fun _ => ⟨fun c => absurd c (n32_ne (by decide) (by decide) (by decide)), fun _ => ⟨fun c => absurd c (n32_ne (by decide) (by decide) (by decide)), fun _ => ⟨fun c => absurd c (n32_ne (by decide) (by decide) (by decide)), fun _ => ⟨fun c => absurd c (n32_ne (by decide) (by decide) (by decide)), fun _ => ⟨fun c => absurd c (n32_ne (by decide) (by decide) (by decide)), fun _ => ⟨fun c => absurd c (n32_ne (by decide) (by decide) (by decide)), fun _ => ⟨fun _ => ?_, fun c => absurd rfl c⟩⟩⟩⟩⟩⟩⟩⟩⟩⟩⟩⟩⟩⟩⟩
        rw [st0 (show m 284 = m 284 from rfl)]
        refine s235 (n := nBr (m 284)) g6 a2 ?_
        refine ⟨⟨?_, x1⟩, x2⟩
        exact congrArg n32 (cnt_congr fun i hi => by simp only [smg_at]; rw [r1.ban hi, r1.own hi])
      · refine w96_0 ⟨fun c => absurd (h1.symm.trans c) n01, fun _ => ⟨fun c => absurd c n0, fun _ => ⟨fun c => absurd c nk, fun _ => ⟨fun c => absurd c (n32_ne (by decide) (by decide) (by decide)), fun _ => ⟨fun c => absurd c (n32_ne (by decide) (by decide) (by decide)), fun _ => ⟨fun c => absurd c (n32_ne (by decide) (by decide) (by decide)), fun _ => ⟨fun c => absurd c (n32_ne (by decide) (by decide) (by decide)), fun _ => ⟨fun c => absurd c (n32_ne (by decide) (by decide) (by decide)), fun _ => ⟨fun c => absurd c (n32_ne (by decide) (by decide) (by decide)), fun _ => ⟨fun c => absurd c (n32_ne (by decide) (by decide) (by decide)), fun _ => ⟨fun c => absurd c (n32_ne (by decide) (by decide) (by decide)), fun _ => ⟨fun c => absurd c (n32_ne (by decide) (by decide) (by decide)), fun _ => ⟨fun c => absurd c (n32_ne (by decide) (by decide) (by decide)), fun _ => ⟨fun c => absurd c (n32_ne (by decide) (by decide) (by decide)), fun _ => ⟨fun c => absurd c (n32_ne (by decide) (by decide) (by decide)), fun _ => ⟨fun c => absurd c (n32_ne (by decide) (by decide) (by decide)), fun _ => ⟨fun c => absurd c (n32_ne (by decide) (by decide) (by decide)), fun _ => ⟨fun _ => ?_, fun c => absurd rfl c⟩⟩⟩⟩⟩⟩⟩⟩⟩⟩⟩⟩⟩⟩⟩⟩⟩⟩
        refine s58 (n := nBr (m 284)) e6 a2 ?_
        refine w239_0 ⟨fun c => absurd c n0, fun _ => ⟨fun c => absurd c nk, fun _ => s177 ?_⟩⟩
        rw [h2, code0]
        refine ⟨fun c => absurd c n01, fun _ => ⟨fun c => absurd c (n32_ne (by decide) (by decide) (by decide)), fun _ => ⟨fun c => absurd c (n32_ne (by decide) (by decide) (by decide)), fun _ => ⟨fun c => absurd c (n32_ne (by decide) (by decide) (by decide)), fun _ => ⟨fun c => absurd c (n32_ne (by decide) (by decide) (by decide)), fun _ => ⟨fun c => absurd c (n32_ne (by decide) (by decide) (by decide)), fun _ => ⟨fun c => absurd c (n32_ne (by decide) (by decide) (by decide)), fun _ => ⟨fun c => absurd c (n32_ne (by decide) (by decide) (by decide)), fun _ => ⟨fun c => absurd c (n32_ne (by decide) (by decide) (by decide)), fun _ => ⟨fun c => absurd c (n32_ne (by decide) (by decide) (by decide)), fun _ => ⟨fun c => absurd c (n32_ne (by decide) (by decide) (by decide)), fun _ => ⟨fun c => absurd c (n32_ne (by decide) (by decide) (by decide)), fun _ => ⟨fun c => absurd c (n32_ne (by decide) (by decide) (by decide)), fun _ => ⟨fun c => absurd c (n32_ne (by decide) (by decide) (by decide)), fun _ => ⟨fun c => absurd c (n32_ne (by decide) (by decide) (by decide)), fun _ => ⟨fun _ => ?_, fun c => absurd rfl c⟩⟩⟩⟩⟩⟩⟩⟩⟩⟩⟩⟩⟩⟩⟩⟩
        rw [st0 (show m 284 = m 284 from rfl)]
        refine s236 w ?_
        refine ⟨⟨?_, x1⟩, x2⟩
        refine congrArg n32 (cnt_congr fun i hi => ?_)
        rcases Nat.eq_zero_or_pos i with rfl | h0
        · rfl
        · rw [ix_n32 (by omega), r1.se (k := 0) (by omega), r1.pla (b := i) hi, r1.pla (b := i - 1) (by omega)]
      · refine w96_0 ⟨fun c => absurd (h1.symm.trans c) n01, fun _ => ⟨fun c => absurd c n0, fun _ => ⟨fun c => absurd c nk, fun _ => ⟨fun c => absurd c (n32_ne (by decide) (by decide) (by decide)), fun _ => ⟨fun c => absurd c (n32_ne (by decide) (by decide) (by decide)), fun _ => ⟨fun c => absurd c (n32_ne (by decide) (by decide) (by decide)), fun _ => ⟨fun c => absurd c (n32_ne (by decide) (by decide) (by decide)), fun _ => ⟨fun c => absurd c (n32_ne (by decide) (by decide) (by decide)), fun _ => ⟨fun c => absurd c (n32_ne (by decide) (by decide) (by decide)), fun _ => ⟨fun c => absurd c (n32_ne (by decide) (by decide) (by decide)), fun _ => ⟨fun c => absurd c (n32_ne (by decide) (by decide) (by decide)), fun _ => ⟨fun c => absurd c (n32_ne (by decide) (by decide) (by decide)), fun _ => ⟨fun c => absurd c (n32_ne (by decide) (by decide) (by decide)), fun _ => ⟨fun c => absurd c (n32_ne (by decide) (by decide) (by decide)), fun _ => ⟨fun c => absurd c (n32_ne (by decide) (by decide) (by decide)), fun _ => ⟨fun c => absurd c (n32_ne (by decide) (by decide) (by decide)), fun _ => ⟨fun c => absurd c (n32_ne (by decide) (by decide) (by decide)), fun _ => ⟨fun c => absurd c (n32_ne (by decide) (by decide) (by decide)), fun _ => ⟨fun _ => ?_, fun c => absurd rfl c⟩⟩⟩⟩⟩⟩⟩⟩⟩⟩⟩⟩⟩⟩⟩⟩⟩⟩⟩
        refine s59 w r1 ?_
        refine w239_0 ⟨fun c => absurd c n0, fun _ => ⟨fun c => absurd c nk, fun _ => s177 ?_⟩⟩
        rw [h2, code0]
        refine ⟨fun c => absurd c n01, fun _ => ⟨fun c => absurd c (n32_ne (by decide) (by decide) (by decide)), fun _ => ⟨fun c => absurd c (n32_ne (by decide) (by decide) (by decide)), fun _ => ⟨fun c => absurd c (n32_ne (by decide) (by decide) (by decide)), fun _ => ⟨fun c => absurd c (n32_ne (by decide) (by decide) (by decide)), fun _ => ⟨fun c => absurd c (n32_ne (by decide) (by decide) (by decide)), fun _ => ⟨fun c => absurd c (n32_ne (by decide) (by decide) (by decide)), fun _ => ⟨fun c => absurd c (n32_ne (by decide) (by decide) (by decide)), fun _ => ⟨fun c => absurd c (n32_ne (by decide) (by decide) (by decide)), fun _ => ⟨fun c => absurd c (n32_ne (by decide) (by decide) (by decide)), fun _ => ⟨fun c => absurd c (n32_ne (by decide) (by decide) (by decide)), fun _ => ⟨fun c => absurd c (n32_ne (by decide) (by decide) (by decide)), fun _ => ⟨fun c => absurd c (n32_ne (by decide) (by decide) (by decide)), fun _ => ⟨fun c => absurd c (n32_ne (by decide) (by decide) (by decide)), fun _ => ⟨fun c => absurd c (n32_ne (by decide) (by decide) (by decide)), fun _ => ⟨fun c => absurd c (n32_ne (by decide) (by decide) (by decide)), fun _ => ⟨fun _ => ?_, fun c => absurd rfl c⟩⟩⟩⟩⟩⟩⟩⟩⟩⟩⟩⟩⟩⟩⟩⟩⟩
        rw [st0 (show m 284 = m 284 from rfl)]
        refine s237 w ?_
        exact ⟨⟨rfl, x1⟩, x2⟩
      · refine w96_0 ⟨fun c => absurd (h1.symm.trans c) n01, fun _ => ⟨fun c => absurd c n0, fun _ => ⟨fun c => absurd c nk, fun _ => ⟨fun c => absurd c (n32_ne (by decide) (by decide) (by decide)), fun _ => ⟨fun c => absurd c (n32_ne (by decide) (by decide) (by decide)), fun _ => ⟨fun c => absurd c (n32_ne (by decide) (by decide) (by decide)), fun _ => ⟨fun c => absurd c (n32_ne (by decide) (by decide) (by decide)), fun _ => ⟨fun c => absurd c (n32_ne (by decide) (by decide) (by decide)), fun _ => ⟨fun c => absurd c (n32_ne (by decide) (by decide) (by decide)), fun _ => ⟨fun c => absurd c (n32_ne (by decide) (by decide) (by decide)), fun _ => ⟨fun c => absurd c (n32_ne (by decide) (by decide) (by decide)), fun _ => ⟨fun c => absurd c (n32_ne (by decide) (by decide) (by decide)), fun _ => ⟨fun c => absurd c (n32_ne (by decide) (by decide) (by decide)), fun _ => ⟨fun c => absurd c (n32_ne (by decide) (by decide) (by decide)), fun _ => ⟨fun c => absurd c (n32_ne (by decide) (by decide) (by decide)), fun _ => ⟨fun c => absurd c (n32_ne (by decide) (by decide) (by decide)), fun _ => ⟨fun c => absurd c (n32_ne (by decide) (by decide) (by decide)), fun _ => ⟨fun c => absurd c (n32_ne (by decide) (by decide) (by decide)), fun _ => ⟨fun c => absurd c (n32_ne (by decide) (by decide) (by decide)), fun _ => ?_⟩⟩⟩⟩⟩⟩⟩⟩⟩⟩⟩⟩⟩⟩⟩⟩⟩⟩⟩
        refine s167 w r1 r3 ?_
        refine w239_0 ⟨fun c => absurd c n0, fun _ => ⟨fun c => absurd c nk, fun _ => s177 ?_⟩⟩
        rw [h2, code0]
        refine ⟨fun c => absurd c n01, fun _ => ⟨fun c => absurd c (n32_ne (by decide) (by decide) (by decide)), fun _ => ⟨fun c => absurd c (n32_ne (by decide) (by decide) (by decide)), fun _ => ⟨fun c => absurd c (n32_ne (by decide) (by decide) (by decide)), fun _ => ⟨fun c => absurd c (n32_ne (by decide) (by decide) (by decide)), fun _ => ⟨fun c => absurd c (n32_ne (by decide) (by decide) (by decide)), fun _ => ⟨fun c => absurd c (n32_ne (by decide) (by decide) (by decide)), fun _ => ⟨fun c => absurd c (n32_ne (by decide) (by decide) (by decide)), fun _ => ⟨fun c => absurd c (n32_ne (by decide) (by decide) (by decide)), fun _ => ⟨fun c => absurd c (n32_ne (by decide) (by decide) (by decide)), fun _ => ⟨fun c => absurd c (n32_ne (by decide) (by decide) (by decide)), fun _ => ⟨fun c => absurd c (n32_ne (by decide) (by decide) (by decide)), fun _ => ⟨fun c => absurd c (n32_ne (by decide) (by decide) (by decide)), fun _ => ⟨fun c => absurd c (n32_ne (by decide) (by decide) (by decide)), fun _ => ⟨fun c => absurd c (n32_ne (by decide) (by decide) (by decide)), fun _ => ⟨fun c => absurd c (n32_ne (by decide) (by decide) (by decide)), fun _ => ⟨fun c => absurd c (n32_ne (by decide) (by decide) (by decide)), fun _ => ?_⟩⟩⟩⟩⟩⟩⟩⟩⟩⟩⟩⟩⟩⟩⟩⟩⟩
        rw [st0 (show m 284 = m 284 from rfl)]
        refine s238 w ?_
        exact ⟨⟨rfl, x1⟩, x2⟩
end S85
/-! Pairs: bearer, stand (written by program). -/
section S86
variable {D : Nat} {m : XM} {g : PG} {E : Nat → XM → Prop}
theorem p_bearer {v1 v2 : Int32} {N : Nat} (h : CPL m N) : PRI (D + 12) 98 246 [vR 10 0, vI v1, vI v2] [vR 11 283, vI v1, vI v2] mpSPA m N := by
  unfold PRI
  have no : ∀ c, codeOf (m 283 6) (inI v1 (n32 0) (m 284 6 - n32 1)) (inI v2 (n32 0) (n32 12)) = c → 1 ≤ c → c ≤ 3 → VI (D + 12) 246 [vR 11 283, vI v1, vI v2] m (fun _ m2 => (m2 283 0 = n32 c ∧ 1 ≤ c ∧ c ≤ 3) ∧ CPL m2 N) (fun _ _ => False) := by
    intro c hc y1 y3
    have cn : ¬ c = 0 := by omega
    unfold inI at hc
    refine w246_0 ⟨fun d2 => s243 xrt2_0 ?_, fun d2 => ⟨fun d3 => s243 xrt2_0 ?_, fun d3 => s243 xrt2_1 ?_⟩⟩
    · rw [if_pos d2] at hc
    unfold inI
    rw [hc, if_neg cn]
      exact ⟨fun _ => ⟨⟨um_eq _ _ _ _, y1, y3⟩, CPL_th h⟩, fun c => absurd rfl c⟩
    · rw [if_neg d2, if_pos d3] at hc
      unfold inI
      rw [hc, if_neg cn]
      exact ⟨fun _ => ⟨⟨um_eq _ _ _ _, y1, y3⟩, CPL_th h⟩, fun c => absurd rfl c⟩
    · rw [if_neg d2, if_neg d3] at hc
      unfold inI
      rw [hc, if_neg cn]
      exact ⟨fun _ => ⟨⟨um_eq _ _ _ _, y1, y3⟩, CPL_th h⟩, fun c => absurd rfl c⟩
  rcases bearer_cases h v1 with ⟨h1, h2⟩ | ⟨h1, h2, h3, h4⟩ | ⟨h1, h2, hS, b, hb, rfl, h69, h4⟩
  · exact w98_0 ⟨fun _ => no 1 (by rw [h2, code1]) (by omega) (by omega), fun c => absurd h1 c⟩
  · have rb := no 2 (by rw [h2, h4, code2]) (by omega) (by omega)
    refine w98_0 ⟨fun c => absurd (h1.symm.trans c) n01, fun _ => ⟨fun _ => rb, fun d1 => ⟨fun d2 => ?_, fun _ => rb⟩⟩⟩
    rcases h3 with h3 | h3
    · exact absurd h3 d1
    · exact absurd d2 h3
  · obtain ⟨r1, r2, r3, T, hT, si⟩ := hS
    have w := si.w
    have a2 := w.nb
    have a4 := w.ns
    have a9 := w.nl
    have e6 : m (29 + 3) 0 = n32 (nBr (m 284)) := by rw [r1.nb]; exact w.1.1
    have b0 : ¬ n32 b < n32 0 := by rw [n32_lt (by omega) (by omega)]; omega
    have bn : n32 b < m (29 + 3) 0 := by rw [h69, n32_lt (by omega) (by omega)]; omega
    have e8 : m 284 6 = n32 (nBr (m 284)) := w.1.1
    have bm : ¬ m 284 (ix (n32 6)) - n32 1 < n32 b := by rw [ix_n32 (by omega), e8, n32_sub (by omega), n32_lt (by omega) (by omega)]; omega
    rcases rng_cases v2 12 (by omega) with ⟨d1, e1⟩ | ⟨d1, d2, e1⟩ | ⟨j, hj, rfl, e1⟩
    · exact w98_0 ⟨fun c => absurd (h1.symm.trans c) n01, fun _ => ⟨fun c => absurd c b0, fun _ => ⟨fun _ => ⟨fun _ => no 3 (by rw [h2, h4, e1, code3]) (by omega) (by omega), fun c => absurd d1 c⟩, fun c => absurd bn c⟩⟩⟩
    · exact w98_0 ⟨fun c => absurd (h1.symm.trans c) n01, fun _ => ⟨fun c => absurd c b0, fun _ => ⟨fun _ => ⟨fun c => absurd c d1, fun _ => ⟨fun _ => no 3 (by rw [h2, h4, e1, code3]) (by omega) (by omega), fun c => absurd d2 c⟩⟩, fun c => absurd bn c⟩⟩⟩
    · obtain ⟨x1, x2⟩ := fin1 h (show m 284 = m 284 from rfl)
      have n0 : ¬ n32 j < n32 0 := by rw [n32_lt (by omega) (by omega)]; omega
      have nk : ¬ n32 12 < n32 j := by rw [n32_lt (by omega) (by omega)]; omega
      obtain rfl | rfl | rfl | rfl | rfl | rfl | rfl | rfl | rfl | rfl | rfl | rfl | rfl : j = 0 ∨ j = 1 ∨ j = 2 ∨ j = 3 ∨ j = 4 ∨ j = 5 ∨ j = 6 ∨ j = 7 ∨ j = 8 ∨ j = 9 ∨ j = 10 ∨ j = 11 ∨ j = 12 := by omega
      · refine w98_0 ⟨fun c => absurd (h1.symm.trans c) n01, fun _ => ⟨fun c => absurd c b0, fun _ => ⟨fun _ => ⟨fun c => absurd c n0, fun _ => ⟨fun c => absurd c nk, fun _ => ⟨fun _ => ?_, fun c => absurd rfl c⟩⟩⟩, fun c => absurd bn c⟩⟩⟩
        refine ⟨xin_n (by omega) (by omega), ?_⟩
        rw [ix_n32 (show b < 2147483648 by omega), r1.ban hb]
        refine w246_0 ⟨fun c => absurd c n0, fun _ => ⟨fun c => absurd c nk, fun _ => s243 xrt2_1 ?_⟩⟩
        rw [h2, h4, code0]
        refine ⟨fun c => absurd c n01, fun _ => ⟨fun c => absurd c (n32_ne (by decide) (by decide) (by decide)), fun _ => ⟨fun c => absurd c (n32_ne (by decide) (by decide) (by decide)), fun _ => ⟨fun c => absurd c (n32_ne (by decide) (by decide) (by decide)), fun _ => ⟨fun c => absurd c (n32_ne (by decide) (by decide) (by decide)), fun _ => ⟨fun c => absurd c (n32_ne (by decide) (by decide) (by decide)), fun _ => ⟨fun c => absurd c (n32_ne (by decide) (by decide) (by decide)), fun _ => ⟨fun c => absurd c (n32_ne (by decide) (by decide) (by decide)), fun _ => ⟨fun c => absurd c (n32_ne (by decide) (by decide) (by decide)), fun _ => ?_⟩⟩⟩⟩⟩⟩⟩⟩⟩
        rw [st0 (show m 284 = m 284 from rfl)]
        simp (disch := omega) only [smg_at, n32_mul, n32_add, Nat.add_zero, xin_t, ix_n32, true_and]
        first | exact ⟨⟨rfl, x1⟩, x2⟩ | exact ⟨⟨trivial, x1⟩, x2⟩ | exact ⟨x1, x2⟩
      · refine w98_0 ⟨fun c => absurd (h1.symm.trans c) n01, fun _ => ⟨fun c => absurd c b0, fun _ => ⟨fun _ => ⟨fun c => absurd c n0, fun _ => ⟨fun c => absurd c nk, fun _ => ⟨fun c => absurd c (n32_ne (by decide) (by decide) (by decide)), fun _ => ⟨fun _ => ?_, fun c => absurd rfl c⟩⟩⟩⟩, fun c => absurd bn c⟩⟩⟩
        refine ⟨xin_n (by omega) (by omega), ?_⟩
        rw [ix_n32 (show b < 2147483648 by omega), r1.pla hb]
        refine w246_0 ⟨fun c => absurd c n0, fun _ => ⟨fun c => absurd c nk, fun _ => s243 xrt2_1 ?_⟩⟩
        rw [h2, h4, code0]
        refine ⟨fun c => absurd c n01, fun _ => ⟨fun c => absurd c (n32_ne (by decide) (by decide) (by decide)), fun _ => ⟨fun c => absurd c (n32_ne (by decide) (by decide) (by decide)), fun _ => ⟨fun c => absurd c (n32_ne (by decide) (by decide) (by decide)), fun _ => ⟨fun c => absurd c (n32_ne (by decide) (by decide) (by decide)), fun _ => ⟨fun c => absurd c (n32_ne (by decide) (by decide) (by decide)), fun _ => ⟨fun c => absurd c (n32_ne (by decide) (by decide) (by decide)), fun _ => ⟨fun c => absurd c (n32_ne (by decide) (by decide) (by decide)), fun _ => ⟨fun c => absurd c (n32_ne (by decide) (by decide) (by decide)), fun _ => ?_⟩⟩⟩⟩⟩⟩⟩⟩⟩
        rw [st0 (show m 284 = m 284 from rfl)]
        simp (disch := omega) only [smg_at, n32_mul, n32_add, Nat.add_zero, xin_t, ix_n32, true_and]
        first | exact ⟨⟨rfl, x1⟩, x2⟩ | exact ⟨⟨trivial, x1⟩, x2⟩ | exact ⟨x1, x2⟩
      · refine w98_0 ⟨fun c => absurd (h1.symm.trans c) n01, fun _ => ⟨fun c => absurd c b0, fun _ => ⟨fun _ => ⟨fun c => absurd c n0, fun _ => ⟨fun c => absurd c nk, fun _ => ⟨fun c => absurd c (n32_ne (by decide) (by decide) (by decide)), fun _ => ⟨fun c => absurd c (n32_ne (by decide) (by decide) (by decide)), fun _ => ⟨fun _ => ?_, fun c => absurd rfl c⟩⟩⟩⟩⟩, fun c => absurd bn c⟩⟩⟩
        refine ⟨xin_n (by omega) (by omega), ?_⟩
        rw [ix_n32 (show b < 2147483648 by omega), r1.step hb]
        refine w246_0 ⟨fun c => absurd c n0, fun _ => ⟨fun c => absurd c nk, fun _ => s243 xrt2_1 ?_⟩⟩
        rw [h2, h4, code0]
        refine ⟨fun c => absurd c n01, fun _ => ⟨fun c => absurd c (n32_ne (by decide) (by decide) (by decide)), fun _ => ⟨fun c => absurd c (n32_ne (by decide) (by decide) (by decide)), fun _ => ⟨fun c => absurd c (n32_ne (by decide) (by decide) (by decide)), fun _ => ⟨fun c => absurd c (n32_ne (by decide) (by decide) (by decide)), fun _ => ⟨fun c => absurd c (n32_ne (by decide) (by decide) (by decide)), fun _ => ⟨fun c => absurd c (n32_ne (by decide) (by decide) (by decide)), fun _ => ⟨fun c => absurd c (n32_ne (by decide) (by decide) (by decide)), fun _ => ⟨fun c => absurd c (n32_ne (by decide) (by decide) (by decide)), fun _ => ?_⟩⟩⟩⟩⟩⟩⟩⟩⟩
        rw [st0 (show m 284 = m 284 from rfl)]
        simp (disch := omega) only [smg_at, n32_mul, n32_add, Nat.add_zero, xin_t, ix_n32, true_and]
        first | exact ⟨⟨rfl, x1⟩, x2⟩ | exact ⟨⟨trivial, x1⟩, x2⟩ | exact ⟨x1, x2⟩
      · refine w98_0 ⟨fun c => absurd (h1.symm.trans c) n01, fun _ => ⟨fun c => absurd c b0, fun _ => ⟨fun _ => ⟨fun c => absurd c n0, fun _ => ⟨fun c => absurd c nk, fun _ => ⟨fun c => absurd c (n32_ne (by decide) (by decide) (by decide)), fun _ => ⟨fun c => absurd c (n32_ne (by decide) (by decide) (by decide)), fun _ => ⟨fun c => absurd c (n32_ne (by decide) (by decide) (by decide)), fun _ => ⟨fun _ => ?_, fun c => absurd rfl c⟩⟩⟩⟩⟩⟩, fun c => absurd bn c⟩⟩⟩
        refine ⟨xin_n (by omega) (by omega), ?_⟩
        rw [ix_n32 (show b < 2147483648 by omega), r1.lag hb]
        refine w246_0 ⟨fun c => absurd c n0, fun _ => ⟨fun c => absurd c nk, fun _ => s243 xrt2_1 ?_⟩⟩
        rw [h2, h4, code0]
        refine ⟨fun c => absurd c n01, fun _ => ⟨fun c => absurd c (n32_ne (by decide) (by decide) (by decide)), fun _ => ⟨fun c => absurd c (n32_ne (by decide) (by decide) (by decide)), fun _ => ⟨fun c => absurd c (n32_ne (by decide) (by decide) (by decide)), fun _ => ⟨fun c => absurd c (n32_ne (by decide) (by decide) (by decide)), fun _ => ⟨fun c => absurd c (n32_ne (by decide) (by decide) (by decide)), fun _ => ⟨fun c => absurd c (n32_ne (by decide) (by decide) (by decide)), fun _ => ⟨fun c => absurd c (n32_ne (by decide) (by decide) (by decide)), fun _ => ⟨fun c => absurd c (n32_ne (by decide) (by decide) (by decide)), fun _ => ?_⟩⟩⟩⟩⟩⟩⟩⟩⟩
        rw [st0 (show m 284 = m 284 from rfl)]
        simp (disch := omega) only [smg_at, n32_mul, n32_add, Nat.add_zero, xin_t, ix_n32, true_and]
        first | exact ⟨⟨rfl, x1⟩, x2⟩ | exact ⟨⟨trivial, x1⟩, x2⟩ | exact ⟨x1, x2⟩
      · refine w98_0 ⟨fun c => absurd (h1.symm.trans c) n01, fun _ => ⟨fun c => absurd c b0, fun _ => ⟨fun _ => ⟨fun c => absurd c n0, fun _ => ⟨fun c => absurd c nk, fun _ => ⟨fun c => absurd c (n32_ne (by decide) (by decide) (by decide)), fun _ => ⟨fun c => absurd c (n32_ne (by decide) (by decide) (by decide)), fun _ => ⟨fun c => absurd c (n32_ne (by decide) (by decide) (by decide)), fun _ => ⟨fun c => absurd c (n32_ne (by decide) (by decide) (by decide)), fun _ => ⟨fun _ => ?_, fun c => absurd rfl c⟩⟩⟩⟩⟩⟩⟩, fun c => absurd bn c⟩⟩⟩
        refine ⟨xin_n (by omega) (by omega), ?_⟩
        rw [ix_n32 (show b < 2147483648 by omega), r1.str hb]
        refine w246_0 ⟨fun c => absurd c n0, fun _ => ⟨fun c => absurd c nk, fun _ => s243 xrt2_1 ?_⟩⟩
        rw [h2, h4, code0]
        refine ⟨fun c => absurd c n01, fun _ => ⟨fun c => absurd c (n32_ne (by decide) (by decide) (by decide)), fun _ => ⟨fun c => absurd c (n32_ne (by decide) (by decide) (by decide)), fun _ => ⟨fun c => absurd c (n32_ne (by decide) (by decide) (by decide)), fun _ => ⟨fun c => absurd c (n32_ne (by decide) (by decide) (by decide)), fun _ => ⟨fun c => absurd c (n32_ne (by decide) (by decide) (by decide)), fun _ => ⟨fun c => absurd c (n32_ne (by decide) (by decide) (by decide)), fun _ => ⟨fun c => absurd c (n32_ne (by decide) (by decide) (by decide)), fun _ => ⟨fun c => absurd c (n32_ne (by decide) (by decide) (by decide)), fun _ => ?_⟩⟩⟩⟩⟩⟩⟩⟩⟩
        rw [st0 (show m 284 = m 284 from rfl)]
        simp (disch := omega) only [smg_at, n32_mul, n32_add, Nat.add_zero, xin_t, ix_n32, true_and]
        first | exact ⟨⟨rfl, x1⟩, x2⟩ | exact ⟨⟨trivial, x1⟩, x2⟩ | exact ⟨x1, x2⟩
      · refine w98_0 ⟨fun c => absurd (h1.symm.trans c) n01, fun _ => ⟨fun c => absurd c b0, fun _ => ⟨fun _ => ⟨fun c => absurd c n0, fun _ => ⟨fun c => absurd c nk, fun _ => ⟨fun c => absurd c (n32_ne (by decide) (by decide) (by decide)), fun _ => ⟨fun c => absurd c (n32_ne (by decide) (by decide) (by decide)), fun _ => ⟨fun c => absurd c (n32_ne (by decide) (by decide) (by decide)), fun _ => ⟨fun c => absurd c (n32_ne (by decide) (by decide) (by decide)), fun _ => ⟨fun c => absurd c (n32_ne (by decide) (by decide) (by decide)), fun _ => ⟨fun _ => ?_, fun c => absurd rfl c⟩⟩⟩⟩⟩⟩⟩⟩, fun c => absurd bn c⟩⟩⟩
        refine s50 (by omega) (r1.step hb) (r1.str hb) (w.st_b hb) (w.b4 hb) ?_
        refine w246_0 ⟨fun c => absurd c n0, fun _ => ⟨fun c => absurd c nk, fun _ => s243 xrt2_1 ?_⟩⟩
        rw [h2, h4, code0]
        refine ⟨fun c => absurd c n01, fun _ => ⟨fun _ => ?_, fun c => absurd rfl c⟩⟩
        rw [st0 (show m 284 = m 284 from rfl)]
        refine s210 w hb ?_
        first | exact ⟨⟨rfl, x1⟩, x2⟩ | exact ⟨⟨trivial, x1⟩, x2⟩ | exact ⟨x1, x2⟩
      · refine w98_0 ⟨fun c => absurd (h1.symm.trans c) n01, fun _ => ⟨fun c => absurd c b0, fun _ => ⟨fun _ => ⟨fun c => absurd c n0, fun _ => ⟨fun c => absurd c nk, fun _ => ⟨fun c => absurd c (n32_ne (by decide) (by decide) (by decide)), fun _ => ⟨fun c => absurd c (n32_ne (by decide) (by decide) (by decide)), fun _ => ⟨fun c => absurd c (n32_ne (by decide) (by decide) (by decide)), fun _ => ⟨fun c => absurd c (n32_ne (by decide) (by decide) (by decide)), fun _ => ⟨fun c => absurd c (n32_ne (by decide) (by decide) (by decide)), fun _ => ⟨fun c => absurd c (n32_ne (by decide) (by decide) (by decide)), fun _ => ⟨fun _ => ?_, fun c => absurd rfl c⟩⟩⟩⟩⟩⟩⟩⟩⟩, fun c => absurd bn c⟩⟩⟩
        by_cases hz : b = 0
        · subst hz
          refine ⟨fun _ => ?_, fun c => absurd (n32_rfl _) c⟩
          refine w246_0 ⟨fun c => absurd c n0, fun _ => ⟨fun c => absurd c nk, fun _ => s243 xrt2_1 ?_⟩⟩
          rw [h2, h4, code0]
          refine ⟨fun c => absurd c n01, fun _ => ⟨fun c => absurd c (n32_ne (by decide) (by decide) (by decide)), fun _ => ⟨fun _ => ?_, fun c => absurd rfl c⟩⟩⟩
          rw [st0 (show m 284 = m 284 from rfl)]
          refine ⟨fun _ => ?_, fun c => absurd rfl c⟩
          first | exact ⟨⟨rfl, x1⟩, x2⟩ | exact ⟨⟨trivial, x1⟩, x2⟩ | exact ⟨x1, x2⟩
        · refine ⟨fun c => absurd ((n32_le (by omega) (by omega)).mp c) (by omega), fun _ => ?_⟩
          rw [n32_sub (by omega), ix_n32 (show b < 2147483648 by omega), ix_n32 (show b - 1 < 2147483648 by omega), r1.pla hb, r1.pla (b := b - 1) (by omega)]
          refine ⟨xin_n (by omega) (by omega), xin_n (by omega) (by omega), ?_⟩
          refine w246_0 ⟨fun c => absurd c n0, fun _ => ⟨fun c => absurd c nk, fun _ => s243 xrt2_1 ?_⟩⟩
          rw [h2, h4, code0]
          refine ⟨fun c => absurd c n01, fun _ => ⟨fun c => absurd c (n32_ne (by decide) (by decide) (by decide)), fun _ => ⟨fun _ => ?_, fun c => absurd rfl c⟩⟩⟩
          rw [st0 (show m 284 = m 284 from rfl)]
          refine ⟨fun c => absurd (n32_inj (by omega) (by omega) c) hz, fun _ => ?_⟩
          simp (disch := omega) only [smg_at, n32_sub, n32_mul, n32_add, Nat.add_zero, xin_t, ix_n32, true_and]
          first | exact ⟨⟨rfl, x1⟩, x2⟩ | exact ⟨⟨trivial, x1⟩, x2⟩ | exact ⟨x1, x2⟩
      · refine w98_0 ⟨fun c => absurd (h1.symm.trans c) n01, fun _ => ⟨fun c => absurd c b0, fun _ => ⟨fun _ => ⟨fun c => absurd c n0, fun _ => ⟨fun c => absurd c nk, fun _ => ⟨fun c => absurd c (n32_ne (by decide) (by decide) (by decide)), fun _ => ⟨fun c => absurd c (n32_ne (by decide) (by decide) (by decide)), fun _ => ⟨fun c => absurd c (n32_ne (by decide) (by decide) (by decide)), fun _ => ⟨fun c => absurd c (n32_ne (by decide) (by decide) (by decide)), fun _ => ⟨fun c => absurd c (n32_ne (by decide) (by decide) (by decide)), fun _ => ⟨fun c => absurd c (n32_ne (by decide) (by decide) (by decide)), fun _ => ⟨fun c => absurd c (n32_ne (by decide) (by decide) (by decide)), fun _ => ⟨fun _ => ?_, fun c => absurd rfl c⟩⟩⟩⟩⟩⟩⟩⟩⟩⟩, fun c => absurd bn c⟩⟩⟩
        refine ⟨xin_n (by omega) (by omega), ?_⟩
        rw [ix_n32 (show b < 2147483648 by omega), r1.mov hb]
        refine w246_0 ⟨fun c => absurd c n0, fun _ => ⟨fun c => absurd c nk, fun _ => s243 xrt2_1 ?_⟩⟩
        rw [h2, h4, code0]
        refine ⟨fun c => absurd c n01, fun _ => ⟨fun c => absurd c (n32_ne (by decide) (by decide) (by decide)), fun _ => ⟨fun c => absurd c (n32_ne (by decide) (by decide) (by decide)), fun _ => ⟨fun _ => ?_, fun c => absurd rfl c⟩⟩⟩⟩
        rw [st0 (show m 284 = m 284 from rfl)]
        simp (disch := omega) only [smg_at, n32_mul, n32_add, Nat.add_zero, xin_t, ix_n32, true_and]
        first | exact ⟨⟨rfl, x1⟩, x2⟩ | exact ⟨⟨trivial, x1⟩, x2⟩ | exact ⟨x1, x2⟩
      · refine w98_0 ⟨fun c => absurd (h1.symm.trans c) n01, fun _ => ⟨fun c => absurd c b0, fun _ => ⟨fun _ => ⟨fun c => absurd c n0, fun _ => ⟨fun c => absurd c nk, fun _ => ⟨fun c => absurd c (n32_ne (by decide) (by decide) (by decide)), fun _ => ⟨fun c => absurd c (n32_ne (by decide) (by decide) (by decide)), fun _ => ⟨fun c => absurd c (n32_ne (by decide) (by decide) (by decide)), fun _ => ⟨fun c => absurd c (n32_ne (by decide) (by decide) (by decide)), fun _ => ⟨fun c => absurd c (n32_ne (by decide) (by decide) (by decide)), fun _ => ⟨fun c => absurd c (n32_ne (by decide) (by decide) (by decide)), fun _ => ⟨fun c => absurd c (n32_ne (by decide) (by decide) (by decide)), fun _ => ⟨fun c => absurd c (n32_ne (by decide) (by decide) (by decide)), fun _ => ⟨fun _ => ?_, fun c => absurd rfl c⟩⟩⟩⟩⟩⟩⟩⟩⟩⟩⟩, fun c => absurd bn c⟩⟩⟩
        refine ⟨xin_n (by omega) (by omega), ?_⟩
        rw [ix_n32 (show b < 2147483648 by omega), r1.own hb]
        refine w246_0 ⟨fun c => absurd c n0, fun _ => ⟨fun c => absurd c nk, fun _ => s243 xrt2_1 ?_⟩⟩
        rw [h2, h4, code0]
        refine ⟨fun c => absurd c n01, fun _ => ⟨fun c => absurd c (n32_ne (by decide) (by decide) (by decide)), fun _ => ⟨fun c => absurd c (n32_ne (by decide) (by decide) (by decide)), fun _ => ⟨fun c => absurd c (n32_ne (by decide) (by decide) (by decide)), fun _ => ⟨fun _ => ?_, fun c => absurd rfl c⟩⟩⟩⟩⟩
        rw [st0 (show m 284 = m 284 from rfl)]
        simp (disch := omega) only [smg_at, n32_mul, n32_add, Nat.add_zero, xin_t, ix_n32, true_and]
        first | exact ⟨⟨rfl, x1⟩, x2⟩ | exact ⟨⟨trivial, x1⟩, x2⟩ | exact ⟨x1, x2⟩
      · refine w98_0 ⟨fun c => absurd (h1.symm.trans c) n01, fun _ => ⟨fun c => absurd c b0, fun _ => ⟨fun _ => ⟨fun c => absurd c n0, fun _ => ⟨fun c => absurd c nk, fun _ => ⟨fun c => absurd c (n32_ne (by decide) (by decide) (by decide)), fun _ => ⟨fun c => absurd c (n32_ne (by decide) (by decide) (by decide)), fun _ => ⟨fun c => absurd c (n32_ne (by decide) (by decide) (by decide)), fun _ => ⟨fun c => absurd c (n32_ne (by decide) (by decide) (by decide)), fun _ => ⟨fun c => absurd c (n32_ne (by decide) (by decide) (by decide)), fun _ => ⟨fun c => absurd c (n32_ne (by decide) (by decide) (by decide)), fun _ => ⟨fun c => absurd c (n32_ne (by decide) (by decide) (by decide)), fun _ => ⟨fun c => absurd c (n32_ne (by decide) (by decide) (by decide)), fun _ => ⟨fun c => absurd c (n32_ne (by decide) (by decide) (by decide)), fun _ => ⟨fun _ => ?_, fun c => absurd rfl c⟩⟩⟩⟩⟩⟩⟩⟩⟩⟩⟩⟩, fun c => absurd bn c⟩⟩⟩
        refine s168 w r1 r3 hb ?_
        refine w246_0 ⟨fun c => absurd c n0, fun _ => ⟨fun c => absurd c nk, fun _ => s243 xrt2_1 ?_⟩⟩
        rw [h2, h4, code0]
        refine ⟨fun c => absurd c n01, fun _ => ⟨fun c => absurd c (n32_ne (by decide) (by decide) (by decide)), fun _ => ⟨fun c => absurd c (n32_ne (by decide) (by decide) (by decide)), fun _ => ⟨fun c => absurd c (n32_ne (by decide) (by decide) (by decide)), fun _ => ⟨fun c => absurd c (n32_ne (by decide) (by decide) (by decide)), fun _ => ⟨fun _ => ?_, fun c => absurd rfl c⟩⟩⟩⟩⟩⟩
        rw [st0 (show m 284 = m 284 from rfl)]
        refine s244 w hb ?_
        first | exact ⟨⟨rfl, x1⟩, x2⟩ | exact ⟨⟨trivial, x1⟩, x2⟩ | exact ⟨x1, x2⟩
      · refine w98_0 ⟨fun c => absurd (h1.symm.trans c) n01, fun _ => ⟨fun c => absurd c b0, fun _ => ⟨fun _ => ⟨fun c => absurd c n0, fun _ => ⟨fun c => absurd c nk, fun _ => ⟨fun c => absurd c (n32_ne (by decide) (by decide) (by decide)), fun _ => ⟨fun c => absurd c (n32_ne (by decide) (by decide) (by decide)), fun _ => ⟨fun c => absurd c (n32_ne (by decide) (by decide) (by decide)), fun _ => ⟨fun c => absurd c (n32_ne (by decide) (by decide) (by decide)), fun _ => ⟨fun c => absurd c (n32_ne (by decide) (by decide) (by decide)), fun _ => ⟨fun c => absurd c (n32_ne (by decide) (by decide) (by decide)), fun _ => ⟨fun c => absurd c (n32_ne (by decide) (by decide) (by decide)), fun _ => ⟨fun c => absurd c (n32_ne (by decide) (by decide) (by decide)), fun _ => ⟨fun c => absurd c (n32_ne (by decide) (by decide) (by decide)), fun _ => ⟨fun c => absurd c (n32_ne (by decide) (by decide) (by decide)), fun _ => ⟨fun _ => ?_, fun c => absurd rfl c⟩⟩⟩⟩⟩⟩⟩⟩⟩⟩⟩⟩⟩, fun c => absurd bn c⟩⟩⟩
        refine ⟨xin_n (by omega) (by omega), ?_⟩
        rw [ix_n32 (show b < 2147483648 by omega), ix_n32 (show 0 < 2147483648 by omega), r1.pla hb, r1.pla (b := 0) (by omega)]
        refine w246_0 ⟨fun c => absurd c n0, fun _ => ⟨fun c => absurd c nk, fun _ => s243 xrt2_1 ?_⟩⟩
        rw [h2, h4, code0]
        refine ⟨fun c => absurd c n01, fun _ => ⟨fun c => absurd c (n32_ne (by decide) (by decide) (by decide)), fun _ => ⟨fun c => absurd c (n32_ne (by decide) (by decide) (by decide)), fun _ => ⟨fun c => absurd c (n32_ne (by decide) (by decide) (by decide)), fun _ => ⟨fun c => absurd c (n32_ne (by decide) (by decide) (by decide)), fun _ => ⟨fun c => absurd c (n32_ne (by decide) (by decide) (by decide)), fun _ => ⟨fun _ => ?_, fun c => absurd rfl c⟩⟩⟩⟩⟩⟩⟩
        rw [st0 (show m 284 = m 284 from rfl)]
        simp (disch := omega) only [smg_at, n32_mul, n32_add, Nat.mul_zero, Nat.add_zero, Nat.zero_add, xin_t, ix_n32, true_and]
        first | exact ⟨⟨rfl, x1⟩, x2⟩ | exact ⟨⟨trivial, x1⟩, x2⟩ | exact ⟨x1, x2⟩
      · refine w98_0 ⟨fun c => absurd (h1.symm.trans c) n01, fun _ => ⟨fun c => absurd c b0, fun _ => ⟨fun _ => ⟨fun c => absurd c n0, fun _ => ⟨fun c => absurd c nk, fun _ => ⟨fun c => absurd c (n32_ne (by decide) (by decide) (by decide)), fun _ => ⟨fun c => absurd c (n32_ne (by decide) (by decide) (by decide)), fun _ => ⟨fun c => absurd c (n32_ne (by decide) (by decide) (by decide)), fun _ => ⟨fun c => absurd c (n32_ne (by decide) (by decide) (by decide)), fun _ => ⟨fun c => absurd c (n32_ne (by decide) (by decide) (by decide)), fun _ => ⟨fun c => absurd c (n32_ne (by decide) (by decide) (by decide)), fun _ => ⟨fun c => absurd c (n32_ne (by decide) (by decide) (by decide)), fun _ => ⟨fun c => absurd c (n32_ne (by decide) (by decide) (by decide)), fun _ => ⟨fun c => absurd c (n32_ne (by decide) (by decide) (by decide)), fun _ => ⟨fun c => absurd c (n32_ne (by decide) (by decide) (by decide)), fun _ => ⟨fun c => absurd c (n32_ne (by decide) (by decide) (by decide)), fun _ => ⟨fun _ => ?_, fun c => absurd rfl c⟩⟩⟩⟩⟩⟩⟩⟩⟩⟩⟩⟩⟩⟩, fun c => absurd bn c⟩⟩⟩
        refine ⟨xin_n (by omega) (by omega), ?_⟩
        rw [ix_n32 (show b < 2147483648 by omega), r1.str hb]
        refine s63 (n := nBr (m 284)) e6 a2 ?_
        refine w246_0 ⟨fun c => absurd c n0, fun _ => ⟨fun c => absurd c nk, fun _ => s243 xrt2_1 ?_⟩⟩
        rw [h2, h4, code0]
        refine ⟨fun c => absurd c n01, fun _ => ⟨fun c => absurd c (n32_ne (by decide) (by decide) (by decide)), fun _ => ⟨fun c => absurd c (n32_ne (by decide) (by decide) (by decide)), fun _ => ⟨fun c => absurd c (n32_ne (by decide) (by decide) (by decide)), fun _ => ⟨fun c => absurd c (n32_ne (by decide) (by decide) (by decide)), fun _ => ⟨fun c => absurd c (n32_ne (by decide) (by decide) (by decide)), fun _ => ⟨fun c => absurd c (n32_ne (by decide) (by decide) (by decide)), fun _ => ⟨fun _ => ?_, fun c => absurd rfl c⟩⟩⟩⟩⟩⟩⟩⟩
        rw [st0 (show m 284 = m 284 from rfl)]
        refine s245 (n := nBr (m 284)) (b := b) (by rw [smg_at]; exact w.1.1) a2 (by omega) ?_
        refine ⟨⟨?_, x1⟩, x2⟩
        exact congrArg n32 (cnt_congr fun i hi => by simp only [smg_at]; rw [r1.str hi])
      · refine w98_0 ⟨fun c => absurd (h1.symm.trans c) n01, fun _ => ⟨fun c => absurd c b0, fun _ => ⟨fun _ => ⟨fun c => absurd c n0, fun _ => ⟨fun c => absurd c nk, fun _ => ⟨fun c => absurd c (n32_ne (by decide) (by decide) (by decide)), fun _ => ⟨fun c => absurd c (n32_ne (by decide) (by decide) (by decide)), fun _ => ⟨fun c => absurd c (n32_ne (by decide) (by decide) (by decide)), fun _ => ⟨fun c => absurd c (n32_ne (by decide) (by decide) (by decide)), fun _ => ⟨fun c => absurd c (n32_ne (by decide) (by decide) (by decide)), fun _ => ⟨fun c => absurd c (n32_ne (by decide) (by decide) (by decide)), fun _ => ⟨fun c => absurd c (n32_ne (by decide) (by decide) (by decide)), fun _ => ⟨fun c => absurd c (n32_ne (by decide) (by decide) (by decide)), fun _ => ⟨fun c => absurd c (n32_ne (by decide) (by decide) (by decide)), fun _ => ⟨fun c => absurd c (n32_ne (by decide) (by decide) (by decide)), fun _ => ⟨fun c => absurd c (n32_ne (by decide) (by decide) (by decide)), fun _ => ⟨fun c => absurd c (n32_ne (by decide) (by decide) (by decide)), fun _ => ?_⟩⟩⟩⟩⟩⟩⟩⟩⟩⟩⟩⟩⟩⟩, fun c => absurd bn c⟩⟩⟩
        refine ⟨xin_n (by omega) (by omega), ?_⟩
        rw [ix_n32 (show b < 2147483648 by omega), r1.pla hb]
        refine s7 (n := nL (m 284)) (by rw [r1.nl]; exact w.2.2.2.1.1) (by omega) ?_
        have ec : cnt (nL (m 284)) (fun k => decide (¬ m (29 + 12 + 2) k < m 284 (15 + 7 * b + 1)) && decide (¬ m 284 (15 + 7 * b + 1) < m (29 + 12 + 2) k)) = cnt (nL (m 284)) (fun k => decide (¬ m 284 (207 + 3 * k + 1) < m 284 (15 + 7 * b + 1)) && decide (¬ m 284 (15 + 7 * b + 1) < m 284 (207 + 3 * k + 1))) := cnt_congr fun i hi => by rw [r1.lp hi]
        rw [ec]
        have bn := bst_none (n := nL (m 284)) (p := fun k => decide (¬ m 284 (207 + 3 * k + 1) < m 284 (15 + 7 * b + 1)) && decide (¬ m 284 (15 + 7 * b + 1) < m 284 (207 + 3 * k + 1))) (lt := fun k b => decide (¬ m 284 (207 + 3 * k + 1) ≤ m 284 (207 + 3 * b + 1))) (by omega)
        have cl := cnt_le (nL (m 284)) (fun k => decide (¬ m 284 (207 + 3 * k + 1) < m 284 (15 + 7 * b + 1)) && decide (¬ m 284 (15 + 7 * b + 1) < m 284 (207 + 3 * k + 1)))
        generalize cnt (nL (m 284)) (fun k => decide (¬ m 284 (207 + 3 * k + 1) < m 284 (15 + 7 * b + 1)) && decide (¬ m 284 (15 + 7 * b + 1) < m 284 (207 + 3 * k + 1))) = cn at bn cl
        have go : ∀ Q : Int32 → XM → Prop, Q (if cn = 0 then n32 0 else n32 1) (smg (um m 283 0 (n32 0)) (m 284)) → VI (D + 12) 246 [vR 11 283, vI (n32 b), vI (n32 12)] m Q (fun _ _ => False) := by
          intro Q hQ
          refine w246_0 ⟨fun c => absurd c n0, fun _ => ⟨fun c => absurd c nk, fun _ => s243 xrt2_1 ?_⟩⟩
          rw [h2, h4, code0]
          refine ⟨fun c => absurd c n01, fun _ => ⟨fun c => absurd c (n32_ne (by decide) (by decide) (by decide)), fun _ => ⟨fun c => absurd c (n32_ne (by decide) (by decide) (by decide)), fun _ => ⟨fun c => absurd c (n32_ne (by decide) (by decide) (by decide)), fun _ => ⟨fun c => absurd c (n32_ne (by decide) (by decide) (by decide)), fun _ => ⟨fun c => absurd c (n32_ne (by decide) (by decide) (by decide)), fun _ => ⟨fun c => absurd c (n32_ne (by decide) (by decide) (by decide)), fun _ => ⟨fun c => absurd c (n32_ne (by decide) (by decide) (by decide)), fun _ => ⟨fun _ => ?_, fun c => absurd rfl c⟩⟩⟩⟩⟩⟩⟩⟩⟩
          rw [st0 (show m 284 = m 284 from rfl)]
          simp (disch := omega) only [smg_at, n32_mul, n32_add, Nat.add_zero, xin_t, ix_n32, true_and]
          refine s215 w ?_
          by_cases c : cn = 0
          · rw [if_pos c] at hQ
            exact ⟨fun _ => hQ, fun c' => absurd (bn.mpr c) c'⟩
          · rw [if_neg c] at hQ
            exact ⟨fun c' => absurd (bn.mp c') c, fun _ => hQ⟩
        by_cases c : cn = 0
        · rw [if_pos c] at go
          refine ⟨fun _ => go _ ?_, fun c' => absurd (by rw [c]; exact n32_rfl 0) c'⟩
          first | exact ⟨⟨rfl, x1⟩, x2⟩ | exact ⟨⟨trivial, x1⟩, x2⟩ | exact ⟨x1, x2⟩
        · rw [if_neg c] at go
          refine ⟨fun c' => absurd ((n32_le (by omega) (by omega)).mp c') (by omega), fun _ => go _ ?_⟩
          first | exact ⟨⟨rfl, x1⟩, x2⟩ | exact ⟨⟨trivial, x1⟩, x2⟩ | exact ⟨x1, x2⟩
theorem p_stand {v1 v2 : Int32} {N : Nat} (h : CPL m N) : PRI (D + 12) 99 253 [vR 10 0, vI v1, vI v2] [vR 11 283, vI v1, vI v2] mpSPA m N := by
  unfold PRI
  have no : ∀ c, codeOf (m 283 6) (inI v1 (n32 0) (m 284 7 - n32 1)) (inI v2 (n32 0) (n32 8)) = c → 1 ≤ c → c ≤ 3 → VI (D + 12) 253 [vR 11 283, vI v1, vI v2] m (fun _ m2 => (m2 283 0 = n32 c ∧ 1 ≤ c ∧ c ≤ 3) ∧ CPL m2 N) (fun _ _ => False) := by
    intro c hc y1 y3
    have cn : ¬ c = 0 := by omega
    unfold inI at hc
    refine w253_0 ⟨fun d1 => ⟨fun d2 => s176 ?_, fun d2 => ⟨fun d3 => s176 ?_, fun d3 => s176 ?_⟩⟩, fun d1 => ?_⟩
    · rw [if_pos d1, if_pos d2] at hc
    rw [hc, if_neg cn]
    exact ⟨fun _ => ⟨⟨um_eq _ _ _ _, y1, y3⟩, CPL_th h⟩, fun c => absurd rfl c⟩
    · rw [if_pos d1, if_neg d2, if_pos d3] at hc
      rw [hc, if_neg cn]
      exact ⟨fun _ => ⟨⟨um_eq _ _ _ _, y1, y3⟩, CPL_th h⟩, fun c => absurd rfl c⟩
    · rw [if_pos d1, if_neg d2, if_neg d3] at hc
      rw [hc, if_neg cn]
      exact ⟨fun _ => ⟨⟨um_eq _ _ _ _, y1, y3⟩, CPL_th h⟩, fun c => absurd rfl c⟩
    · rw [ix_n32 (by omega)]
      refine ⟨fun d4 => ⟨fun d2 => s176 ?_, fun d2 => ⟨fun d3 => s176 ?_, fun d3 => s176 ?_⟩⟩, fun d4 => ⟨fun d2 => s176 ?_, fun d2 => ⟨fun d3 => s176 ?_, fun d3 => s176 ?_⟩⟩⟩
      · rw [if_neg d1, if_pos d4, if_pos d2] at hc
        rw [hc, if_neg cn]
        exact ⟨fun _ => ⟨⟨um_eq _ _ _ _, y1, y3⟩, CPL_th h⟩, fun c => absurd rfl c⟩
      · rw [if_neg d1, if_pos d4, if_neg d2, if_pos d3] at hc
        rw [hc, if_neg cn]
        exact ⟨fun _ => ⟨⟨um_eq _ _ _ _, y1, y3⟩, CPL_th h⟩, fun c => absurd rfl c⟩
      · rw [if_neg d1, if_pos d4, if_neg d2, if_neg d3] at hc
        rw [hc, if_neg cn]
        exact ⟨fun _ => ⟨⟨um_eq _ _ _ _, y1, y3⟩, CPL_th h⟩, fun c => absurd rfl c⟩
      · rw [if_neg d1, if_neg d4, if_pos d2] at hc
        rw [hc, if_neg cn]
        exact ⟨fun _ => ⟨⟨um_eq _ _ _ _, y1, y3⟩, CPL_th h⟩, fun c => absurd rfl c⟩
      · rw [if_neg d1, if_neg d4, if_neg d2, if_pos d3] at hc
        rw [hc, if_neg cn]
        exact ⟨fun _ => ⟨⟨um_eq _ _ _ _, y1, y3⟩, CPL_th h⟩, fun c => absurd rfl c⟩
      · rw [if_neg d1, if_neg d4, if_neg d2, if_neg d3] at hc
        rw [hc, if_neg cn]
        exact ⟨fun _ => ⟨⟨um_eq _ _ _ _, y1, y3⟩, CPL_th h⟩, fun c => absurd rfl c⟩
  rcases stand_cases h v1 with ⟨h1, h2⟩ | ⟨h1, h2, h3, h4⟩ | ⟨h1, h2, hS, s, hb, rfl, h69, h4⟩
  · exact w99_0 ⟨fun _ => no 1 (by rw [h2, code1]) (by omega) (by omega), fun c => absurd h1 c⟩
  · have rb := no 2 (by rw [h2, h4, code2]) (by omega) (by omega)
    refine w99_0 ⟨fun c => absurd (h1.symm.trans c) n01, fun _ => ⟨fun _ => rb, fun d1 => ⟨fun d2 => ?_, fun _ => rb⟩⟩⟩
    rcases h3 with h3 | h3
    · exact absurd h3 d1
    · exact absurd d2 h3
  · obtain ⟨r1, r2, r3, T, hT, si⟩ := hS
    have w := si.w
    have a2 := w.nb
    have a4 := w.ns
    have a9 := w.nl
    have e6 : m (29 + 3) 0 = n32 (nBr (m 284)) := by rw [r1.nb]; exact w.1.1
    have b0 : ¬ n32 s < n32 0 := by rw [n32_lt (by omega) (by omega)]; omega
    have bn : n32 s < m 69 0 := by rw [h69, n32_lt (by omega) (by omega)]; omega
    have e8 : m 284 7 = n32 (nSt (m 284)) := w.2.1.1
    have bm : ¬ m 284 (ix (n32 7)) - n32 1 < n32 s := by rw [ix_n32 (by omega), e8, n32_sub (by omega), n32_lt (by omega) (by omega)]; omega
    rcases rng_cases v2 8 (by omega) with ⟨d1, e1⟩ | ⟨d1, d2, e1⟩ | ⟨j, hj, rfl, e1⟩
    · exact w99_0 ⟨fun c => absurd (h1.symm.trans c) n01, fun _ => ⟨fun c => absurd c b0, fun _ => ⟨fun _ => ⟨fun _ => no 3 (by rw [h2, h4, e1, code3]) (by omega) (by omega), fun c => absurd d1 c⟩, fun c => absurd bn c⟩⟩⟩
    · exact w99_0 ⟨fun c => absurd (h1.symm.trans c) n01, fun _ => ⟨fun c => absurd c b0, fun _ => ⟨fun _ => ⟨fun c => absurd c d1, fun _ => ⟨fun _ => no 3 (by rw [h2, h4, e1, code3]) (by omega) (by omega), fun c => absurd d2 c⟩⟩, fun c => absurd bn c⟩⟩⟩
    · obtain ⟨x1, x2⟩ := fin1 h (show m 284 = m 284 from rfl)
      have n0 : ¬ n32 j < n32 0 := by rw [n32_lt (by omega) (by omega)]; omega
      have nk : ¬ n32 8 < n32 j := by rw [n32_lt (by omega) (by omega)]; omega
      obtain ⟨q1, q2, q3, q4⟩ := r3.2 s hb
      obtain rfl | rfl | rfl | rfl | rfl | rfl | rfl | rfl | rfl : j = 0 ∨ j = 1 ∨ j = 2 ∨ j = 3 ∨ j = 4 ∨ j = 5 ∨ j = 6 ∨ j = 7 ∨ j = 8 := by omega
      · refine w99_0 ⟨fun c => absurd (h1.symm.trans c) n01, fun _ => ⟨fun c => absurd c b0, fun _ => ⟨fun _ => ⟨fun c => absurd c n0, fun _ => ⟨fun c => absurd c nk, fun _ => ⟨fun _ => ?_, fun c => absurd rfl c⟩⟩⟩, fun c => absurd bn c⟩⟩⟩
        refine ⟨xin_n (by omega) (by omega), ?_⟩
        rw [ix_n32 (show s < 2147483648 by omega), q1]
        refine w253_0 ⟨fun c => absurd c b0, fun _ => ⟨fun c => absurd c bm, fun _ => ⟨fun c => absurd c n0, fun _ => ⟨fun c => absurd c nk, fun _ => s176 ?_⟩⟩⟩⟩
        rw [h2, code0]
        refine ⟨fun c => absurd c n01, fun _ => ⟨fun c => absurd c (n32_ne (by decide) (by decide) (by decide)), fun _ => ⟨fun c => absurd c (n32_ne (by decide) (by decide) (by decide)), fun _ => ⟨fun c => absurd c (n32_ne (by decide) (by decide) (by decide)), fun _ => ⟨fun c => absurd c (n32_ne (by decide) (by decide) (by decide)), fun _ => ⟨fun c => absurd c (n32_ne (by decide) (by decide) (by decide)), fun _ => ?_⟩⟩⟩⟩⟩⟩
        rw [st0 (show m 284 = m 284 from rfl)]
        simp (disch := omega) only [smg_at, n32_mul, n32_add, Nat.add_zero, xin_t, ix_n32, true_and]
        first | exact ⟨⟨rfl, x1⟩, x2⟩ | exact ⟨⟨trivial, x1⟩, x2⟩ | exact ⟨x1, x2⟩
      · refine w99_0 ⟨fun c => absurd (h1.symm.trans c) n01, fun _ => ⟨fun c => absurd c b0, fun _ => ⟨fun _ => ⟨fun c => absurd c n0, fun _ => ⟨fun c => absurd c nk, fun _ => ⟨fun c => absurd c (n32_ne (by decide) (by decide) (by decide)), fun _ => ⟨fun _ => ?_, fun c => absurd rfl c⟩⟩⟩⟩, fun c => absurd bn c⟩⟩⟩
        refine ⟨xin_n (by omega) (by omega), ?_⟩
        rw [ix_n32 (show s < 2147483648 by omega), q2]
        refine w253_0 ⟨fun c => absurd c b0, fun _ => ⟨fun c => absurd c bm, fun _ => ⟨fun c => absurd c n0, fun _ => ⟨fun c => absurd c nk, fun _ => s176 ?_⟩⟩⟩⟩
        rw [h2, code0]
        refine ⟨fun c => absurd c n01, fun _ => ⟨fun c => absurd c (n32_ne (by decide) (by decide) (by decide)), fun _ => ⟨fun c => absurd c (n32_ne (by decide) (by decide) (by decide)), fun _ => ⟨fun c => absurd c (n32_ne (by decide) (by decide) (by decide)), fun _ => ⟨fun c => absurd c (n32_ne (by decide) (by decide) (by decide)), fun _ => ⟨fun c => absurd c (n32_ne (by decide) (by decide) (by decide)), fun _ => ?_⟩⟩⟩⟩⟩⟩
        rw [st0 (show m 284 = m 284 from rfl)]
        simp (disch := omega) only [smg_at, n32_mul, n32_add, Nat.add_zero, xin_t, ix_n32, true_and]
        first | exact ⟨⟨rfl, x1⟩, x2⟩ | exact ⟨⟨trivial, x1⟩, x2⟩ | exact ⟨x1, x2⟩
      · refine w99_0 ⟨fun c => absurd (h1.symm.trans c) n01, fun _ => ⟨fun c => absurd c b0, fun _ => ⟨fun _ => ⟨fun c => absurd c n0, fun _ => ⟨fun c => absurd c nk, fun _ => ⟨fun c => absurd c (n32_ne (by decide) (by decide) (by decide)), fun _ => ⟨fun c => absurd c (n32_ne (by decide) (by decide) (by decide)), fun _ => ⟨fun _ => ?_, fun c => absurd rfl c⟩⟩⟩⟩⟩, fun c => absurd bn c⟩⟩⟩
        refine ⟨xin_n (by omega) (by omega), ?_⟩
        rw [ix_n32 (show s < 2147483648 by omega), q3]
        refine w253_0 ⟨fun c => absurd c b0, fun _ => ⟨fun c => absurd c bm, fun _ => ⟨fun c => absurd c n0, fun _ => ⟨fun c => absurd c nk, fun _ => s176 ?_⟩⟩⟩⟩
        rw [h2, code0]
        refine ⟨fun c => absurd c n01, fun _ => ⟨fun c => absurd c (n32_ne (by decide) (by decide) (by decide)), fun _ => ⟨fun c => absurd c (n32_ne (by decide) (by decide) (by decide)), fun _ => ⟨fun c => absurd c (n32_ne (by decide) (by decide) (by decide)), fun _ => ⟨fun c => absurd c (n32_ne (by decide) (by decide) (by decide)), fun _ => ⟨fun c => absurd c (n32_ne (by decide) (by decide) (by decide)), fun _ => ?_⟩⟩⟩⟩⟩⟩
        rw [st0 (show m 284 = m 284 from rfl)]
        simp (disch := omega) only [smg_at, n32_mul, n32_add, Nat.add_zero, xin_t, ix_n32, true_and]
        first | exact ⟨⟨rfl, x1⟩, x2⟩ | exact ⟨⟨trivial, x1⟩, x2⟩ | exact ⟨x1, x2⟩
      · refine w99_0 ⟨fun c => absurd (h1.symm.trans c) n01, fun _ => ⟨fun c => absurd c b0, fun _ => ⟨fun _ => ⟨fun c => absurd c n0, fun _ => ⟨fun c => absurd c nk, fun _ => ⟨fun c => absurd c (n32_ne (by decide) (by decide) (by decide)), fun _ => ⟨fun c => absurd c (n32_ne (by decide) (by decide) (by decide)), fun _ => ⟨fun c => absurd c (n32_ne (by decide) (by decide) (by decide)), fun _ => ⟨fun _ => ?_, fun c => absurd rfl c⟩⟩⟩⟩⟩⟩, fun c => absurd bn c⟩⟩⟩
        refine ⟨xin_n (by omega) (by omega), ?_⟩
        rw [ix_n32 (show s < 2147483648 by omega), r2 s hb]
        refine w253_0 ⟨fun c => absurd c b0, fun _ => ⟨fun c => absurd c bm, fun _ => ⟨fun c => absurd c n0, fun _ => ⟨fun c => absurd c nk, fun _ => s176 ?_⟩⟩⟩⟩
        rw [h2, code0]
        refine ⟨fun c => absurd c n01, fun _ => ⟨fun c => absurd c (n32_ne (by decide) (by decide) (by decide)), fun _ => ⟨fun c => absurd c (n32_ne (by decide) (by decide) (by decide)), fun _ => ⟨fun c => absurd c (n32_ne (by decide) (by decide) (by decide)), fun _ => ⟨fun c => absurd c (n32_ne (by decide) (by decide) (by decide)), fun _ => ⟨fun c => absurd c (n32_ne (by decide) (by decide) (by decide)), fun _ => ?_⟩⟩⟩⟩⟩⟩
        rw [st0 (show m 284 = m 284 from rfl)]
        simp (disch := omega) only [smg_at, n32_mul, n32_add, Nat.add_zero, xin_t, ix_n32, true_and]
        first | exact ⟨⟨rfl, x1⟩, x2⟩ | exact ⟨⟨trivial, x1⟩, x2⟩ | exact ⟨x1, x2⟩
      · refine w99_0 ⟨fun c => absurd (h1.symm.trans c) n01, fun _ => ⟨fun c => absurd c b0, fun _ => ⟨fun _ => ⟨fun c => absurd c n0, fun _ => ⟨fun c => absurd c nk, fun _ => ⟨fun c => absurd c (n32_ne (by decide) (by decide) (by decide)), fun _ => ⟨fun c => absurd c (n32_ne (by decide) (by decide) (by decide)), fun _ => ⟨fun c => absurd c (n32_ne (by decide) (by decide) (by decide)), fun _ => ⟨fun c => absurd c (n32_ne (by decide) (by decide) (by decide)), fun _ => ⟨fun _ => ?_, fun c => absurd rfl c⟩⟩⟩⟩⟩⟩⟩, fun c => absurd bn c⟩⟩⟩
        refine s169 w r1 r3 hb ?_
        refine w253_0 ⟨fun c => absurd c b0, fun _ => ⟨fun c => absurd c bm, fun _ => ⟨fun c => absurd c n0, fun _ => ⟨fun c => absurd c nk, fun _ => s176 ?_⟩⟩⟩⟩
        rw [h2, code0]
        refine ⟨fun c => absurd c n01, fun _ => ⟨fun _ => ?_, fun c => absurd rfl c⟩⟩
        rw [st0 (show m 284 = m 284 from rfl)]
        refine s247 w hb (s248 ?_)
        refine ⟨⟨?_, x1⟩, x2⟩
        have bb := bits_bset (n := nBr (m 284)) (fun b => seesG (m 284) s b) a2
        exact bb.1.trans bb.2.symm
      · refine w99_0 ⟨fun c => absurd (h1.symm.trans c) n01, fun _ => ⟨fun c => absurd c b0, fun _ => ⟨fun _ => ⟨fun c => absurd c n0, fun _ => ⟨fun c => absurd c nk, fun _ => ⟨fun c => absurd c (n32_ne (by decide) (by decide) (by decide)), fun _ => ⟨fun c => absurd c (n32_ne (by decide) (by decide) (by decide)), fun _ => ⟨fun c => absurd c (n32_ne (by decide) (by decide) (by decide)), fun _ => ⟨fun c => absurd c (n32_ne (by decide) (by decide) (by decide)), fun _ => ⟨fun c => absurd c (n32_ne (by decide) (by decide) (by decide)), fun _ => ⟨fun _ => ?_, fun c => absurd rfl c⟩⟩⟩⟩⟩⟩⟩⟩, fun c => absurd bn c⟩⟩⟩
        refine s161 w r1 r3 hb ?_
        intro m1 hT1 fd
        have f : QF m m1 := QF_fd fd
        have hc : CPL m1 N := CPL_fr h (Nat.le_refl _) f
        have hg : m1 284 = m 284 := funext fun k => f _ _ (by unfold REL; omega)
        have h2' : m1 283 6 = n32 1 := by rw [f _ _ (by unfold REL; omega)]; exact h2
        have bm' : ¬ m1 284 (ix (n32 7)) - n32 1 < n32 s := by rw [hg]; exact bm
        rw [hT1.1]
        refine w253_0 ⟨fun c => absurd c b0, fun _ => ⟨fun c => absurd c bm', fun _ => ⟨fun c => absurd c n0, fun _ => ⟨fun c => absurd c nk, fun _ => s176 ?_⟩⟩⟩⟩
        rw [h2', code0]
        refine ⟨fun c => absurd c n01, fun _ => ⟨fun c => absurd c (n32_ne (by decide) (by decide) (by decide)), fun _ => ⟨fun _ => ?_, fun c => absurd rfl c⟩⟩⟩
        rw [st0 hg]
        refine w249_0 (s220 w hb ?_)
        intro m2 f2 hT2
        obtain ⟨z1, z2⟩ := fin0 hc hg f2
        have e18 := hT2.1
        simp (disch := omega) only [smg_ne, e18]
        first | exact ⟨⟨rfl, z1⟩, z2⟩ | exact ⟨⟨trivial, z1⟩, z2⟩ | exact ⟨z1, z2⟩
      · refine w99_0 ⟨fun c => absurd (h1.symm.trans c) n01, fun _ => ⟨fun c => absurd c b0, fun _ => ⟨fun _ => ⟨fun c => absurd c n0, fun _ => ⟨fun c => absurd c nk, fun _ => ⟨fun c => absurd c (n32_ne (by decide) (by decide) (by decide)), fun _ => ⟨fun c => absurd c (n32_ne (by decide) (by decide) (by decide)), fun _ => ⟨fun c => absurd c (n32_ne (by decide) (by decide) (by decide)), fun _ => ⟨fun c => absurd c (n32_ne (by decide) (by decide) (by decide)), fun _ => ⟨fun c => absurd c (n32_ne (by decide) (by decide) (by decide)), fun _ => ⟨fun c => absurd c (n32_ne (by decide) (by decide) (by decide)), fun _ => ⟨fun _ => ?_, fun c => absurd rfl c⟩⟩⟩⟩⟩⟩⟩⟩⟩, fun c => absurd bn c⟩⟩⟩
        refine ⟨xin_n (by omega) (by omega), ?_⟩
        rw [ix_n32 (show s < 2147483648 by omega), q2]
        refine s66 w r1 ?_
        refine w253_0 ⟨fun c => absurd c b0, fun _ => ⟨fun c => absurd c bm, fun _ => ⟨fun c => absurd c n0, fun _ => ⟨fun c => absurd c nk, fun _ => s176 ?_⟩⟩⟩⟩
        rw [h2, code0]
        refine ⟨fun c => absurd c n01, fun _ => ⟨fun c => absurd c (n32_ne (by decide) (by decide) (by decide)), fun _ => ⟨fun c => absurd c (n32_ne (by decide) (by decide) (by decide)), fun _ => ⟨fun _ => ?_, fun c => absurd rfl c⟩⟩⟩⟩
        rw [st0 (show m 284 = m 284 from rfl)]
        refine s250 w hb ?_
        first | exact ⟨⟨rfl, x1⟩, x2⟩ | exact ⟨⟨trivial, x1⟩, x2⟩ | exact ⟨x1, x2⟩
      · refine w99_0 ⟨fun c => absurd (h1.symm.trans c) n01, fun _ => ⟨fun c => absurd c b0, fun _ => ⟨fun _ => ⟨fun c => absurd c n0, fun _ => ⟨fun c => absurd c nk, fun _ => ⟨fun c => absurd c (n32_ne (by decide) (by decide) (by decide)), fun _ => ⟨fun c => absurd c (n32_ne (by decide) (by decide) (by decide)), fun _ => ⟨fun c => absurd c (n32_ne (by decide) (by decide) (by decide)), fun _ => ⟨fun c => absurd c (n32_ne (by decide) (by decide) (by decide)), fun _ => ⟨fun c => absurd c (n32_ne (by decide) (by decide) (by decide)), fun _ => ⟨fun c => absurd c (n32_ne (by decide) (by decide) (by decide)), fun _ => ⟨fun c => absurd c (n32_ne (by decide) (by decide) (by decide)), fun _ => ⟨fun _ => ?_, fun c => absurd rfl c⟩⟩⟩⟩⟩⟩⟩⟩⟩⟩, fun c => absurd bn c⟩⟩⟩
        refine ⟨xin_n (by omega) (by omega), ?_⟩
        rw [ix_n32 (show s < 2147483648 by omega), q2, ix_n32 (show 1 < 2147483648 by omega), r1.se (k := 1) (by omega)]
        refine s64 (n := nBr (m 284)) e6 a2 ?_
        refine w253_0 ⟨fun c => absurd c b0, fun _ => ⟨fun c => absurd c bm, fun _ => ⟨fun c => absurd c n0, fun _ => ⟨fun c => absurd c nk, fun _ => s176 ?_⟩⟩⟩⟩
        rw [h2, code0]
        refine ⟨fun c => absurd c n01, fun _ => ⟨fun c => absurd c (n32_ne (by decide) (by decide) (by decide)), fun _ => ⟨fun c => absurd c (n32_ne (by decide) (by decide) (by decide)), fun _ => ⟨fun c => absurd c (n32_ne (by decide) (by decide) (by decide)), fun _ => ⟨fun _ => ?_, fun c => absurd rfl c⟩⟩⟩⟩⟩
        rw [st0 (show m 284 = m 284 from rfl)]
        refine s251 (n := nBr (m 284)) (by rw [smg_at]; exact w.1.1) a2 (by omega) ?_
        refine ⟨⟨?_, x1⟩, x2⟩
        exact congrArg n32 (cnt_congr fun i hi => by simp only [smg_at]; rw [r1.pla hi])
      · refine w99_0 ⟨fun c => absurd (h1.symm.trans c) n01, fun _ => ⟨fun c => absurd c b0, fun _ => ⟨fun _ => ⟨fun c => absurd c n0, fun _ => ⟨fun c => absurd c nk, fun _ => ⟨fun c => absurd c (n32_ne (by decide) (by decide) (by decide)), fun _ => ⟨fun c => absurd c (n32_ne (by decide) (by decide) (by decide)), fun _ => ⟨fun c => absurd c (n32_ne (by decide) (by decide) (by decide)), fun _ => ⟨fun c => absurd c (n32_ne (by decide) (by decide) (by decide)), fun _ => ⟨fun c => absurd c (n32_ne (by decide) (by decide) (by decide)), fun _ => ⟨fun c => absurd c (n32_ne (by decide) (by decide) (by decide)), fun _ => ⟨fun c => absurd c (n32_ne (by decide) (by decide) (by decide)), fun _ => ⟨fun c => absurd c (n32_ne (by decide) (by decide) (by decide)), fun _ => ?_⟩⟩⟩⟩⟩⟩⟩⟩⟩⟩, fun c => absurd bn c⟩⟩⟩
        refine ⟨xin_n (by omega) (by omega), ?_⟩
        rw [ix_n32 (show s < 2147483648 by omega), q2, ix_n32 (show 1 < 2147483648 by omega), r1.se (k := 1) (by omega)]
        refine s65 (n := nBr (m 284)) e6 a2 ?_
        refine w253_0 ⟨fun c => absurd c b0, fun _ => ⟨fun c => absurd c bm, fun _ => ⟨fun c => absurd c n0, fun _ => ⟨fun c => absurd c nk, fun _ => s176 ?_⟩⟩⟩⟩
        rw [h2, code0]
        refine ⟨fun c => absurd c n01, fun _ => ⟨fun c => absurd c (n32_ne (by decide) (by decide) (by decide)), fun _ => ⟨fun c => absurd c (n32_ne (by decide) (by decide) (by decide)), fun _ => ⟨fun c => absurd c (n32_ne (by decide) (by decide) (by decide)), fun _ => ⟨fun c => absurd c (n32_ne (by decide) (by decide) (by decide)), fun _ => ⟨fun _ => ?_, fun c => absurd rfl c⟩⟩⟩⟩⟩⟩
        rw [st0 (show m 284 = m 284 from rfl)]
        refine s252 (n := nBr (m 284)) (by rw [smg_at]; exact w.1.1) a2 (by omega) ?_
        refine ⟨⟨?_, x1⟩, x2⟩
        exact congrArg n32 (cnt_congr fun i hi => by simp only [smg_at]; rw [r1.pla hi])
end S86
/-! Pairs: the bits of a share, what a word wants, whose letter it is, blanks, how far text and word are alike. -/
def fbR : Nat → Int32 → UInt32 → Option Int32
  | 0, e, x => if FP.fsub x FP.fconst1 &&& 0x7fffffff ≤ 0x7f800000 ∧ FP.fmul (FP.fsub x FP.fconst1) (UInt32.ofNat 1258291200) &&& 0x7fffffff ≤ 0x7f800000 then some ((e <<< (n32 23 &&& 31)) + FP.f2i (FP.fmul (FP.fsub x FP.fconst1) (UInt32.ofNat 1258291200))) else none
  | k + 1, e, x => if n32 0 ≤ Op.cmpValue (FP.fcmp x FP.fconst1) .g then
      (if FP.fsub x FP.fconst1 &&& 0x7fffffff ≤ 0x7f800000 ∧ FP.fmul (FP.fsub x FP.fconst1) (UInt32.ofNat 1258291200) &&& 0x7fffffff ≤ 0x7f800000 then some ((e <<< (n32 23 &&& 31)) + FP.f2i (FP.fmul (FP.fsub x FP.fconst1) (UInt32.ofNat 1258291200))) else none)
    else if FP.fmul x FP.fconst2 &&& 0x7fffffff ≤ 0x7f800000 then fbR k (e + -(n32 1)) (FP.fmul x FP.fconst2) else none
theorem fbR_0 (e : Int32) (x : UInt32) : fbR 0 e x = if FP.fsub x FP.fconst1 &&& 0x7fffffff ≤ 0x7f800000 ∧ FP.fmul (FP.fsub x FP.fconst1) (UInt32.ofNat 1258291200) &&& 0x7fffffff ≤ 0x7f800000 then some ((e <<< (n32 23 &&& 31)) + FP.f2i (FP.fmul (FP.fsub x FP.fconst1) (UInt32.ofNat 1258291200))) else none := by rw [fbR]
theorem fbR_s (k : Nat) (e : Int32) (x : UInt32) : fbR (k + 1) e x = if n32 0 ≤ Op.cmpValue (FP.fcmp x FP.fconst1) .g then
      (if FP.fsub x FP.fconst1 &&& 0x7fffffff ≤ 0x7f800000 ∧ FP.fmul (FP.fsub x FP.fconst1) (UInt32.ofNat 1258291200) &&& 0x7fffffff ≤ 0x7f800000 then some ((e <<< (n32 23 &&& 31)) + FP.f2i (FP.fmul (FP.fsub x FP.fconst1) (UInt32.ofNat 1258291200))) else none)
    else if FP.fmul x FP.fconst2 &&& 0x7fffffff ≤ 0x7f800000 then fbR k (e + -(n32 1)) (FP.fmul x FP.fconst2) else none := by rw [fbR]
def fbT (x : UInt32) : Option Int32 := if n32 0 < Op.cmpValue (FP.fcmp x FP.fconst0) .g then fbR 60 (n32 127) x else some (n32 0)
/-- what holds of each share -/
def shOk (x : UInt32) : Bool := fcond x && decide (fbT x = some x.toInt32) && decide (Op.cmpValue (FP.fcmp x x) .l = n32 0)
theorem shOk_all : ((List.range 9).all fun n => (List.range 25).all fun d => Nat.beq d 0 || shOk (FP.fdiv (FP.i2f (n32 n)) (FP.i2f (n32 d)))) = true := by decide +kernel
theorem alm8 {g : PG} (w : WF g) {s : Nat} (hs : s < nSt g) : almG g s ≤ 8 := by
  obtain ⟨l1, l2, l3⟩ := wl w hs
  have := cnt_le (min (txA g s).1 (ix (g (99 + 12 * s + 2)))) fun i => decide ((txA g s).2.2.1 i = g (99 + 12 * s + 4 + i))
  unfold almG; omega
theorem shOk_G {g : PG} (w : WF g) {s : Nat} (hs : s < nSt g) : shOk (shareG g s) = true := by
  obtain ⟨l1, l2, l3⟩ := wl w hs
  have tl := tx_len w s
  have al := alm8 w hs
  have := List.all_eq_true.mp (List.all_eq_true.mp shOk_all (almG g s) (List.mem_range.mpr (by omega))) (max (txA g s).1 (ix (g (99 + 12 * s + 2)))) (List.mem_range.mpr (by omega))
  rw [Bool.or_eq_true] at this
  rcases this with h | h
  · exact absurd (Nat.eq_of_beq_eq_true h) (by omega)
  · exact h
section S87
variable {D : Nat} {m : XM} {g : PG} {E : Nat → XM → Prop}
theorem t170 {Q : Int32 → XM → Prop} : ∀ (k : Nat) (e : Int32) (x : UInt32) (r : Int32), k ≤ 60 → fbR k e x = some r → Q r m → VLI D 170 3 [(1, vI e), (2, vF x), (3, vI (n32 (60 - k)))] [] m Q E := by
  intro k
  induction k with
  | zero =>
    intro e x r _ h hq
    rw [fbR_0] at h
    refine w170_3 ⟨fun _ => ?_, fun c => absurd (n32_rfl _) c⟩
    split at h
    · rename_i c
      cases h
      exact ⟨c.1, c.2, hq⟩
    · cases h
  | succ k ih =>
    intro e x r hk h hq
    rw [fbR_s] at h
    refine w170_3 ⟨fun c => absurd ((n32_le (by omega) (by omega)).mp c) (by omega), fun _ => ⟨fun c1 => ?_, fun c1 => ?_⟩⟩
    · rw [if_pos c1] at h
      split at h
      · rename_i c
        cases h
        exact ⟨c.1, c.2, hq⟩
      · cases h
    · rw [if_neg c1] at h
      split at h
      · rename_i c
        refine ⟨c, ?_⟩
        rw [n32_add, show 60 - (k + 1) + 1 = 60 - k by omega]
        exact ih _ _ _ (by omega) h hq
      · cases h
theorem s170 {x : UInt32} {Q : Int32 → XM → Prop} (hx : shOk x = true) (h : Q x.toInt32 m) : VI D 170 [vF x] m Q E := by
  unfold shOk at hx
  rw [Bool.and_eq_true, Bool.and_eq_true, decide_eq_true_eq, decide_eq_true_eq] at hx
  have hx := hx.1.2
  unfold fbT at hx
  refine w170_0 ⟨fun c => ?_, fun c => ?_⟩
  · rw [if_pos c] at hx
    exact t170 60 _ _ _ (by omega) hx h
  · rw [if_neg c] at hx
    cases hx
    exact h
theorem p_shareBits {v : Int32} {N : Nat} (h : CPL m N) : PRI (D + 12) 108 273 [vR 10 0, vI v] [vR 11 283, vI v] mpSPA m N := by
  unfold PRI
  rcases stand_cases h v with ⟨h1, h2⟩ | ⟨h1, h2, h3, h4⟩ | ⟨h1, h2, hS, s, hs, rfl, h69, h4⟩
  · refine w108_0 ⟨fun _ => ?_, fun c => absurd h1 c⟩
    refine w273_0 (s242 ?_)
    rw [h2]
    exact ⟨fun _ => ⟨⟨um_eq _ _ _ _, by decide, by decide⟩, CPL_th h⟩, fun c => absurd rfl c⟩
  · have rb : VI (D + 12) 273 [vR 11 283, vI v] m (fun _ m2 => (m2 283 0 = n32 (mpSPA 2) ∧ 1 ≤ mpSPA 2 ∧ mpSPA 2 ≤ 3) ∧ CPL m2 N) (fun _ _ => False) := by
      refine w273_0 (s242 ?_)
      rw [h2, h4]
      exact ⟨fun _ => ⟨⟨um_eq _ _ _ _, by decide, by decide⟩, CPL_th h⟩, fun c => absurd rfl c⟩
    refine w108_0 ⟨fun c => absurd (h1.symm.trans c) n01, fun _ => ⟨fun _ => rb, fun c => ⟨fun c2 => ?_, fun _ => rb⟩⟩⟩
    rcases h3 with h3 | h3
    · exact absurd h3 c
    · exact absurd c2 h3
  · obtain ⟨r1, r2, r3, T, hT, si⟩ := hS
    have w := si.w
    have a2 := w.nb
    have a4 := w.ns
    obtain ⟨x1, x2⟩ := fin1 h (show m 284 = m 284 from rfl)
    refine w108_0 ⟨fun c => absurd (h1.symm.trans c) n01, fun _ => ⟨fun c => absurd ((n32_lt (by omega) (by omega)).mp c) (by omega), fun _ => ⟨fun _ => ?_, fun c => absurd (by rw [h69]; exact (n32_lt (by omega) (by omega)).mpr hs) c⟩⟩⟩
    refine s161 w r1 r3 hs ?_
    intro m1 hT1 fd
    have rt1 := RT_fd (r := 278) r3 fd (Or.inr (by omega))
    have f : QF m m1 := QF_fd fd
    have hc : CPL m1 N := CPL_fr h (Nat.le_refl _) f
    have hg : m1 284 = m 284 := funext fun k => f _ _ (by unfold REL; omega)
    have h2' : m1 283 6 = n32 1 := by rw [f _ _ (by unfold REL; omega)]; exact h2
    refine s40 w hT1 rt1 hs ?_
    have ok := shOk_G w hs
    refine s170 ok ?_
    refine w273_0 (s242 ?_)
    rw [h2', hg, h4, code0]
    refine ⟨fun c => absurd c n01, fun _ => ?_⟩
    rw [st0 hg]
    refine s224 w hs ?_
    intro m2 f2
    obtain ⟨z1, z2⟩ := fin0 hc hg f2
    unfold shOk at ok
    rw [Bool.and_eq_true, decide_eq_true_eq] at ok
    exact ⟨fun _ => ⟨⟨rfl, z1⟩, z2⟩, fun c => absurd ok.2 c⟩

/-- the letters that a word wants and nobody carries -/
def wantG (g : PG) (s l : Nat) : Int32 := n32 (cnt (ix (g (99 + 12 * s + 2))) fun i => decide (g (99 + 12 * s + 4 + i) = n32 96 + n32 l)) - n32 (cnt (nBr g) fun b => decide (g (15 + 7 * b) = n32 l))
def missG (g : PG) (s n : Nat) : Int32 := isum n fun j => imax (n32 0) (wantG g s (j + 1))
theorem s46 {a s : Nat} {v : Int32} {Q : Int32 → XM → Prop} (w : WF g) (rt : RT m a g) (hs : s < nSt g) (h : Q (n32 (cnt (ix (g (99 + 12 * s + 2))) fun i => decide (g (99 + 12 * s + 4 + i) = n32 96 + v))) m) : VI (D + 1) 46 [vR 6 a, vI (n32 s), vI v] m Q E := by
  have a4 := w.ns
  obtain ⟨l1, l2, l3⟩ := wl w hs
  obtain ⟨q1, q2, q3, q4⟩ := rt.2 s hs
  rw [l3] at q3
  generalize hL : ix (g (99 + 12 * s + 2)) = L at h l1 l2 l3 q3 q4
  refine w46_0 (up (C := fun i => VLI (D + 1) 46 1 [(0, vR 6 a), (1, vI (n32 s)), (2, vI v), (3, vI (n32 (cnt i fun i => decide (g (99 + 12 * s + 4 + i) = n32 96 + v)))), (4, vI (n32 i))] [] m Q E) (n := L) ?_ ?_ 0 (Nat.zero_le _))
  · intro i hi ih
    refine w46_1 ?_
    simp (disch := omega) only [n32_add, n32_mul, xin_t, ix_n32, q3, q4 i (by omega), le_f, lt_f, false_implies, true_implies, not_false_eq_true, true_and]
    rw [cnt_succ] at ih
    by_cases c : g (99 + 12 * s + 4 + i) = n32 96 + v
    · rw [decide_eq_true c, if_pos rfl] at ih
      exact ⟨fun _ => ih, fun c' => absurd c c'⟩
    · rw [decide_eq_false c, if_neg (by decide)] at ih
      exact ⟨fun c' => absurd c' c, fun _ => ih⟩
  · refine w46_1 ?_
    rw [ix_n32 (show s < 2147483648 by omega), q3]
    exact ⟨xin_n (by omega) (by omega), fun _ => h, fun c => absurd (n32_rfl _) c⟩
theorem t109 {s : Nat} {Q : Int32 → XM → Prop} (w : WF g) (r : RS m 29 g) (rt : RT m 69 g) (hs : s < nSt g) (h : Q (missG g s 26) m) : VLI (D + 2) 109 1 [(0, vR 10 0), (1, vI (n32 s)), (2, vI (n32 0)), (3, vI (n32 1))] [] m Q E := by
  have a2 := w.nb
  refine up (C := fun i => VLI (D + 2) 109 1 [(0, vR 10 0), (1, vI (n32 s)), (2, vI (missG g s i)), (3, vI (n32 (i + 1)))] [] m Q E) (n := 26) ?_ ?_ 0 (Nat.zero_le _)
  · intro i hi ih
    refine w109_1 ?_
    simp (disch := omega) only [lt_f, n32_add, false_implies, true_implies, not_false_eq_true, true_and]
    refine s46 w rt hs ?_
    refine s56 (n := nBr g) (by rw [r.nb]; exact w.1.1) a2 ?_
    refine s385 ?_
    have e : cnt (nBr g) (fun k => decide (m (29 + 3 + 5) k = n32 (i + 1))) = cnt (nBr g) (fun b => decide (g (15 + 7 * b) = n32 (i + 1))) := cnt_congr fun b hb => by rw [r.ban hb]
    rw [e]
    exact ih
  · exact w109_1 ⟨fun _ => h, fun c => absurd ((n32_lt (by omega) (by omega)).mpr (by omega)) c⟩
theorem n32_sub1 (x : Int32) (b : Nat) : x - n32 b - n32 1 = x - n32 (b + 1) := by
  rw [← n32_add, Int32.sub_eq_add_neg, Int32.sub_eq_add_neg, Int32.sub_eq_add_neg, Int32.neg_add, Int32.sub_eq_add_neg, Int32.add_assoc]
theorem n32_sub0 (x : Int32) : x - n32 0 = x := Int32.sub_zero x
theorem t274_11 {s l : Nat} {A z : Int32} {Q : Int32 → XM → Prop} (w : WF g) (_hl : l < 30) (h : VLI (D + 3) 274 3 [(0, vR 11 283), (1, vI (n32 s)), (2, vI (z + imax (n32 0) (A - n32 (cnt (nBr g) fun b => decide (g (15 + 7 * b) = n32 l))))), (3, vI (n32 l + n32 1))] [] (smg m g) Q E) : VLI (D + 3) 274 11 [(0, vR 11 283), (1, vI (n32 s)), (2, vI z), (3, vI (n32 l)), (4, vI A), (5, vI (n32 0))] [] (smg m g) Q E := by
  have a2 := w.nb
  have h6 := w.1.1
  have go : VLI (D + 3) 274 11 [(0, vR 11 283), (1, vI (n32 s)), (2, vI z), (3, vI (n32 l)), (4, vI (A - n32 (cnt 0 fun b => decide (g (15 + 7 * b) = n32 l)))), (5, vI (n32 0))] [] (smg m g) Q E := by
    refine up (C := fun i => VLI (D + 3) 274 11 [(0, vR 11 283), (1, vI (n32 s)), (2, vI z), (3, vI (n32 l)), (4, vI (A - n32 (cnt i fun b => decide (g (15 + 7 * b) = n32 l)))), (5, vI (n32 i))] [] (smg m g) Q E) (n := nBr g) ?_ ?_ 0 (Nat.zero_le _)
    · intro i hi ih
      refine w274_11 ?_
      simp (disch := omega) only [h6, smg_at, n32_mul, n32_add, Nat.add_zero, le_f, xin_t, ix_n32, n32_sub1, n32_sub0, false_implies, true_implies, not_false_eq_true, true_and]
      rw [cnt_succ] at ih
      by_cases c : g (15 + 7 * i) = n32 l
      · rw [decide_eq_true c, if_pos rfl] at ih
        exact ⟨fun _ => ih, fun c' => absurd c c'⟩
      · rw [decide_eq_false c, if_neg (by decide)] at ih
        exact ⟨fun c' => absurd c' c, fun _ => ih⟩
    · refine w274_11 ?_
      simp (disch := omega) only [h6, smg_at, ix_n32]
      exact ⟨fun _ => s385 h, fun c => absurd (n32_rfl _) c⟩
  have e : A - n32 (cnt 0 fun b => decide (g (15 + 7 * b) = n32 l)) = A := n32_sub0 A
  rw [e] at go
  exact go
theorem t274_5 {s l : Nat} {z : Int32} {Q : Int32 → XM → Prop} (w : WF g) (hs : s < nSt g) (hl : l < 30) (h : VLI (D + 3) 274 3 [(0, vR 11 283), (1, vI (n32 s)), (2, vI (z + imax (n32 0) (wantG g s l))), (3, vI (n32 l + n32 1))] [] (smg m g) Q E) : VLI (D + 3) 274 5 [(0, vR 11 283), (1, vI (n32 s)), (2, vI z), (3, vI (n32 l)), (4, vI (n32 0)), (5, vI (n32 0))] [] (smg m g) Q E := by
  have a4 := w.ns
  obtain ⟨l1, l2, l3⟩ := wl w hs
  unfold wantG at h
  generalize hL : ix (g (99 + 12 * s + 2)) = L at h l1 l2 l3
  refine up (C := fun i => VLI (D + 3) 274 5 [(0, vR 11 283), (1, vI (n32 s)), (2, vI z), (3, vI (n32 l)), (4, vI (n32 (cnt i fun i => decide (g (99 + 12 * s + 4 + i) = n32 96 + n32 l)))), (5, vI (n32 i))] [] (smg m g) Q E) (n := L) ?_ ?_ 0 (Nat.zero_le _)
  · intro i hi ih
    refine w274_5 ?_
    have e4 : 99 + 12 * s + (4 + i) = 99 + 12 * s + 4 + i := by omega
    rw [cnt_succ] at ih
    rw [n32_add 4 i, n32_mul, n32_add, n32_add, n32_add, e4, ix_n32 (show 99 + 12 * s + 2 < 2147483648 by omega), ix_n32 (show 99 + 12 * s + 4 + i < 2147483648 by omega), smg_at, smg_at, l3]
    refine ⟨xin_n (by omega) (by omega), fun c => absurd ((n32_le (by omega) (by omega)).mp c) (by omega), fun _ => ⟨xin_n (by omega) (by omega), fun c => ?_, fun c => ?_⟩⟩
    · rw [decide_eq_true c, if_pos rfl] at ih
      rw [n32_add, n32_add]
      exact ih
    · rw [decide_eq_false c, if_neg (by decide)] at ih
      rw [n32_add, n32_add]
      exact ih
  · refine w274_5 ?_
    simp (disch := omega) only [smg_at, n32_mul, n32_add, xin_t, ix_n32, l3, true_and]
    exact ⟨fun _ => t274_11 w hl h, fun c => absurd (n32_rfl _) c⟩
theorem t274 {s : Nat} {Q : Int32 → XM → Prop} (w : WF g) (hs : s < nSt g) (h : Q (missG g s 26) (smg m g)) : VLI (D + 3) 274 3 [(0, vR 11 283), (1, vI (n32 s)), (2, vI (n32 0)), (3, vI (n32 1))] [] (smg m g) Q E := by
  refine up (C := fun i => VLI (D + 3) 274 3 [(0, vR 11 283), (1, vI (n32 s)), (2, vI (missG g s i)), (3, vI (n32 (i + 1)))] [] (smg m g) Q E) (n := 26) ?_ ?_ 0 (Nat.zero_le _)
  · intro i hi ih
    refine w274_3 ⟨fun c => absurd ((n32_lt (by omega) (by omega)).mp c) (by omega), fun _ => ?_⟩
    refine t274_5 w hs (by omega) ?_
    rw [n32_add]
    exact ih
  · exact w274_3 ⟨fun _ => h, fun c => absurd ((n32_lt (by omega) (by omega)).mpr (by omega)) c⟩
theorem p_missing {v : Int32} {N : Nat} (h : CPL m N) : PRI (D + 12) 109 274 [vR 10 0, vI v] [vR 11 283, vI v] mpSPA m N := by
  unfold PRI
  rcases stand_cases h v with ⟨h1, h2⟩ | ⟨h1, h2, h3, h4⟩ | ⟨h1, h2, hS, s, hs, rfl, h69, h4⟩
  · refine w109_0 ⟨fun _ => ?_, fun c => absurd h1 c⟩
    refine w274_0 (s242 ?_)
    rw [h2]
    exact ⟨fun _ => ⟨⟨um_eq _ _ _ _, by decide, by decide⟩, CPL_th h⟩, fun c => absurd rfl c⟩
  · have rb : VI (D + 12) 274 [vR 11 283, vI v] m (fun _ m2 => (m2 283 0 = n32 (mpSPA 2) ∧ 1 ≤ mpSPA 2 ∧ mpSPA 2 ≤ 3) ∧ CPL m2 N) (fun _ _ => False) := by
      refine w274_0 (s242 ?_)
      rw [h2, h4]
      exact ⟨fun _ => ⟨⟨um_eq _ _ _ _, by decide, by decide⟩, CPL_th h⟩, fun c => absurd rfl c⟩
    refine w109_0 ⟨fun c => absurd (h1.symm.trans c) n01, fun _ => ⟨fun _ => rb, fun c => ⟨fun c2 => ?_, fun _ => rb⟩⟩⟩
    rcases h3 with h3 | h3
    · exact absurd h3 c
    · exact absurd c2 h3
  · obtain ⟨r1, r2, r3, T, hT, si⟩ := hS
    have w := si.w
    have a2 := w.nb
    have a4 := w.ns
    obtain ⟨x1, x2⟩ := fin1 h (show m 284 = m 284 from rfl)
    refine w109_0 ⟨fun c => absurd (h1.symm.trans c) n01, fun _ => ⟨fun c => absurd ((n32_lt (by omega) (by omega)).mp c) (by omega), fun _ => ⟨fun _ => ?_, fun c => absurd (by rw [h69]; exact (n32_lt (by omega) (by omega)).mpr hs) c⟩⟩⟩
    refine t109 w r1 r3 hs ?_
    refine w274_0 (s242 ?_)
    rw [h2, h4, code0]
    refine ⟨fun c => absurd c n01, fun _ => ?_⟩
    rw [st0 (show m 284 = m 284 from rfl)]
    refine t274 w hs ?_
    exact ⟨⟨rfl, x1⟩, x2⟩

theorem txc (g : PG) (s i : Nat) : (txG g s (i + 1)).2.1 = (if seesG g s (ordG g s i) = true then (txG g s i).2.1 + 1 else (txG g s i).2.1) ∧ (txG g s (i + 1)).2.2.2 = (if seesG g s (ordG g s i) = true then (fun j => if j = (txG g s i).2.1 then ordG g s i else (txG g s i).2.2.2 j) else (txG g s i).2.2.2) := by
  have e : txG g s (i + 1) = txStep g s i (txG g s i) := rfl
  rw [e]
  generalize txG g s i = t
  unfold txStep
  by_cases c : seesG g s (ordG g s i) = true
  · rw [if_pos c, if_pos c, if_pos c]
    by_cases c2 : gapG g t (ordG g s i) = true
    · rw [if_pos c2]; exact ⟨rfl, rfl⟩
    · rw [if_neg c2]; exact ⟨rfl, rfl⟩
  · rw [if_neg c, if_neg c, if_neg c]; exact ⟨rfl, rfl⟩
theorem tx_keep (g : PG) (s i k : Nat) (h : k < (txG g s i).2.1) : ∀ d, k < (txG g s (i + d)).2.1 ∧ (txG g s (i + d)).2.2.2 k = (txG g s i).2.2.2 k := by
  intro d
  induction d with
  | zero => exact ⟨h, rfl⟩
  | succ d ih =>
    obtain ⟨h1, h2⟩ := ih
    obtain ⟨e1, e2⟩ := txc g s (i + d)
    rw [← Nat.add_assoc, e1, e2]
    by_cases c : seesG g s (ordG g s (i + d)) = true
    · rw [if_pos c, if_pos c]
      refine ⟨by omega, ?_⟩
      show (if k = (txG g s (i + d)).2.1 then _ else _) = _
      rw [if_neg (by omega)]; exact h2
    · rw [if_neg c, if_neg c]; exact ⟨h1, h2⟩
def oneG (g : PG) (s k : Nat) : Int32 := if k < (txA g s).2.1 then n32 ((txA g s).2.2.2 k) else -(n32 1)
theorem t261 {s k : Nat} {Q : Int32 → XM → Prop} (w : WF g) (hs : s < nSt g) (hk : k < 2147483648) (h : Q (oneG g s k) (smg m g)) : ∀ r i, i + r = nBr g → (txG g s i).2.1 ≤ k → VLI (D + 2) 261 1 [(0, vR 11 283), (1, vI (n32 s)), (3, vI (n32 (k - (txG g s i).2.1))), (4, vI (n32 i))] [] (smg m g) Q E := by
  have a2 := w.nb
  have a4 := w.ns
  have h6 := w.1.1
  obtain ⟨sd, sd1, sd2, sd3⟩ := (w.st hs).1
  intro r
  induction r with
  | zero =>
    intro i hi hc
    have e : i = nBr g := by omega
    subst e
    unfold oneG txA at h
    rw [if_neg (by omega)] at h
    refine w261_1 ?_
    simp (disch := omega) only [smg_at, ix_n32, h6]
    exact ⟨fun _ => h, fun c => absurd (n32_rfl _) c⟩
  | succ r ih =>
    intro i hi hc
    obtain ⟨e1, e2⟩ := txc g s i
    have key : ∀ b, b = ordG g s i → VI (D + 1) 219 [vR 11 283, vI (n32 s), vI (n32 b)] (smg m g) (fun x1 m1 => ((x1 = (n32 0) → VLI (D + 2) 261 1 [(0, vR 11 283), (1, vI (n32 s)), (3, vI (n32 (k - (txG g s i).2.1))), (4, vI (n32 (i + 1)))] [] m1 Q E) ∧ (¬ x1 = (n32 0) → ((n32 (k - (txG g s i).2.1) = (n32 0) → Q (n32 b) m1) ∧ (¬ n32 (k - (txG g s i).2.1) = (n32 0) → VLI (D + 2) 261 1 [(0, vR 11 283), (1, vI (n32 s)), (3, vI (n32 (k - (txG g s i).2.1) + (-(n32 1)))), (4, vI (n32 (i + 1)))] [] m1 Q E))))) E := by
      intro b hb
      have hbb : b < nBr g := by rw [hb]; exact ordG_lt (by omega)
      refine s219 w hs hbb ?_
      rw [← hb] at e1 e2
      by_cases c : seesG g s b = true
      · rw [if_pos c] at e1 e2 ⊢
        refine ⟨fun c => absurd c n01, fun _ => ⟨fun c3 => ?_, fun c3 => ?_⟩⟩
        · have ek : k = (txG g s i).2.1 := by
            have := n32_inj (by omega) (by omega) c3
            omega
          obtain ⟨k1, k2⟩ := tx_keep g s (i + 1) k (by rw [e1]; omega) (nBr g - (i + 1))
          rw [show i + 1 + (nBr g - (i + 1)) = nBr g by omega] at k1 k2
          unfold oneG txA at h
          rw [if_pos k1, k2, e2] at h
          have e3 : (if k = (txG g s i).2.1 then b else (txG g s i).2.2.2 k) = b := if_pos ek
          dsimp only at h
          rw [e3] at h
          exact h
        · have : ¬ k - (txG g s i).2.1 = 0 := fun e => c3 (by rw [e])
          rw [n32_dec (by omega), show k - (txG g s i).2.1 - 1 = k - (txG g s (i + 1)).2.1 by omega]
          exact ih (i + 1) (by omega) (by omega)
      · rw [if_neg c] at e1 e2 ⊢
        refine ⟨fun _ => ?_, fun c => absurd rfl c⟩
        rw [← e1]
        exact ih (i + 1) (by omega) (by omega)
    refine w261_1 ?_
    simp (disch := omega) only [h6, smg_at, n32_mul, n32_add, n32_sub, Nat.add_zero, xin_t, ix_n32, le_f, false_implies, true_implies, not_false_eq_true, true_and]
    refine ⟨fun c => ?_, fun c => ?_⟩
    · exact key i (by unfold ordG; rw [if_pos c])
    · exact key (nBr g - 1 - i) (by unfold ordG; rw [if_neg c])
theorem p_seenAt {v v2 : Int32} {N : Nat} (h : CPL m N) : PRI (D + 12) 110 262 [vR 10 0, vI v, vI v2] [vR 11 283, vI v, vI v2] mpSPA m N := by
  unfold PRI
  rcases stand_cases h v with ⟨h1, h2⟩ | ⟨h1, h2, h3, h4⟩ | ⟨h1, h2, hS, s, hs, rfl, h69, h4⟩
  · refine w110_0 ⟨fun _ => ?_, fun c => absurd h1 c⟩
    refine w262_0 (s242 ?_)
    rw [h2]
    exact ⟨fun _ => ⟨⟨um_eq _ _ _ _, by decide, by decide⟩, CPL_th h⟩, fun c => absurd rfl c⟩
  · have rb : VI (D + 12) 262 [vR 11 283, vI v, vI v2] m (fun _ m2 => (m2 283 0 = n32 (mpSPA 2) ∧ 1 ≤ mpSPA 2 ∧ mpSPA 2 ≤ 3) ∧ CPL m2 N) (fun _ _ => False) := by
      refine w262_0 (s242 ?_)
      rw [h2, h4]
      exact ⟨fun _ => ⟨⟨um_eq _ _ _ _, by decide, by decide⟩, CPL_th h⟩, fun c => absurd rfl c⟩
    refine w110_0 ⟨fun c => absurd (h1.symm.trans c) n01, fun _ => ⟨fun _ => rb, fun c => ⟨fun c2 => ?_, fun _ => rb⟩⟩⟩
    rcases h3 with h3 | h3
    · exact absurd h3 c
    · exact absurd c2 h3
  · obtain ⟨r1, r2, r3, T, hT, si⟩ := hS
    have w := si.w
    have a2 := w.nb
    have a4 := w.ns
    obtain ⟨x1, x2⟩ := fin1 h (show m 284 = m 284 from rfl)
    refine w110_0 ⟨fun c => absurd (h1.symm.trans c) n01, fun _ => ⟨fun c => absurd ((n32_lt (by omega) (by omega)).mp c) (by omega), fun _ => ⟨fun _ => ?_, fun c => absurd (by rw [h69]; exact (n32_lt (by omega) (by omega)).mpr hs) c⟩⟩⟩
    refine s161 w r1 r3 hs ?_
    intro m1 hT1 fd
    have rt1 := RT_fd (r := 278) r3 fd (Or.inr (by omega))
    have f : QF m m1 := QF_fd fd
    have hc : CPL m1 N := CPL_fr h (Nat.le_refl _) f
    have hg : m1 284 = m 284 := funext fun k => f _ _ (by unfold REL; omega)
    have h2' : m1 283 6 = n32 1 := by rw [f _ _ (by unfold REL; omega)]; exact h2
    have tl := txG_ok (m 284) s (nBr (m 284)) (Nat.le_refl _)
    rcases idx_cases v2 (n := (txA (m 284) s).2.1) (by unfold txA; have := tl.1; omega) with c1 | ⟨c1, c2, c3⟩ | ⟨i, hi, rfl⟩
    · refine ⟨fun _ => ?_, fun c => absurd c1 c⟩
      refine w262_0 (s242 ?_)
      rw [h2', hg, h4, code0]
      refine ⟨fun c => absurd c n01, fun _ => ?_⟩
      rw [st0 hg]
      refine ⟨fun c => absurd (Int32.not_lt.mpr c) (fun e => e c1), fun _ => ?_⟩
      obtain ⟨z1, z2⟩ := fin1 hc hg
      exact ⟨⟨rfl, z1⟩, z2⟩
    · refine ⟨fun c => absurd c c1, fun _ => ?_⟩
      rw [hT1.2.1]
      refine ⟨fun _ => ?_, fun c => absurd c2 c⟩
      refine w262_0 (s242 ?_)
      rw [h2', hg, h4, code0]
      refine ⟨fun c => absurd c n01, fun _ => ?_⟩
      rw [st0 hg]
      refine ⟨fun _ => w261_0 ?_, fun c => absurd (Int32.not_lt.mp c1) c⟩
      obtain ⟨z1, z2⟩ := fin1 hc hg
      have c1' := Int32.not_lt.mp c1
      rw [Int32.le_iff_toInt_le, n32_toInt (by omega)] at c1'
      have ev : v2 = n32 v2.toInt.toNat := by
        apply Int32.toInt_inj.mp
        have := Int32.toInt_lt v2
        rw [n32_toInt (by omega)]; omega
      have hk : v2.toInt.toNat < 2147483648 := by
        have := Int32.toInt_lt v2
        omega
      generalize v2.toInt.toNat = k at ev hk
      subst ev
      have hkn : ¬ k < (txA (m 284) s).2.1 := by
        have t1 := tl.1
        have := (n32_le (by unfold txA; omega) hk).mp c2
        omega
      have := t261 (D := D + 9) (m := um m1 283 0 (n32 0)) (E := fun _ _ => False) (s := s) (k := k) (Q := fun r2 m2 => (-(n32 1) = r2 ∧ m2 283 0 = n32 0) ∧ CPL m2 N) w hs hk (by
        unfold oneG
        rw [if_neg hkn]
        exact ⟨⟨rfl, z1⟩, z2⟩) (nBr (m 284)) 0 (by omega) (Nat.zero_le _)
      exact this
    · have t1 := tl.1
      have i12 : i < 12 := by unfold txA at hi; omega
      rw [hT1.2.1]
      simp (disch := omega) only [xin_t, ix_n32, hT1.2.2.2 i hi, lt_f, le_f, false_implies, true_implies, not_false_eq_true, true_and]
      refine w262_0 (s242 ?_)
      rw [h2', hg, h4, code0]
      refine ⟨fun c => absurd c n01, fun _ => ?_⟩
      rw [st0 hg]
      refine ⟨fun _ => w261_0 ?_, fun c => absurd ((n32_le (by omega) (by omega)).mpr (Nat.zero_le _)) c⟩
      obtain ⟨z1, z2⟩ := fin1 hc hg
      have := t261 (D := D + 9) (m := um m1 283 0 (n32 0)) (E := fun _ _ => False) (s := s) (k := i) (Q := fun r2 m2 => (n32 ((txA (m 284) s).2.2.2 i) = r2 ∧ m2 283 0 = n32 0) ∧ CPL m2 N) w hs (by omega) (by
        unfold oneG
        rw [if_pos hi]
        exact ⟨⟨rfl, z1⟩, z2⟩) (nBr (m 284)) 0 (by omega) (Nat.zero_le _)
      exact this

/-- the bytes of a text are letters but for its blanks -/
def blkG (t : TX) : Prop := cnt t.1 (fun j => decide (t.2.2.1 j = n32 32)) + t.2.1 = t.1
theorem cnt_old {n : Nat} {f : Nat → Int32} {v : Int32} : cnt n (fun j => decide ((if j = n then v else f j) = n32 32)) = cnt n (fun j => decide (f j = n32 32)) := cnt_congr fun i hi => by rw [if_neg (by omega)]
theorem blk_1 {t : TX} {v : Int32} {b : Nat} (h : blkG t) (hv : ¬ v = n32 32) : blkG (tx1 t v b) := by
  unfold blkG tx1 at *
  dsimp only
  rw [cnt_succ, cnt_old, if_pos rfl, decide_eq_false hv, if_neg (by decide)]
  omega
theorem blk_0 {t : TX} (h : blkG t) : blkG (tx0 t) := by
  unfold blkG tx0 at *
  dsimp only
  rw [cnt_succ, cnt_old, if_pos rfl, decide_eq_true rfl, if_pos rfl]
  omega
theorem blk_G {g : PG} (w : WF g) (s : Nat) : ∀ k, k ≤ nBr g → blkG (txG g s k) := by
  intro k
  induction k with
  | zero => intro _; rfl
  | succ k ih =>
    intro hk
    have e : txG g s (k + 1) = txStep g s k (txG g s k) := rfl
    have ih := ih (by omega)
    rw [e]
    generalize txG g s k = t at ih
    have hv : ¬ n32 96 + g (15 + 7 * ordG g s k) = n32 32 := by
      obtain ⟨n, h1, h2, h3⟩ := w.b0 (ordG_lt (s := s) (show k < nBr g by omega))
      rw [h3, n32_add]
      exact n32_ne (by omega) (by omega) (by omega)
    unfold txStep
    split
    · split
      · exact blk_1 (blk_0 ih) hv
      · exact blk_1 ih hv
    · exact ih
theorem t263 {t : TX} {Q : Int32 → XM → Prop} (hT : TXF m t) (tl : t.1 ≤ 24) (h : Q (n32 (cnt t.1 (fun j => decide (t.2.2.1 j = n32 32)))) (smg m g)) : VLI (D + 3) 263 3 [(0, vR 11 283), (2, vI (n32 0)), (3, vI (n32 0))] [] (smg m g) Q E := by
  obtain ⟨t1, t2⟩ := hT
  refine up (C := fun i => VLI (D + 3) 263 3 [(0, vR 11 283), (2, vI (n32 (cnt i (fun j => decide (t.2.2.1 j = n32 32))))), (3, vI (n32 i))] [] (smg m g) Q E) (n := t.1) ?_ ?_ 0 (Nat.zero_le _)
  · intro i hi ih
    refine w263_3 ?_
    simp (disch := omega) only [smg_ne, t1, t2 i hi, n32_add, Nat.add_zero, xin_t, ix_n32, le_f, false_implies, true_implies, not_false_eq_true, true_and]
    rw [cnt_succ] at ih
    by_cases c : t.2.2.1 i = n32 32
    · rw [decide_eq_true c, if_pos rfl] at ih
      exact ⟨fun _ => ih, fun c' => absurd c c'⟩
    · rw [decide_eq_false c, if_neg (by decide)] at ih
      exact ⟨fun c' => absurd c' c, fun _ => ih⟩
  · refine w263_3 ?_
    rw [smg_ne (by omega), t1]
    exact ⟨fun _ => h, fun c => absurd (n32_rfl _) c⟩
theorem p_blanks {v : Int32} {N : Nat} (h : CPL m N) : PRI (D + 12) 111 263 [vR 10 0, vI v] [vR 11 283, vI v] mpSPA m N := by
  unfold PRI
  rcases stand_cases h v with ⟨h1, h2⟩ | ⟨h1, h2, h3, h4⟩ | ⟨h1, h2, hS, s, hs, rfl, h69, h4⟩
  · refine w111_0 ⟨fun _ => ?_, fun c => absurd h1 c⟩
    refine w263_0 (s242 ?_)
    rw [h2]
    exact ⟨fun _ => ⟨⟨um_eq _ _ _ _, by decide, by decide⟩, CPL_th h⟩, fun c => absurd rfl c⟩
  · have rb : VI (D + 12) 263 [vR 11 283, vI v] m (fun _ m2 => (m2 283 0 = n32 (mpSPA 2) ∧ 1 ≤ mpSPA 2 ∧ mpSPA 2 ≤ 3) ∧ CPL m2 N) (fun _ _ => False) := by
      refine w263_0 (s242 ?_)
      rw [h2, h4]
      exact ⟨fun _ => ⟨⟨um_eq _ _ _ _, by decide, by decide⟩, CPL_th h⟩, fun c => absurd rfl c⟩
    refine w111_0 ⟨fun c => absurd (h1.symm.trans c) n01, fun _ => ⟨fun _ => rb, fun c => ⟨fun c2 => ?_, fun _ => rb⟩⟩⟩
    rcases h3 with h3 | h3
    · exact absurd h3 c
    · exact absurd c2 h3
  · obtain ⟨r1, r2, r3, T, hT, si⟩ := hS
    have w := si.w
    have a2 := w.nb
    have a4 := w.ns
    obtain ⟨x1, x2⟩ := fin1 h (show m 284 = m 284 from rfl)
    refine w111_0 ⟨fun c => absurd (h1.symm.trans c) n01, fun _ => ⟨fun c => absurd ((n32_lt (by omega) (by omega)).mp c) (by omega), fun _ => ⟨fun _ => ?_, fun c => absurd (by rw [h69]; exact (n32_lt (by omega) (by omega)).mpr hs) c⟩⟩⟩
    refine s161 w r1 r3 hs ?_
    intro m1 hT1 fd
    have rt1 := RT_fd (r := 278) r3 fd (Or.inr (by omega))
    have f : QF m m1 := QF_fd fd
    have hc : CPL m1 N := CPL_fr h (Nat.le_refl _) f
    have hg : m1 284 = m 284 := funext fun k => f _ _ (by unfold REL; omega)
    have h2' : m1 283 6 = n32 1 := by rw [f _ _ (by unfold REL; omega)]; exact h2
    rw [hT1.1, hT1.2.1]
    refine w263_0 (s242 ?_)
    rw [h2', hg, h4, code0]
    refine ⟨fun c => absurd c n01, fun _ => ?_⟩
    rw [st0 hg]
    refine s220 w hs ?_
    intro m2 f2 hT2
    obtain ⟨z1, z2⟩ := fin0 hc hg f2
    have tl := tx_len w s
    have bk : blkG (txA (m 284) s) := blk_G w s (nBr (m 284)) (Nat.le_refl _)
    have ok := txG_ok (m 284) s (nBr (m 284)) (Nat.le_refl _)
    refine t263 hT2 tl ?_
    refine ⟨⟨?_, z1⟩, z2⟩
    unfold blkG at bk
    rw [n32_sub (show (txA (m 284) s).2.1 ≤ (txA (m 284) s).1 by omega)]
    congr 1
    omega

/-- the first of r numbers from i on that is so, or the one behind them -/
def fps (p : Nat → Bool) : Nat → Nat → Nat
  | 0, i => i
  | r + 1, i => if p i = true then i else fps p r (i + 1)
theorem fps_succ (p : Nat → Bool) (r i : Nat) : fps p (r + 1) i = if p i = true then i else fps p r (i + 1) := by rw [fps]
def difG (g : PG) (s i : Nat) : Bool := decide (¬ (txA g s).2.2.1 i = g (99 + 12 * s + 4 + i))
theorem s38 {r rt s : Nat} {Q : Int32 → XM → Prop} (w : WF g) (hT : RR m r (txA g s)) (rr : RT m rt g) (hs : s < nSt g) (h : Q (n32 (fps (difG g s) (min (txA g s).1 (ix (g (99 + 12 * s + 2)))) 0)) m) : VI (D + 1) 38 [vR 5 r, vR 6 rt, vI (n32 s)] m Q E := by
  have a4 := w.ns
  obtain ⟨h1, h2, h3, h4⟩ := hT
  obtain ⟨q1, q2, q3, q4⟩ := rr.2 s hs
  obtain ⟨l1, l2, l3⟩ := wl w hs
  have tl := tx_len w s
  rw [l3] at q3
  generalize hL : ix (g (99 + 12 * s + 2)) = L at h l1 l2 l3 q3 q4
  refine w38_0 ?_
  rw [ix_n32 (show s < 2147483648 by omega), h1, q3]
  refine ⟨xin_n (by omega) (by omega), s386 ?_⟩
  rw [imin_n (by omega) (by omega)]
  have key : ∀ q i, i + q = min (txA g s).1 L → Q (n32 (fps (difG g s) q i)) m → VLI (D + 1) 38 1 [(0, vR 5 r), (1, vR 6 rt), (2, vI (n32 s)), (3, vI (n32 (min (txA g s).1 L))), (4, vI (n32 i))] [] m Q E := by
    intro q
    induction q with
    | zero =>
      intro i hi hq
      have e : i = min (txA g s).1 L := by omega
      subst e
      exact w38_1 ⟨fun _ => hq, fun c => absurd (n32_rfl _) c⟩
    | succ q ih =>
      intro i hi hq
      rw [fps_succ] at hq
      refine w38_1 ?_
      rw [ix_n32 (show s < 2147483648 by omega), q3]
      simp (disch := omega) only [n32_add, n32_mul, xin_t, ix_n32, h3 i (by omega), q4 i (by omega), le_f, lt_f, false_implies, true_implies, not_false_eq_true, true_and]
      by_cases c : (txA g s).2.2.1 i = g (99 + 12 * s + 4 + i)
      · have e : difG g s i = false := decide_eq_false (fun e => e c)
        rw [e, if_neg (by decide)] at hq
        exact ⟨fun _ => ih (i + 1) (by omega) hq, fun c' => absurd c c'⟩
      · have e : difG g s i = true := decide_eq_true c
        rw [e, if_pos rfl] at hq
        exact ⟨fun c' => absurd c' c, fun _ => hq⟩
  exact key _ 0 (by omega) h
theorem t264 {s : Nat} {Q : Int32 → XM → Prop} (w : WF g) (hs : s < nSt g) (hT : TXF m (txA g s)) (h : Q (n32 (fps (difG g s) (min (txA g s).1 (ix (g (99 + 12 * s + 2)))) 0)) (smg m g)) : VLI (D + 3) 264 3 [(0, vR 11 283), (1, vI (n32 s)), (2, vI (n32 0))] [] (smg m g) Q E := by
  have a4 := w.ns
  obtain ⟨t1, t2⟩ := hT
  obtain ⟨l1, l2, l3⟩ := wl w hs
  have tl := tx_len w s
  generalize hL : ix (g (99 + 12 * s + 2)) = L at h l1 l2 l3
  have key : ∀ q i, i + q = min (txA g s).1 L → Q (n32 (fps (difG g s) q i)) (smg m g) → VLI (D + 3) 264 3 [(0, vR 11 283), (1, vI (n32 s)), (2, vI (n32 i))] [] (smg m g) Q E := by
    intro q
    induction q with
    | zero =>
      intro i hi hq
      refine w264_3 ?_
      simp (disch := omega) only [smg_at, smg_ne, t1, n32_mul, n32_add, xin_t, ix_n32, l3, true_and]
      by_cases c : (txA g s).1 ≤ L
      · have e : i = (txA g s).1 := by omega
        exact ⟨fun _ => hq, fun c => absurd (by rw [e]; exact n32_rfl _) c⟩
      · have e : i = L := by omega
        exact ⟨fun _ => hq, fun _ => ⟨fun _ => hq, fun c => absurd (by rw [e]; exact n32_rfl _) c⟩⟩
    | succ q ih =>
      intro i hi hq
      rw [fps_succ] at hq
      refine w264_3 ?_
      simp (disch := omega) only [smg_at, smg_ne, t1, t2 i (by omega), n32_mul, n32_add, xin_t, ix_n32, l3, le_f, false_implies, true_implies, not_false_eq_true, true_and]
      rw [show 99 + 12 * s + (4 + i) = 99 + 12 * s + 4 + i by omega]
      by_cases c : (txA g s).2.2.1 i = g (99 + 12 * s + 4 + i)
      · have e : difG g s i = false := decide_eq_false (fun e => e c)
        rw [e, if_neg (by decide)] at hq
        exact ⟨fun _ => ih (i + 1) (by omega) hq, fun c' => absurd c c'⟩
      · have e : difG g s i = true := decide_eq_true c
        rw [e, if_pos rfl] at hq
        exact ⟨fun c' => absurd c' c, fun _ => hq⟩
  exact key _ 0 (by omega) h
theorem p_alst {v : Int32} {N : Nat} (h : CPL m N) : PRI (D + 12) 112 264 [vR 10 0, vI v] [vR 11 283, vI v] mpSPA m N := by
  unfold PRI
  rcases stand_cases h v with ⟨h1, h2⟩ | ⟨h1, h2, h3, h4⟩ | ⟨h1, h2, hS, s, hs, rfl, h69, h4⟩
  · refine w112_0 ⟨fun _ => ?_, fun c => absurd h1 c⟩
    refine w264_0 (s242 ?_)
    rw [h2]
    exact ⟨fun _ => ⟨⟨um_eq _ _ _ _, by decide, by decide⟩, CPL_th h⟩, fun c => absurd rfl c⟩
  · have rb : VI (D + 12) 264 [vR 11 283, vI v] m (fun _ m2 => (m2 283 0 = n32 (mpSPA 2) ∧ 1 ≤ mpSPA 2 ∧ mpSPA 2 ≤ 3) ∧ CPL m2 N) (fun _ _ => False) := by
      refine w264_0 (s242 ?_)
      rw [h2, h4]
      exact ⟨fun _ => ⟨⟨um_eq _ _ _ _, by decide, by decide⟩, CPL_th h⟩, fun c => absurd rfl c⟩
    refine w112_0 ⟨fun c => absurd (h1.symm.trans c) n01, fun _ => ⟨fun _ => rb, fun c => ⟨fun c2 => ?_, fun _ => rb⟩⟩⟩
    rcases h3 with h3 | h3
    · exact absurd h3 c
    · exact absurd c2 h3
  · obtain ⟨r1, r2, r3, T, hT, si⟩ := hS
    have w := si.w
    have a2 := w.nb
    have a4 := w.ns
    obtain ⟨x1, x2⟩ := fin1 h (show m 284 = m 284 from rfl)
    refine w112_0 ⟨fun c => absurd (h1.symm.trans c) n01, fun _ => ⟨fun c => absurd ((n32_lt (by omega) (by omega)).mp c) (by omega), fun _ => ⟨fun _ => ?_, fun c => absurd (by rw [h69]; exact (n32_lt (by omega) (by omega)).mpr hs) c⟩⟩⟩
    refine s161 w r1 r3 hs ?_
    intro m1 hT1 fd
    have rt1 := RT_fd (r := 278) r3 fd (Or.inr (by omega))
    have f : QF m m1 := QF_fd fd
    have hc : CPL m1 N := CPL_fr h (Nat.le_refl _) f
    have hg : m1 284 = m 284 := funext fun k => f _ _ (by unfold REL; omega)
    have h2' : m1 283 6 = n32 1 := by rw [f _ _ (by unfold REL; omega)]; exact h2
    refine s38 w hT1 rt1 hs ?_
    refine w264_0 (s242 ?_)
    rw [h2', hg, h4, code0]
    refine ⟨fun c => absurd c n01, fun _ => ?_⟩
    rw [st0 hg]
    refine s220 w hs ?_
    intro m2 f2 hT2
    obtain ⟨z1, z2⟩ := fin0 hc hg f2
    refine t264 w hs hT2 ?_
    exact ⟨⟨rfl, z1⟩, z2⟩

end S87
/-! Shares compared; pairs: what a stand's share will be, the best of them, the best swap, the best stand. -/
def shL : List UInt32 := [0, 1026206379, 1026692675, 1027223180, 1027804209, 1028443341, 1029149750, 1029934649, 1030811889, 1031798784, 1032358025, 1032997157, 1033734617, 1034594987, 1035081283, 1035611788, 1036192817, 1036831949, 1037538358, 1038323257, 1039200497, 1040187392, 1040552114, 1040746633, 1040949993, 1041385765, 1041865114, 1042123225, 1042394920, 1042983595, 1043469891, 1043641525, 1044000396, 1044381696, 1044581425, 1045220557, 1045779797, 1045926966, 1046179255, 1046387667, 1046711865, 1047050799, 1047285445, 1047589105, 1047777085, 1048576000, 1048940722, 1049017506, 1049135241, 1049338601, 1049508068, 1049774373, 1049974101, 1050056343, 1050253722, 1050399610, 1050511833, 1050673152, 1050783528, 1050863802, 1051372203, 1051858499, 1051931443, 1052030133, 1052171118, 1052389004, 1052549551, 1052770304, 1052970033, 1053092943, 1053236338, 1053609165, 1054003923, 1054168405, 1054315574, 1054567863, 1054867456, 1055100473, 1055439407, 1055674053, 1055846127, 1055977713, 1056964608, 1057523849, 1057609886, 1057727209, 1057896676, 1058162981, 1058362709, 1058642330, 1058900441, 1059061760, 1059252410, 1059760811, 1060320051, 1060559726, 1060777612, 1061158912, 1061624946, 1061997773, 1062557013, 1062956471, 1063256064, 1063489081, 1065353216, 1066551589, 1066751317, 1067030938, 1067450368, 1068149419, 1068708659, 1069547520, 1070386381, 1070945621, 1071644672, 1073741824, 1075139925, 1075838976, 1076538027, 1077936128, 1080033280, 1082130432, 1084227584, 1086324736, 1088421888, 1090519040]
def cmpL (x y : UInt32) : Int32 := Op.cmpValue (FP.fcmp x y) .l
/-- two shares compare alike by all the ways that are used -/
def shCmp (a b : UInt32) : Bool := decide (FP.fIsNaN a = false) && decide (Native.java_lang_Math.nans.pick32 true a b = if cmpL b a ≤ n32 0 then a else b) && decide (n32 0 < Op.cmpValue (FP.fcmp b a) .g ↔ ¬ cmpL b a ≤ n32 0) && decide (¬ cmpL a (UInt32.ofNat 3212836864) ≤ n32 0)
theorem shL_all : (shL.all fun a => shL.all fun b => shCmp a b) = true := by decide +kernel
theorem shL_mem : ((List.range 9).all fun n => (List.range 25).all fun d => Nat.beq d 0 || shL.contains (FP.fdiv (FP.i2f (n32 n)) (FP.i2f (n32 d)))) = true := by decide +kernel
theorem share_in {g : PG} (w : WF g) {s : Nat} (hs : s < nSt g) : shareG g s ∈ shL := by
  obtain ⟨l1, l2, l3⟩ := wl w hs
  have tl := tx_len w s
  have al := alm8 w hs
  have := List.all_eq_true.mp (List.all_eq_true.mp shL_mem (almG g s) (List.mem_range.mpr (by omega))) (max (txA g s).1 (ix (g (99 + 12 * s + 2)))) (List.mem_range.mpr (by omega))
  rw [Bool.or_eq_true] at this
  rcases this with h | h
  · exact absurd (Nat.eq_of_beq_eq_true h) (by omega)
  · exact List.contains_iff_mem.mp h
theorem sh_cmp {a b : UInt32} (ha : a ∈ shL) (hb : b ∈ shL) : FP.fIsNaN a = false ∧ Native.java_lang_Math.nans.pick32 true a b = (if cmpL b a ≤ n32 0 then a else b) ∧ (n32 0 < Op.cmpValue (FP.fcmp b a) .g ↔ ¬ cmpL b a ≤ n32 0) ∧ ¬ cmpL a (UInt32.ofNat 3212836864) ≤ n32 0 := by
  have := List.all_eq_true.mp (List.all_eq_true.mp shL_all a ha) b hb
  unfold shCmp at this
  simp only [Bool.and_eq_true, decide_eq_true_eq] at this
  exact ⟨this.1.1.1, this.1.1.2, this.1.2, this.2⟩
section S88
variable {D : Nat} {m : XM} {g : PG} {E : Nat → XM → Prop}
theorem s297 {v1 v2 : Int32} {Q : Int32 → XM → Prop} (h : Q (if codeOf (m 283 6) (inI v1 (n32 0) (m 284 7 - n32 1)) (inI v2 (n32 0) (n32 300)) = 0 then n32 1 else n32 0) (um m 283 0 (n32 (codeOf (m 283 6) (inI v1 (n32 0) (m 284 7 - n32 1)) (inI v2 (n32 0) (n32 300)))))) : VI (D + 2) 297 [vR 11 283, vI v1, vI v2] m Q E := by
  refine w297_0 ?_
  simp (disch := omega) only [ix_n32]
  unfold inI at h
  by_cases c1 : v1 < n32 0
  · rw [if_pos c1] at h
    refine ⟨fun _ => ?_, fun c => absurd c1 c⟩
    by_cases c3 : v2 < n32 0
    · rw [if_pos c3] at h
      exact ⟨fun _ => s176 ⟨xrt_if, h⟩, fun c => absurd c3 c⟩
    · rw [if_neg c3] at h
      refine ⟨fun c => absurd c c3, fun _ => ?_⟩
      by_cases c4 : n32 300 < v2
      · rw [if_pos c4] at h
        exact ⟨fun _ => s176 ⟨xrt_if, h⟩, fun c => absurd c4 c⟩
      · rw [if_neg c4] at h
        exact ⟨fun c => absurd c c4, fun _ => s176 ⟨xrt_if, h⟩⟩
  · rw [if_neg c1] at h
    refine ⟨fun c => absurd c c1, fun _ => ?_⟩
    by_cases c2 : m 284 7 - n32 1 < v1
    · rw [if_pos c2] at h
      refine ⟨fun _ => ?_, fun c => absurd c2 c⟩
      by_cases c3 : v2 < n32 0
      · rw [if_pos c3] at h
        exact ⟨fun _ => s176 ⟨xrt_if, h⟩, fun c => absurd c3 c⟩
      · rw [if_neg c3] at h
        refine ⟨fun c => absurd c c3, fun _ => ?_⟩
        by_cases c4 : n32 300 < v2
        · rw [if_pos c4] at h
          exact ⟨fun _ => s176 ⟨xrt_if, h⟩, fun c => absurd c4 c⟩
        · rw [if_neg c4] at h
          exact ⟨fun c => absurd c c4, fun _ => s176 ⟨xrt_if, h⟩⟩
    · rw [if_neg c2] at h
      refine ⟨fun c => absurd c c2, fun _ => ?_⟩
      by_cases c3 : v2 < n32 0
      · rw [if_pos c3] at h
        exact ⟨fun _ => s176 ⟨xrt_if, h⟩, fun c => absurd c3 c⟩
      · rw [if_neg c3] at h
        refine ⟨fun c => absurd c c3, fun _ => ?_⟩
        by_cases c4 : n32 300 < v2
        · rw [if_pos c4] at h
          exact ⟨fun _ => s176 ⟨xrt_if, h⟩, fun c => absurd c4 c⟩
        · rw [if_neg c4] at h
          exact ⟨fun c => absurd c c4, fun _ => s176 ⟨xrt_if, h⟩⟩
theorem p_shareIn {v1 v2 : Int32} {N : Nat} (h : CPL m N) : PRF (D + 12) 133 298 [vR 10 0, vI v1, vI v2] [vR 11 283, vI v1, vI v2] mpSPA m N := by
  unfold PRF
  have no : ∀ c, codeOf (m 283 6) (inI v1 (n32 0) (m 284 7 - n32 1)) (inI v2 (n32 0) (n32 300)) = c → 1 ≤ c → c ≤ 3 → VF (D + 12) 298 [vR 11 283, vI v1, vI v2] m (fun _ m2 => (m2 283 0 = n32 c ∧ 1 ≤ c ∧ c ≤ 3) ∧ CPL m2 N) (fun _ _ => False) := by
    intro c hc y1 y3
    have cn : ¬ c = 0 := by omega
    refine w298_0 (s297 ?_)
    rw [hc, if_neg cn]
    exact ⟨fun _ => ⟨⟨um_eq _ _ _ _, y1, y3⟩, CPL_th h⟩, fun c => absurd rfl c⟩
  rcases stand_cases h v1 with ⟨h1, h2⟩ | ⟨h1, h2, h3, h4⟩ | ⟨h1, h2, hS, s, hs, rfl, h69, h4⟩
  · exact w133_0 ⟨fun _ => no 1 (by rw [h2, code1]) (by omega) (by omega), fun c => absurd h1 c⟩
  · have rb := no 2 (by rw [h2, h4, code2]) (by omega) (by omega)
    refine w133_0 ⟨fun c => absurd (h1.symm.trans c) n01, fun _ => ⟨fun _ => rb, fun d1 => ⟨fun d2 => ?_, fun _ => rb⟩⟩⟩
    rcases h3 with h3 | h3
    · exact absurd h3 d1
    · exact absurd d2 h3
  · obtain ⟨r1, r2, r3, T, hT, si⟩ := hS
    have w := si.w
    have a2 := w.nb
    have a4 := w.ns
    have b0 : ¬ n32 s < n32 0 := by rw [n32_lt (by omega) (by omega)]; omega
    have bn : n32 s < m 69 0 := by rw [h69, n32_lt (by omega) (by omega)]; omega
    rcases rng_cases v2 300 (by omega) with ⟨d1, e1⟩ | ⟨d1, d2, e1⟩ | ⟨n, hn, rfl, e1⟩
    · exact w133_0 ⟨fun c => absurd (h1.symm.trans c) n01, fun _ => ⟨fun c => absurd c b0, fun _ => ⟨fun _ => ⟨fun _ => no 3 (by rw [h2, h4, e1, code3]) (by omega) (by omega), fun c => absurd d1 c⟩, fun c => absurd bn c⟩⟩⟩
    · exact w133_0 ⟨fun c => absurd (h1.symm.trans c) n01, fun _ => ⟨fun c => absurd c b0, fun _ => ⟨fun _ => ⟨fun c => absurd c d1, fun _ => ⟨fun _ => no 3 (by rw [h2, h4, e1, code3]) (by omega) (by omega), fun c => absurd d2 c⟩⟩, fun c => absurd bn c⟩⟩⟩
    · have n0 : ¬ n32 n < n32 0 := by rw [n32_lt (by omega) (by omega)]; omega
      have nk : ¬ n32 300 < n32 n := by rw [n32_lt (by omega) (by omega)]; omega
      refine w133_0 ⟨fun c => absurd (h1.symm.trans c) n01, fun _ => ⟨fun c => absurd c b0, fun _ => ⟨fun _ => ⟨fun c => absurd c n0, fun _ => ⟨fun c => absurd c nk, fun _ => ?_⟩⟩, fun c => absurd bn c⟩⟩⟩
      refine s163 si hT hn r1 ?_
      intro m1 rl fl
      have kk := tkn_keeps si hT n (by omega)
      have hs' : s < nSt (tkn (m 284) n) := by rw [kk.2.2.1]; exact hs
      have rt1 := RT_flr fl.r r3
      refine s162 si hT (by omega) rl rt1 hs ?_
      intro m2 hT2 fd
      have fr : FLR m m2 := fl.r.tr fd.r
      refine s40 kk.1 hT2 (RT_tkn si hT (by omega) (RT_flr fr r3)) hs' ?_
      have f := QF_flr fr
      have hc : CPL m2 N := CPL_fr h (Nat.le_refl _) f
      have hg : m2 284 = m 284 := funext fun k => f _ _ (by unfold REL; omega)
      have h2' : m2 283 6 = n32 1 := by rw [f _ _ (by unfold REL; omega)]; exact h2
      refine w298_0 (s297 ?_)
      rw [h2', hg, h4, e1, code0]
      refine ⟨fun c => absurd c n01, fun _ => ?_⟩
      rw [st0 hg]
      refine s284 (s229 si hT (by omega) ?_)
      intro m3 f3
      refine s224 kk.1 hs' ?_
      intro m4 f4
      refine s286 (asd_at (f3.tr f4)) (fun k hk => tkn_hi si hT hk n (by omega)) ?_
      obtain ⟨z1, z2⟩ := finA hc hg ((asd_rfa _ _).tr (f3.tr f4).a)
      exact ⟨⟨rfl, z1⟩, z2⟩

/-- the best share within n ticks -/
def bshG (g : PG) (s : Nat) : Nat → UInt32
  | 0 => shareG g s
  | n + 1 => if cmpL (shareG (tkn g (n + 1)) s) (bshG g s n) ≤ n32 0 then bshG g s n else shareG (tkn g (n + 1)) s
theorem bshG_0 (g : PG) (s : Nat) : bshG g s 0 = shareG g s := by rw [bshG]
theorem bshG_s (g : PG) (s n : Nat) : bshG g s (n + 1) = if cmpL (shareG (tkn g (n + 1)) s) (bshG g s n) ≤ n32 0 then bshG g s n else shareG (tkn g (n + 1)) s := by rw [bshG]
theorem bshG_in {T X s : Nat} (si : SI g T X) (hT : T ≤ 5000) (hs : s < nSt g) : ∀ n, n ≤ 4000 → bshG g s n ∈ shL := by
  intro n
  induction n with
  | zero => intro _; rw [bshG_0]; exact share_in si.w hs
  | succ n ih =>
    intro hn
    have kk := tkn_keeps si hT (n + 1) hn
    rw [bshG_s]
    split
    · exact ih (by omega)
    · exact share_in kk.1 (by rw [kk.2.2.1]; exact hs)
theorem c134 {s n T X : Nat} {Q : UInt32 → XM → Prop} (si : SI g T X) (hT : T ≤ 5000) (hn : n ≤ 300) (hs : s < nSt g) {m0 : XM} (r0 : RS m0 49 (tkn g 0)) (rt : RT m 69 g) (f0 : FLR m m0) (h : ∀ m', FLR m m' → Q (bshG g s n) m') : VLF (D + 5) 134 1 [(0, vR 10 0), (1, vI (n32 s)), (2, vI (n32 n)), (3, vF (bshG g s 0)), (4, vI (n32 0))] [] m0 Q E := by
  have a4 := si.w.ns
  refine upm (C := fun i m' => VLF (D + 5) 134 1 [(0, vR 10 0), (1, vI (n32 s)), (2, vI (n32 n)), (3, vF (bshG g s i)), (4, vI (n32 i))] [] m' Q E) (Inv := fun i m' => RS m' 49 (tkn g i) ∧ FLR m m') (n := n) ?_ ?_ 0 m0 (Nat.zero_le _) ⟨r0, f0⟩
  · intro i m1 hi hI ih
    obtain ⟨r1, f1⟩ := hI
    refine w134_1 ⟨fun c => absurd ((n32_le (by omega) (by omega)).mp c) (by omega), fun _ => ?_⟩
    refine s70l si hT (by omega) r1 ?_
    intro m2 rs2 fl2
    have f2 := f1.tr fl2.r
    have kk := tkn_keeps si hT (i + 1) (by omega)
    have hs' : s < nSt (tkn g (i + 1)) := by rw [kk.2.2.1]; exact hs
    refine s162 si hT (by omega) rs2 (RT_flr f2 rt) hs ?_
    intro m3 hT3 fd
    have f3 := f2.tr fd.r
    refine s40 kk.1 hT3 (RT_tkn si hT (by omega) (RT_flr f3 rt)) hs' ?_
    have ih := ih m3 ⟨RS_fd49 rs2 fd, f3⟩
    rw [bshG_s] at ih
    rw [n32_add]
    by_cases c : cmpL (shareG (tkn g (i + 1)) s) (bshG g s i) ≤ n32 0
    · rw [if_pos c] at ih
      exact ⟨fun _ => ih, fun c' => absurd c c'⟩
    · rw [if_neg c] at ih
      exact ⟨fun c' => absurd c' c, fun _ => ih⟩
  · intro m1 hI
    exact w134_1 ⟨fun _ => h m1 hI.2, fun c => absurd (n32_rfl _) c⟩
theorem c299 {s n T X : Nat} {Q : UInt32 → XM → Prop} (si : SI g T X) (hT : T ≤ 5000) (hn : n ≤ 300) (hs : s < nSt g) {m0 : XM} (f0 : rfr (asd m g) m0) (h : ∀ m', rfr (asd m g) m' → Q (bshG g s n) (smg m' g)) : VLF (D + 6) 299 3 [(0, vR 11 283), (1, vI (n32 s)), (2, vI (n32 n)), (3, vF (bshG g s 0)), (4, vI (n32 0))] [] (smg m0 (tkn g 0)) Q E := by
  have a4 := si.w.ns
  refine upm (C := fun i m' => VLF (D + 6) 299 3 [(0, vR 11 283), (1, vI (n32 s)), (2, vI (n32 n)), (3, vF (bshG g s i)), (4, vI (n32 i))] [] (smg m' (tkn g i)) Q E) (Inv := fun i m' => rfr (asd m g) m') (n := n) ?_ ?_ 0 m0 (Nat.zero_le _) f0
  · intro i m1 hi f1 ih
    have kk := tkn_keeps si hT i (by omega)
    have kk2 := tkn_keeps si hT (i + 1) (by omega)
    have hs' : s < nSt (tkn g (i + 1)) := by rw [kk2.2.2.1]; exact hs
    refine w299_3 ⟨fun c => absurd ((n32_le (by omega) (by omega)).mp c) (by omega), fun _ => ?_⟩
    refine s228 kk.1 ?_
    intro m2 f2
    rw [← tkn_succ]
    refine s224 kk2.1 hs' ?_
    intro m3 f3
    have ih := ih m3 ((f1.tr f2).tr f3)
    obtain ⟨p1, p2, -, -⟩ := sh_cmp (bshG_in si hT hs i (by omega)) (share_in kk2.1 hs')
    obtain ⟨p3, -⟩ := sh_cmp (share_in kk2.1 hs') (bshG_in si hT hs i (by omega))
    rw [bshG_s, ← p2] at ih
    rw [n32_add]
    exact ⟨⟨p1, p3⟩, ih⟩
  · intro m1 f1
    refine w299_3 ⟨fun _ => ?_, fun c => absurd (n32_rfl _) c⟩
    exact s286 (asd_at f1) (fun k hk => tkn_hi si hT hk n (by omega)) (h m1 f1)
theorem p_bestShare {v1 v2 : Int32} {N : Nat} (h : CPL m N) : PRF (D + 12) 134 299 [vR 10 0, vI v1, vI v2] [vR 11 283, vI v1, vI v2] mpSPA m N := by
  unfold PRF
  have no : ∀ c, codeOf (m 283 6) (inI v1 (n32 0) (m 284 7 - n32 1)) (inI v2 (n32 0) (n32 300)) = c → 1 ≤ c → c ≤ 3 → VF (D + 12) 299 [vR 11 283, vI v1, vI v2] m (fun _ m2 => (m2 283 0 = n32 c ∧ 1 ≤ c ∧ c ≤ 3) ∧ CPL m2 N) (fun _ _ => False) := by
    intro c hc y1 y3
    have cn : ¬ c = 0 := by omega
    refine w299_0 (s297 ?_)
    rw [hc, if_neg cn]
    exact ⟨fun _ => ⟨⟨um_eq _ _ _ _, y1, y3⟩, CPL_th h⟩, fun c => absurd rfl c⟩
  rcases stand_cases h v1 with ⟨h1, h2⟩ | ⟨h1, h2, h3, h4⟩ | ⟨h1, h2, hS, s, hs, rfl, h69, h4⟩
  · exact w134_0 ⟨fun _ => no 1 (by rw [h2, code1]) (by omega) (by omega), fun c => absurd h1 c⟩
  · have rb := no 2 (by rw [h2, h4, code2]) (by omega) (by omega)
    refine w134_0 ⟨fun c => absurd (h1.symm.trans c) n01, fun _ => ⟨fun _ => rb, fun d1 => ⟨fun d2 => ?_, fun _ => rb⟩⟩⟩
    rcases h3 with h3 | h3
    · exact absurd h3 d1
    · exact absurd d2 h3
  · obtain ⟨r1, r2, r3, T, hT, si⟩ := hS
    have w := si.w
    have a2 := w.nb
    have a4 := w.ns
    have b0 : ¬ n32 s < n32 0 := by rw [n32_lt (by omega) (by omega)]; omega
    have bn : n32 s < m 69 0 := by rw [h69, n32_lt (by omega) (by omega)]; omega
    rcases rng_cases v2 300 (by omega) with ⟨d1, e1⟩ | ⟨d1, d2, e1⟩ | ⟨n, hn, rfl, e1⟩
    · exact w134_0 ⟨fun c => absurd (h1.symm.trans c) n01, fun _ => ⟨fun c => absurd c b0, fun _ => ⟨fun _ => ⟨fun _ => no 3 (by rw [h2, h4, e1, code3]) (by omega) (by omega), fun c => absurd d1 c⟩, fun c => absurd bn c⟩⟩⟩
    · exact w134_0 ⟨fun c => absurd (h1.symm.trans c) n01, fun _ => ⟨fun c => absurd c b0, fun _ => ⟨fun _ => ⟨fun c => absurd c d1, fun _ => ⟨fun _ => no 3 (by rw [h2, h4, e1, code3]) (by omega) (by omega), fun c => absurd d2 c⟩⟩, fun c => absurd bn c⟩⟩⟩
    · have n0 : ¬ n32 n < n32 0 := by rw [n32_lt (by omega) (by omega)]; omega
      have nk : ¬ n32 300 < n32 n := by rw [n32_lt (by omega) (by omega)]; omega
      refine w134_0 ⟨fun c => absurd (h1.symm.trans c) n01, fun _ => ⟨fun c => absurd c b0, fun _ => ⟨fun _ => ⟨fun c => absurd c n0, fun _ => ⟨fun c => absurd c nk, fun _ => ?_⟩⟩, fun c => absurd bn c⟩⟩⟩
      refine s68l w r1 ?_
      intro m1 rl fl
      refine s162 (n := 0) si hT (by omega) rl (RT_flr fl.r r3) hs ?_
      intro m2 hT2 fd
      have fr : FLR m m2 := fl.r.tr fd.r
      refine s40 w hT2 (RT_flr fr r3) hs ?_
      refine c134 si hT hn hs (RS_fd49 rl fd) r3 fr ?_
      intro m3 fr3
      have f := QF_flr fr3
      have hc : CPL m3 N := CPL_fr h (Nat.le_refl _) f
      have hg : m3 284 = m 284 := funext fun k => f _ _ (by unfold REL; omega)
      have h2' : m3 283 6 = n32 1 := by rw [f _ _ (by unfold REL; omega)]; exact h2
      refine w299_0 (s297 ?_)
      rw [h2', hg, h4, e1, code0]
      refine ⟨fun c => absurd c n01, fun _ => ?_⟩
      rw [st0 hg]
      refine s284 (s224 w hs ?_)
      intro m4 f4
      refine c299 (m := um m3 283 0 (n32 0)) si hT hn hs f4 ?_
      intro m5 f5
      obtain ⟨z1, z2⟩ := finA hc hg ((asd_rfa _ _).tr f5.a)
      exact ⟨⟨rfl, z1⟩, z2⟩

def bsG (g : PG) (n : Nat) : Int32 := bst n (fun _ => true) (fun k b => decide (¬ cmpL (shareG g k) (shareG g b) ≤ n32 0))
theorem bsG_succ (g : PG) (n : Nat) : bsG g (n + 1) = if (bsG g n == -(n32 1) || decide (¬ cmpL (shareG g n) (shareG g (ix (bsG g n))) ≤ n32 0)) = true then n32 n else bsG g n := by
  unfold bsG
  rw [bst_succ, Bool.true_and]
def gvG (g : PG) (x : Int32) : UInt32 := if x = -(n32 1) then UInt32.ofNat 3212836864 else shareG g (ix x)
theorem t119 {Q : Int32 → XM → Prop} (w : WF g) (r : RS m 29 g) (rt : RT m 69 g) (h : ∀ m', FD 278 m m' → Q (bsG g (nSt g)) m') : VLI (D + 4) 119 1 [(0, vR 10 0), (1, vI (-(n32 1))), (2, vF (UInt32.ofNat 3212836864)), (3, vI (n32 0))] [] m Q E := by
  have a4 := w.ns
  refine upm (C := fun i m' => VLI (D + 4) 119 1 [(0, vR 10 0), (1, vI (bsG g i)), (2, vF (gvG g (bsG g i))), (3, vI (n32 i))] [] m' Q E) (Inv := fun _ m' => FD 278 m m') (n := nSt g) ?_ ?_ 0 m (Nat.zero_le _) (FD.rf _ _)
  · intro i m1 hi f1 ih
    have h7 : m1 69 0 = n32 (nSt g) := by rw [f1 _ _ (by omega), rt.1]; exact w.2.1.1
    refine w119_1 ?_
    rw [h7]
    refine ⟨fun c => absurd ((n32_le (by omega) (by omega)).mp c) (by omega), fun _ => ?_⟩
    refine s161 w (RS_fd r f1 (Or.inr (by omega))) (RT_fd rt f1 (Or.inr (by omega))) hi ?_
    intro m2 hT2 fd
    have f2 := f1.tr fd
    refine s40 w hT2 (RT_fd rt f2 (Or.inr (by omega))) hi ?_
    have ih := ih m2 f2
    rw [n32_add]
    rw [bsG_succ] at ih
    have hin := share_in w hi
    rcases bst_rng i (fun _ => true) (fun k b => decide (¬ cmpL (shareG g k) (shareG g b) ≤ n32 0)) (by omega) with hb | ⟨j, hj, -, hb⟩
    · have hb : bsG g i = -(n32 1) := hb
      have e : gvG g (bsG g i) = UInt32.ofNat 3212836864 := by unfold gvG; rw [if_pos hb]
      rw [e]
      rw [hb] at ih ⊢
      rw [BEq.rfl, Bool.true_or, if_pos rfl] at ih
      have e2 : gvG g (n32 i) = shareG g i := by unfold gvG; rw [if_neg (n32_nm1 (by omega)), ix_n32 (by omega)]
      rw [e2] at ih
      exact ⟨fun c => absurd c (sh_cmp hin hin).2.2.2, fun _ => ih⟩
    · have hb : bsG g i = n32 j := hb
      have hne : ¬ n32 j = -(n32 1) := n32_nm1 (by omega)
      have hne2 : (n32 j == -(n32 1)) = false := by rw [beq_eq_false_iff_ne]; exact hne
      have e : gvG g (n32 j) = shareG g j := by unfold gvG; rw [if_neg hne, ix_n32 (by omega)]
      rw [hb] at ih ⊢
      rw [e]
      rw [hne2, Bool.false_or, ix_n32 (by omega)] at ih
      by_cases c3 : cmpL (shareG g i) (shareG g j) ≤ n32 0
      · rw [decide_eq_false (fun e => e c3), if_neg (by decide), e] at ih
        exact ⟨fun _ => ih, fun c => absurd c3 c⟩
      · have e2 : gvG g (n32 i) = shareG g i := by unfold gvG; rw [if_neg (n32_nm1 (by omega)), ix_n32 (by omega)]
        rw [decide_eq_true c3, if_pos rfl, e2] at ih
        exact ⟨fun c => absurd c c3, fun _ => ih⟩
  · intro m1 f1
    have h7 : m1 69 0 = n32 (nSt g) := by rw [f1 _ _ (by omega), rt.1]; exact w.2.1.1
    refine w119_1 ?_
    rw [h7]
    exact ⟨fun _ => h m1 f1, fun c => absurd (n32_rfl _) c⟩
theorem t276 {Q : Int32 → XM → Prop} (w : WF g) (h : ∀ m', rfr m m' → Q (bsG g (nSt g)) (smg m' g)) : VLI (D + 5) 276 3 [(0, vR 11 283), (1, vI (-(n32 1))), (2, vI (n32 0))] [] (smg m g) Q E := by
  have a4 := w.ns
  have h7 := w.2.1.1
  refine upm (C := fun i m' => VLI (D + 5) 276 3 [(0, vR 11 283), (1, vI (bsG g i)), (2, vI (n32 i))] [] (smg m' g) Q E) (Inv := fun _ m' => rfr m m') (n := nSt g) ?_ ?_ 0 m (Nat.zero_le _) (rfr.rf m)
  · intro i m1 hi f1 ih
    refine w276_3 ?_
    simp (disch := omega) only [smg_at, ix_n32, h7, le_f, n32_add, false_implies, true_implies, not_false_eq_true, true_and]
    rcases bst_rng i (fun _ => true) (fun k b => decide (¬ cmpL (shareG g k) (shareG g b) ≤ n32 0)) (by omega) with hb | ⟨j, hj, -, hb⟩
    · have hb : bsG g i = -(n32 1) := hb
      have ih := ih m1 f1
      rw [bsG_succ] at ih
      rw [hb] at ih ⊢
      rw [BEq.rfl, Bool.true_or, if_pos rfl] at ih
      exact ⟨fun _ => ih, fun c => absurd rfl c⟩
    · have hb : bsG g i = n32 j := hb
      have hne : ¬ n32 j = -(n32 1) := n32_nm1 (by omega)
      have hne2 : (n32 j == -(n32 1)) = false := by rw [beq_eq_false_iff_ne]; exact hne
      rw [hb]
      refine ⟨fun c => absurd c hne, fun _ => ?_⟩
      refine s224 w hi ?_
      intro m2 f2
      refine s224 w (by omega) ?_
      intro m3 f3
      have ih := ih m3 ((f1.tr f2).tr f3)
      rw [bsG_succ, hb] at ih
      rw [hne2, Bool.false_or, ix_n32 (by omega)] at ih
      by_cases c3 : cmpL (shareG g i) (shareG g j) ≤ n32 0
      · rw [decide_eq_false (fun e => e c3), if_neg (by decide)] at ih
        exact ⟨fun _ => ih, fun c => absurd c3 c⟩
      · rw [decide_eq_true c3, if_pos rfl] at ih
        exact ⟨fun c => absurd c c3, fun _ => ih⟩
  · intro m1 f1
    refine w276_3 ?_
    simp (disch := omega) only [smg_at, ix_n32, h7]
    exact ⟨fun _ => h m1 f1, fun c => absurd (n32_rfl _) c⟩
theorem p_bestStand {N : Nat} (h : CPL m N) : PRI (D + 12) 119 276 [vR 10 0] [vR 11 283] mpSA m N := by
  unfold PRI
  rcases h.ld with ⟨h1, h2⟩ | ⟨h1, h2, r1, r2, r3, T, hT, si⟩
  · refine w119_0 ⟨fun _ => ?_, fun c => absurd h1 c⟩
    refine w276_0 (s275 ?_)
    rw [h2]
    exact ⟨fun _ => ⟨⟨um_eq _ _ _ _, by decide, by decide⟩, CPL_th h⟩, fun c => absurd rfl c⟩
  · have w := si.w
    have a2 := w.nb
    have a4 := w.ns
    obtain ⟨x1, x2⟩ := fin1 h (show m 284 = m 284 from rfl)
    refine w119_0 ⟨fun c => absurd (h1.symm.trans c) n01, fun _ => ?_⟩
    refine t119 w r1 r3 ?_
    intro m1 fd
    have f : QF m m1 := QF_fd fd
    have hc : CPL m1 N := CPL_fr h (Nat.le_refl _) f
    have hg : m1 284 = m 284 := funext fun k => f _ _ (by unfold REL; omega)
    have h2' : m1 283 6 = n32 1 := by rw [f _ _ (by unfold REL; omega)]; exact h2
    refine w276_0 (s275 ?_)
    rw [h2', code0]
    refine ⟨fun c => absurd c n01, fun _ => ?_⟩
    rw [st0 hg]
    refine t276 w ?_
    intro m2 f2
    obtain ⟨z1, z2⟩ := fin0 hc hg f2
    exact ⟨⟨rfl, z1⟩, z2⟩

def dstG (g : PG) (k : Nat) : Int32 := g (15 + 7 * (k - 1) + 1) - g (15 + 7 * k + 1)
def wdG (g : PG) (n : Nat) : Int32 := bst n (fun k => decide (¬ k = 0)) (fun k b => decide (¬ dstG g k ≤ dstG g b))
theorem wdG_succ (g : PG) {n : Nat} (hn : ¬ n = 0) : wdG g (n + 1) = if (wdG g n == -(n32 1) || decide (¬ dstG g n ≤ dstG g (ix (wdG g n)))) = true then n32 n else wdG g n := by
  unfold wdG
  rw [bst_succ, decide_eq_true hn, Bool.true_and]
theorem wdG_rng (g : PG) {i : Nat} (hi : i < 2147483648) : wdG g i = -(n32 1) ∨ ∃ k, 1 ≤ k ∧ k < i ∧ wdG g i = n32 k := by
  rcases bst_rng i (fun k => decide (¬ k = 0)) (fun k b => decide (¬ dstG g k ≤ dstG g b)) hi with hb | ⟨j, hj, h1, hb⟩
  · exact Or.inl hb
  · exact Or.inr ⟨j, by have := of_decide_eq_true h1; omega, hj, hb⟩
theorem t122 {Q : Int32 → XM → Prop} (w : WF g) (r : RS m 29 g) (h : Q (wdG g (nBr g)) m) : VLI (D + 1) 122 1 [(0, vR 10 0), (1, vI (-(n32 1))), (2, vI (n32 1))] [] m Q E := by
  have a2 := w.nb
  have h6 : m (29 + 3) 0 = n32 (nBr g) := by rw [r.nb]; exact w.1.1
  by_cases h0 : nBr g = 0
  · refine w122_1 ?_
    rw [h6]
    rw [h0] at h ⊢
    exact ⟨fun _ => h, fun c => absurd ((n32_le (by omega) (by omega)).mpr (by omega)) c⟩
  · have go : VLI (D + 1) 122 1 [(0, vR 10 0), (1, vI (wdG g 1)), (2, vI (n32 1))] [] m Q E := by
      refine up (C := fun i => 1 ≤ i → VLI (D + 1) 122 1 [(0, vR 10 0), (1, vI (wdG g i)), (2, vI (n32 i))] [] m Q E) (n := nBr g) ?_ ?_ 1 (by omega) (Nat.le_refl _)
      · intro i hi ih h1
        have ih := ih (by omega)
        rw [wdG_succ g (by omega)] at ih
        refine w122_1 ?_
        rw [h6]
        simp (disch := omega) only [le_f, n32_add, false_implies, not_false_eq_true, true_implies, true_and]
        rcases wdG_rng g (show i < 2147483648 by omega) with hb | ⟨j, hj0, hj, hb⟩
        · rw [hb] at ih ⊢
          rw [BEq.rfl, Bool.true_or, if_pos rfl] at ih
          exact ⟨fun _ => ih, fun c => absurd rfl c⟩
        · have hne : ¬ n32 j = -(n32 1) := n32_nm1 (by omega)
          have hne2 : (n32 j == -(n32 1)) = false := by rw [beq_eq_false_iff_ne]; exact hne
          rw [hb] at ih ⊢
          rw [hne2, Bool.false_or, ix_n32 (by omega)] at ih
          refine ⟨fun c => absurd c hne, fun _ => ?_⟩
          simp (disch := omega) only [le_f, n32_sub, xin_t, ix_n32, r.pla hi, r.pla (show i - 1 < nBr g by omega), r.pla (show j < nBr g by omega), r.pla (show j - 1 < nBr g by omega), false_implies, not_false_eq_true, true_implies, true_and]
          by_cases c3 : dstG g i ≤ dstG g j
          · rw [decide_eq_false (fun e => e c3), if_neg (by decide)] at ih
            exact ⟨fun _ => ih, fun c => absurd c3 c⟩
          · rw [decide_eq_true c3, if_pos rfl] at ih
            exact ⟨fun c => absurd c c3, fun _ => ih⟩
      · intro _
        refine w122_1 ?_
        rw [h6]
        exact ⟨fun _ => h, fun c => absurd (n32_rfl _) c⟩
    exact go
theorem t279 {Q : Int32 → XM → Prop} (w : WF g) (h : Q (wdG g (nBr g)) (smg m g)) : VLI (D + 2) 279 3 [(0, vR 11 283), (1, vI (-(n32 1))), (2, vI (n32 1))] [] (smg m g) Q E := by
  have a2 := w.nb
  have h6 := w.1.1
  by_cases h0 : nBr g = 0
  · refine w279_3 ?_
    simp (disch := omega) only [smg_at, ix_n32, h6]
    rw [h0] at h ⊢
    exact ⟨fun _ => h, fun c => absurd ((n32_le (by omega) (by omega)).mpr (by omega)) c⟩
  · have go : VLI (D + 2) 279 3 [(0, vR 11 283), (1, vI (wdG g 1)), (2, vI (n32 1))] [] (smg m g) Q E := by
      refine up (C := fun i => 1 ≤ i → VLI (D + 2) 279 3 [(0, vR 11 283), (1, vI (wdG g i)), (2, vI (n32 i))] [] (smg m g) Q E) (n := nBr g) ?_ ?_ 1 (by omega) (Nat.le_refl _)
      · intro i hi ih h1
        have ih := ih (by omega)
        rw [wdG_succ g (by omega)] at ih
        refine w279_3 ?_
        simp (disch := omega) only [smg_at, ix_n32, h6, le_f, n32_add, false_implies, not_false_eq_true, true_implies, true_and]
        rcases wdG_rng g (show i < 2147483648 by omega) with hb | ⟨j, hj0, hj, hb⟩
        · rw [hb] at ih ⊢
          rw [BEq.rfl, Bool.true_or, if_pos rfl] at ih
          exact ⟨fun _ => ih, fun c => absurd rfl c⟩
        · have hne : ¬ n32 j = -(n32 1) := n32_nm1 (by omega)
          have hne2 : (n32 j == -(n32 1)) = false := by rw [beq_eq_false_iff_ne]; exact hne
          rw [hb] at ih ⊢
          rw [hne2, Bool.false_or, ix_n32 (by omega)] at ih
          refine ⟨fun c => absurd c hne, fun _ => ?_⟩
          simp (disch := omega) only [smg_at, n32_sub, n32_mul, n32_add, xin_t, ix_n32, true_and]
          by_cases c3 : dstG g i ≤ dstG g j
          · rw [decide_eq_false (fun e => e c3), if_neg (by decide)] at ih
            exact ⟨fun _ => ih, fun c => absurd c3 c⟩
          · rw [decide_eq_true c3, if_pos rfl] at ih
            exact ⟨fun c => absurd c c3, fun _ => ih⟩
      · intro _
        refine w279_3 ?_
        simp (disch := omega) only [smg_at, ix_n32, h6]
        exact ⟨fun _ => h, fun c => absurd (n32_rfl _) c⟩
    exact go
theorem p_widest {N : Nat} (h : CPL m N) : PRI (D + 12) 122 279 [vR 10 0] [vR 11 283] mpSA m N := by
  unfold PRI
  rcases h.ld with ⟨h1, h2⟩ | ⟨h1, h2, r1, r2, r3, T, hT, si⟩
  · refine w122_0 ⟨fun _ => ?_, fun c => absurd h1 c⟩
    refine w279_0 (s275 ?_)
    rw [h2]
    exact ⟨fun _ => ⟨⟨um_eq _ _ _ _, by decide, by decide⟩, CPL_th h⟩, fun c => absurd rfl c⟩
  · have w := si.w
    have a2 := w.nb
    have a4 := w.ns
    obtain ⟨x1, x2⟩ := fin1 h (show m 284 = m 284 from rfl)
    refine w122_0 ⟨fun c => absurd (h1.symm.trans c) n01, fun _ => ?_⟩
    refine t122 w r1 ?_
    refine w279_0 (s275 ?_)
    rw [h2, code0]
    refine ⟨fun c => absurd c n01, fun _ => ?_⟩
    rw [st0 (show m 284 = m 284 from rfl)]
    refine t279 w ?_
    exact ⟨⟨rfl, x1⟩, x2⟩

theorem exchG_at {g : PG} {b j : Nat} (h : j ≠ 15 + 7 * b) (h1 : j ≠ 15 + 7 * (b + 1)) : exchG g b j = g j := by
  unfold exchG; rw [gup_ne h1, gup_ne h]
theorem exchG_two (g : PG) (b : Nat) : exchG (exchG g b) b = g := by
  funext j
  have ea : exchG g b (15 + 7 * b) = g (15 + 7 * (b + 1)) := by unfold exchG; rw [gup_ne (by omega), gup_eq]
  have eb : exchG g b (15 + 7 * (b + 1)) = g (15 + 7 * b) := by unfold exchG; rw [gup_eq]
  by_cases h1 : j = 15 + 7 * (b + 1)
  · subst h1
    show gup _ _ _ _ = _
    rw [gup_eq, ea]
  · by_cases h2 : j = 15 + 7 * b
    · subst h2
      show gup (gup _ _ _) _ _ _ = _
      rw [gup_ne h1, gup_eq, eb]
    · rw [exchG_at h2 h1, exchG_at h2 h1]
theorem RS_exch {a b : Nat} (w : WF g) (r : RS m a g) (hb : b + 1 < nBr g) : RS (um (um m (a + 3 + 5) b (g (15 + 7 * (b + 1)))) (a + 3 + 5) (b + 1) (g (15 + 7 * b))) a (exchG g b) := by
  have a2 := w.nb
  have b2 := w.nl
  have b3 := w.np
  have r1 : RS (um m (a + 3 + 5) b (g (15 + 7 * (b + 1)))) a (gup g (15 + 7 * b) (g (15 + 7 * (b + 1)))) := RS_gup (d0 := 8) w r (lv_ban (by omega)) (by omega) (by omega) (by omega)
  have n1 : nBr (gup g (15 + 7 * b) (g (15 + 7 * (b + 1)))) = nBr g := nBr_upd (by omega)
  have n2 : nL (gup g (15 + 7 * b) (g (15 + 7 * (b + 1)))) = nL g := nL_upd (by omega)
  have n3 : nPl (gup g (15 + 7 * b) (g (15 + 7 * (b + 1)))) = nPl g := nPl_upd (by omega)
  have k2 : keeps g (exchG g b) := WF_exchG w hb
  unfold RS at r1 ⊢
  have n2' : nL (exchG g b) = nL g := by unfold exchG; rw [nL_upd (by omega), nL_upd (by omega)]
  rw [n1, n2, n3] at r1
  rw [k2.2.1, n2', k2.2.2.2]
  exact RSn_gup (d0 := 8) r1 (by omega) (by omega) b3 (lv_ban (by omega))
theorem RT_exch {a b : Nat} (w : WF g) (rt : RT m a g) (hb : b + 1 < nBr g) : RT m a (exchG g b) := by
  have a2 := w.nb
  have a4 := w.ns
  have k2 : keeps g (exchG g b) := WF_exchG w hb
  refine ⟨by rw [exchG_at (by omega) (by omega)]; exact rt.1, fun s hs => ?_⟩
  rw [k2.2.2.1] at hs
  obtain ⟨q1, q2, q3, q4⟩ := rt.2 s hs
  rw [exchG_at (by omega) (by omega), exchG_at (by omega) (by omega), exchG_at (by omega) (by omega)]
  exact ⟨q1, q2, q3, fun i hi => by rw [exchG_at (by omega) (by omega)]; exact q4 i hi⟩
/-- the best swap so far and its share -/
def bwG (g : PG) (s n : Nat) : Int32 × UInt32 := itr n (fun b q => if cmpL (shareG (exchG g b) s) q.2 ≤ n32 0 then q else (n32 b, shareG (exchG g b) s)) (-(n32 1), shareG g s)
theorem bwG_succ (g : PG) (s n : Nat) : bwG g s (n + 1) = if cmpL (shareG (exchG g n) s) (bwG g s n).2 ≤ n32 0 then bwG g s n else (n32 n, shareG (exchG g n) s) := rfl
theorem bwG_in {s : Nat} (w : WF g) (hs : s < nSt g) : ∀ n, n < nBr g → (bwG g s n).2 ∈ shL := by
  intro n
  induction n with
  | zero => intro _; exact share_in w hs
  | succ n ih =>
    intro hn
    rw [bwG_succ]
    split
    · exact ih (by omega)
    · have kk := WF_exchG w (b := n) (by omega)
      exact share_in kk.1 (by rw [kk.2.2.1]; exact hs)
theorem t135 {s : Nat} {Q : Int32 → XM → Prop} (w : WF g) (hs : s < nSt g) {m0 : XM} (r0 : RS m0 49 g) (rt : RT m 69 g) (f0 : FLR m m0) (h : ∀ m', FLR m m' → Q (bwG g s (nBr g - 1)).1 m') : VLI (D + 4) 135 1 [(0, vR 10 0), (1, vI (n32 s)), (2, vI (-(n32 1))), (3, vF (shareG g s)), (4, vI (n32 0))] [] m0 Q E := by
  have a2 := w.nb
  have a4 := w.ns
  refine upm (C := fun i m' => VLI (D + 4) 135 1 [(0, vR 10 0), (1, vI (n32 s)), (2, vI (bwG g s i).1), (3, vF (bwG g s i).2), (4, vI (n32 i))] [] m' Q E) (Inv := fun i m' => RS m' 49 g ∧ FLR m m') (n := nBr g - 1) ?_ ?_ 0 m0 (Nat.zero_le _) ⟨r0, f0⟩
  · intro i m1 hi hI ih
    obtain ⟨r1, f1⟩ := hI
    have hi1 : i + 1 < nBr g := by omega
    have h6 : m1 (49 + 3) 0 = n32 (nBr g) := by rw [r1.nb]; exact w.1.1
    have kk := WF_exchG w hi1
    have hs' : s < nSt (exchG g i) := by rw [kk.2.2.1]; exact hs
    have e1 : m1 (49 + 3 + 5) i = g (15 + 7 * i) := r1.ban (by omega)
    have e2 : m1 (49 + 3 + 5) (i + 1) = g (15 + 7 * (i + 1)) := r1.ban hi1
    refine w135_1 ?_
    rw [h6, n32_add, ix_n32 (show i < 2147483648 by omega), ix_n32 (show i + 1 < 2147483648 by omega), e1, e2]
    refine ⟨fun c => absurd ((n32_le (by omega) (by omega)).mp c) (by omega), fun _ => ⟨fun c => absurd ((n32_lt (by omega) (by omega)).mp c) (by omega), fun _ => ⟨fun _ => ⟨xin_n (by omega) (by omega), xin_n (by omega) (by omega), ?_⟩, fun c => absurd ((n32_lt (by omega) (by omega)).mpr hi1) c⟩⟩⟩
    have rx := RS_exch w r1 hi1
    have fx : FLR m1 (um (um m1 (49 + 3 + 5) i (g (15 + 7 * (i + 1)))) (49 + 3 + 5) (i + 1) (g (15 + 7 * i))) := fun b k c1 c2 => by rw [um_a (by omega), um_a (by omega)]
    generalize um (um m1 (49 + 3 + 5) i (g (15 + 7 * (i + 1)))) (49 + 3 + 5) (i + 1) (g (15 + 7 * i)) = m2 at rx fx
    have f2 := f1.tr fx
    refine w162_0 (s33 kk.1 rx (RT_exch w (RT_flr f2 rt) hi1) hs' (Or.inr (by omega)) (Or.inr (by omega)) ?_)
    intro m3 hT3 fd
    have f3 := f2.tr fd.r
    refine s40 kk.1 hT3 (RT_exch w (RT_flr f3 rt) hi1) hs' ?_
    have r3 : RS m3 49 (exchG g i) := RS_fd49 rx fd
    have h63 : m3 (49 + 3) 0 = n32 (nBr g) := by rw [r3.nb, kk.1.1.1, kk.2.1]
    have e3 : m3 (49 + 3 + 5) i = exchG g i (15 + 7 * i) := r3.ban (by rw [kk.2.1]; omega)
    have e4 : m3 (49 + 3 + 5) (i + 1) = exchG g i (15 + 7 * (i + 1)) := r3.ban (by rw [kk.2.1]; exact hi1)
    rw [h63, e3, e4]
    refine ⟨fun _ => ?_, fun c => absurd ((n32_lt (by omega) (by omega)).mpr hi1) c⟩
    have ry := RS_exch kk.1 r3 (b := i) (by rw [kk.2.1]; exact hi1)
    rw [exchG_two] at ry
    have fy : FLR m3 (um (um m3 (49 + 3 + 5) i (exchG g i (15 + 7 * (i + 1)))) (49 + 3 + 5) (i + 1) (exchG g i (15 + 7 * i))) := fun b k c1 c2 => by rw [um_a (by omega), um_a (by omega)]
    generalize um (um m3 (49 + 3 + 5) i (exchG g i (15 + 7 * (i + 1)))) (49 + 3 + 5) (i + 1) (exchG g i (15 + 7 * i)) = m4 at ry fy
    have ih := ih m4 ⟨ry, f3.tr fy⟩
    rw [bwG_succ] at ih
    by_cases c : cmpL (shareG (exchG g i) s) (bwG g s i).2 ≤ n32 0
    · rw [if_pos c] at ih
      exact ⟨fun _ => ih, fun c' => absurd c c'⟩
    · rw [if_neg c] at ih
      exact ⟨fun c' => absurd c' c, fun _ => ih⟩
  · intro m1 hI
    have h6 : m1 (49 + 3) 0 = n32 (nBr g) := by rw [hI.1.nb]; exact w.1.1
    refine w135_1 ?_
    rw [h6, n32_add]
    exact ⟨fun _ => h m1 hI.2, fun c => absurd ((n32_le (by omega) (by omega)).mpr (by omega)) c⟩
theorem t300 {s : Nat} {Q : Int32 → XM → Prop} (w : WF g) (hs : s < nSt g) {m0 : XM} (f0 : rfr m m0) (h : ∀ m', rfr m m' → Q (bwG g s (nBr g - 1)).1 (smg m' g)) : VLI (D + 5) 300 3 [(0, vR 11 283), (1, vI (n32 s)), (2, vF (shareG g s)), (3, vI (-(n32 1))), (4, vI (n32 0))] [] (smg m0 g) Q E := by
  have a2 := w.nb
  have a4 := w.ns
  have h6 := w.1.1
  refine upm (C := fun i m' => VLI (D + 5) 300 3 [(0, vR 11 283), (1, vI (n32 s)), (2, vF (bwG g s i).2), (3, vI (bwG g s i).1), (4, vI (n32 i))] [] (smg m' g) Q E) (Inv := fun i m' => rfr m m') (n := nBr g - 1) ?_ ?_ 0 m0 (Nat.zero_le _) f0
  · intro i m1 hi f1 ih
    have hi1 : i + 1 < nBr g := by omega
    have kk := WF_exchG w hi1
    have hs' : s < nSt (exchG g i) := by rw [kk.2.2.1]; exact hs
    refine w300_3 ?_
    simp (disch := omega) only [smg_at, h6, n32_mul, n32_add, Nat.add_zero, le_f, xin_t, ix_n32, um_smg, false_implies, not_false_eq_true, true_implies, true_and]
    rintro μ rfl
    refine s224 (g := exchG g i) kk.1 hs' ?_
    intro m2 f2
    simp (disch := omega) only [smg_at, um_smg]
    rintro μ rfl
    have e2 : gup (gup (exchG g i) (15 + 7 * i) (exchG g i (15 + 7 * (i + 1)))) (15 + 7 * (i + 1)) (exchG g i (15 + 7 * i)) = g := exchG_two g i
    rw [e2]
    have ih := ih m2 (f1.tr f2)
    rw [bwG_succ] at ih
    obtain ⟨-, -, p3, -⟩ := sh_cmp (bwG_in w hs i (by omega)) (share_in kk.1 hs')
    by_cases c : cmpL (shareG (exchG g i) s) (bwG g s i).2 ≤ n32 0
    · rw [if_pos c] at ih
      exact ⟨fun c' => absurd c (p3.mp c'), fun _ => ih⟩
    · rw [if_neg c] at ih
      exact ⟨fun _ => ih, fun c' => absurd (p3.mpr c) c'⟩
  · intro m1 f1
    refine w300_3 ?_
    simp (disch := omega) only [smg_at, ix_n32, h6, n32_add]
    exact ⟨fun _ => h m1 f1, fun c => absurd ((n32_le (by omega) (by omega)).mpr (by omega)) c⟩
theorem p_bestSwap {v : Int32} {N : Nat} (h : CPL m N) : PRI (D + 12) 135 300 [vR 10 0, vI v] [vR 11 283, vI v] mpSPA m N := by
  unfold PRI
  rcases stand_cases h v with ⟨h1, h2⟩ | ⟨h1, h2, h3, h4⟩ | ⟨h1, h2, hS, s, hs, rfl, h69, h4⟩
  · refine w135_0 ⟨fun _ => ?_, fun c => absurd h1 c⟩
    refine w300_0 (s242 ?_)
    rw [h2]
    exact ⟨fun _ => ⟨⟨um_eq _ _ _ _, by decide, by decide⟩, CPL_th h⟩, fun c => absurd rfl c⟩
  · have rb : VI (D + 12) 300 [vR 11 283, vI v] m (fun _ m2 => (m2 283 0 = n32 (mpSPA 2) ∧ 1 ≤ mpSPA 2 ∧ mpSPA 2 ≤ 3) ∧ CPL m2 N) (fun _ _ => False) := by
      refine w300_0 (s242 ?_)
      rw [h2, h4]
      exact ⟨fun _ => ⟨⟨um_eq _ _ _ _, by decide, by decide⟩, CPL_th h⟩, fun c => absurd rfl c⟩
    refine w135_0 ⟨fun c => absurd (h1.symm.trans c) n01, fun _ => ⟨fun _ => rb, fun c => ⟨fun c2 => ?_, fun _ => rb⟩⟩⟩
    rcases h3 with h3 | h3
    · exact absurd h3 c
    · exact absurd c2 h3
  · obtain ⟨r1, r2, r3, T, hT, si⟩ := hS
    have w := si.w
    have a2 := w.nb
    have a4 := w.ns
    obtain ⟨x1, x2⟩ := fin1 h (show m 284 = m 284 from rfl)
    refine w135_0 ⟨fun c => absurd (h1.symm.trans c) n01, fun _ => ⟨fun c => absurd ((n32_lt (by omega) (by omega)).mp c) (by omega), fun _ => ⟨fun _ => ?_, fun c => absurd (by rw [h69]; exact (n32_lt (by omega) (by omega)).mpr hs) c⟩⟩⟩
    refine s161 w r1 r3 hs ?_
    intro m1 hT1 fd
    have rt1 := RT_fd (r := 278) r3 fd (Or.inr (by omega))
    refine s40 w hT1 rt1 hs ?_
    refine s68l w (RS_fd r1 fd (Or.inr (by omega))) ?_
    intro m2 rl fl
    have fr : FLR m m2 := fd.r.tr fl.r
    refine t135 w hs rl r3 fr ?_
    intro m3 fr3
    have f := QF_flr fr3
    have hc : CPL m3 N := CPL_fr h (Nat.le_refl _) f
    have hg : m3 284 = m 284 := funext fun k => f _ _ (by unfold REL; omega)
    have h2' : m3 283 6 = n32 1 := by rw [f _ _ (by unfold REL; omega)]; exact h2
    refine w300_0 (s242 ?_)
    rw [h2', hg, h4, code0]
    refine ⟨fun c => absurd c n01, fun _ => ?_⟩
    rw [st0 hg]
    refine s224 w hs ?_
    intro m4 f4
    refine t300 w hs f4 ?_
    intro m5 f5
    obtain ⟨z1, z2⟩ := fin0 hc hg f5
    exact ⟨⟨rfl, z1⟩, z2⟩

end S88
/-! Pairs: the mean of strength and its bits; the least rest. -/
theorem isum_R {n hi : Nat} {f : Nat → Int32} (h : ∀ i, i < n → inR (f i) 0 hi) (hb : hi * n < 2147483648) : inR (isum n f) 0 (hi * n) := by
  induction n with
  | zero => exact ⟨0, by omega, by omega, rfl⟩
  | succ n ih =>
    have e : hi * (n + 1) = hi * n + hi := Nat.mul_succ hi n
    obtain ⟨a, a1, a2, a3⟩ := ih (fun i hi => h i (by omega)) (by omega)
    obtain ⟨b, b1, b2, b3⟩ := h n (by omega)
    exact ⟨a + b, by omega, by omega, by rw [isum_succ, a3, b3, n32_add]⟩
def meanG (g : PG) : UInt64 := if nBr g = 0 then FP.dconst0 else FP.ddiv (FP.i2d (isum (nBr g) fun b => g (15 + 7 * b + 4))) (FP.i2d (n32 (nBr g)))
theorem mean_ok {g : PG} (w : WF g) : mnOk (meanG g) = true := by
  have a2 := w.nb
  unfold meanG
  split
  · exact mnOk_0
  · obtain ⟨S, -, h2, h3⟩ := isum_R (n := nBr g) (hi := 100) (f := fun b => g (15 + 7 * b + 4)) (fun i hi => w.b4 hi) (by omega)
    rw [h3]
    exact mnOk_all (by omega) a2 h2
theorem mn_nan {x : UInt64} (h : mnOk x = true) : x &&& 0x7fffffffffffffff ≤ 0x7ff0000000000000 := by
  unfold mnOk at h
  rw [Bool.and_eq_true, Bool.and_eq_true, decide_eq_true_eq] at h
  exact h.1.1
section S90
variable {D : Nat} {m : XM} {g : PG} {E : Nat → XM → Prop}
theorem s61 {a : Nat} {Q : UInt64 → XM → Prop} (w : WF g) (r : RS m a g) (h : Q (meanG g) m) : VD (D + 1) 61 [vR 7 (a + 3)] m Q E := by
  have a2 := w.nb
  have h6 : m (a + 3) 0 = n32 (nBr g) := by rw [r.nb]; exact w.1.1
  have ok := mn_nan (mean_ok w)
  unfold meanG at h ok
  refine w61_0 ?_
  by_cases h0 : nBr g = 0
  · rw [if_pos h0] at h
    refine ⟨fun _ => h, fun c => absurd (by rw [h6, h0]; exact n32_rfl 0) c⟩
  · rw [if_neg h0] at h ok
    refine ⟨fun c => absurd ((n32_le (by omega) (by omega)).mp (by rw [h6] at c; exact c)) (by omega), fun _ => ?_⟩
    refine s60 (n := nBr g) h6 a2 ?_
    have e : (isum (nBr g) fun k => m (a + 3 + 4) k) = (isum (nBr g) fun b => g (15 + 7 * b + 4)) := isum_congr fun i hi => r.str hi
    rw [e, h6]
    exact ⟨ok, h⟩
theorem s281 {Q : UInt64 → XM → Prop} (w : WF g) (h : Q (meanG g) (smg m g)) : VD (D + 1) 281 [vR 11 283] (smg m g) Q E := by
  have a2 := w.nb
  have h6 := w.1.1
  have ok := mn_nan (mean_ok w)
  unfold meanG at h ok
  refine w281_0 (up (C := fun i => VLD (D + 1) 281 1 [(0, vR 11 283), (1, vI (isum i fun b => g (15 + 7 * b + 4))), (2, vI (n32 i))] [] (smg m g) Q E) (n := nBr g) ?_ ?_ 0 (Nat.zero_le _))
  · intro i hi ih
    refine w281_1 ?_
    simp (disch := omega) only [h6, smg_at, n32_mul, n32_add, le_f, xin_t, ix_n32, false_implies, not_false_eq_true, true_implies, true_and]
    exact ih
  · refine w281_1 ?_
    simp (disch := omega) only [h6, smg_at, ix_n32]
    refine ⟨fun _ => ?_, fun c => absurd (n32_rfl _) c⟩
    by_cases h0 : nBr g = 0
    · rw [if_pos h0] at h
      exact ⟨fun _ => h, fun c => absurd (by rw [h0]) c⟩
    · rw [if_neg h0] at h ok
      exact ⟨fun c => absurd (n32_inj (by omega) (by omega) c) h0, fun _ => ⟨ok, h⟩⟩
theorem dbF_ok {e : Int64} {x : UInt64} {r : Int64} {Q : Int64 → XM → Prop} (h : dbF e x = some r) (hq : Q r m) : (FP.dsub x FP.dconst1) &&& 0x7fffffffffffffff ≤ 0x7ff0000000000000 ∧ ((FP.dmul (FP.dsub x FP.dconst1) (UInt64.ofNat 4841369599423283200)) &&& 0x7fffffffffffffff ≤ 0x7ff0000000000000 ∧ Q ((e <<< (((n32 52)).toInt64 &&& 63)) + ((FP.d2l (FP.dmul (FP.dsub x FP.dconst1) (UInt64.ofNat 4841369599423283200))))) m) := by
  unfold dbF at h
  split at h
  · rename_i c
    cases h
    exact ⟨c.1, c.2, hq⟩
  · cases h
theorem t171b {Q : Int64 → XM → Prop} : ∀ (k : Nat) (e : Int64) (x : UInt64) (r : Int64), k ≤ 60 → dbB k e x = some r → Q r m → VLJ D 171 7 [(2, vJ e), (4, vD x), (6, vI (n32 (60 - k)))] [] m Q E := by
  intro k
  induction k with
  | zero =>
    intro e x r _ h hq
    rw [dbB_0] at h
    exact w171_7 ⟨fun _ => dbF_ok h hq, fun c => absurd (n32_rfl _) c⟩
  | succ k ih =>
    intro e x r hk h hq
    rw [dbB_s] at h
    refine w171_7 ⟨fun c => absurd ((n32_le (by omega) (by omega)).mp c) (by omega), fun _ => ⟨fun c1 => ?_, fun c1 => ?_⟩⟩
    · rw [if_pos c1] at h
      exact dbF_ok h hq
    · rw [if_neg c1] at h
      split at h
      · rename_i c
        refine ⟨c, ?_⟩
        rw [n32_add, show 60 - (k + 1) + 1 = 60 - k by omega]
        exact ih _ _ _ (by omega) h hq
      · cases h
theorem t171a {Q : Int64 → XM → Prop} : ∀ (k : Nat) (e : Int64) (x : UInt64) (r : Int64), k ≤ 60 → dbA k e x = some r → Q r m → VLJ D 171 3 [(2, vJ e), (4, vD x), (6, vI (n32 (60 - k)))] [] m Q E := by
  intro k
  induction k with
  | zero =>
    intro e x r _ h hq
    rw [dbA_0] at h
    exact w171_3 ⟨fun _ => t171b 60 _ _ _ (by omega) h hq, fun c => absurd (n32_rfl _) c⟩
  | succ k ih =>
    intro e x r hk h hq
    rw [dbA_s] at h
    refine w171_3 ⟨fun c => absurd ((n32_le (by omega) (by omega)).mp c) (by omega), fun _ => ⟨fun c1 => ?_, fun c1 => ?_⟩⟩
    · rw [if_pos c1] at h
      exact t171b 60 _ _ _ (by omega) h hq
    · rw [if_neg c1] at h
      split at h
      · rename_i c
        refine ⟨c, ?_⟩
        rw [n32_add, show 60 - (k + 1) + 1 = 60 - k by omega]
        exact ih _ _ _ (by omega) h hq
      · cases h
theorem s171 {x : UInt64} {Q : Int64 → XM → Prop} (hx : mnOk x = true) (h : Q x.toInt64 m) : VJ D 171 [vD x] m Q E := by
  unfold mnOk at hx
  rw [Bool.and_eq_true, Bool.and_eq_true, decide_eq_true_eq, decide_eq_true_eq] at hx
  have hx := hx.1.2
  unfold dbT at hx
  refine w171_0 ⟨fun c => ?_, fun c => ?_⟩
  · rw [if_pos c] at hx
    exact t171a 60 _ _ _ (by omega) hx h
  · rw [if_neg c] at hx
    cases hx
    exact h
theorem p_meanStrength {N : Nat} (h : CPL m N) : PRD (D + 12) 124 282 [vR 10 0] [vR 11 283] mpSA m N := by
  unfold PRD
  rcases h.ld with ⟨h1, h2⟩ | ⟨h1, h2, r1, r2, r3, T, hT, si⟩
  · refine w124_0 ⟨fun _ => ?_, fun c => absurd h1 c⟩
    refine w282_0 (s275 ?_)
    rw [h2]
    exact ⟨fun _ => ⟨⟨um_eq _ _ _ _, by decide, by decide⟩, CPL_th h⟩, fun c => absurd rfl c⟩
  · have w := si.w
    have a2 := w.nb
    have a4 := w.ns
    obtain ⟨x1, x2⟩ := fin1 h (show m 284 = m 284 from rfl)
    refine w124_0 ⟨fun c => absurd (h1.symm.trans c) n01, fun _ => ?_⟩
    refine s61 w r1 ?_
    refine w282_0 (s275 ?_)
    rw [h2, code0]
    refine ⟨fun c => absurd c n01, fun _ => ?_⟩
    rw [st0 (show m 284 = m 284 from rfl)]
    refine s281 w ?_
    exact ⟨⟨rfl, x1⟩, x2⟩

theorem p_strengthBits {N : Nat} (h : CPL m N) : PRJ (D + 12) 125 283 [vR 10 0] [vR 11 283] mpSA m N := by
  unfold PRJ
  rcases h.ld with ⟨h1, h2⟩ | ⟨h1, h2, r1, r2, r3, T, hT, si⟩
  · refine w125_0 ⟨fun _ => ?_, fun c => absurd h1 c⟩
    refine w283_0 (s275 ?_)
    rw [h2]
    exact ⟨fun _ => ⟨⟨um_eq _ _ _ _, by decide, by decide⟩, CPL_th h⟩, fun c => absurd rfl c⟩
  · have w := si.w
    have a2 := w.nb
    have a4 := w.ns
    obtain ⟨x1, x2⟩ := fin1 h (show m 284 = m 284 from rfl)
    refine w125_0 ⟨fun c => absurd (h1.symm.trans c) n01, fun _ => ?_⟩
    refine s61 w r1 ?_
    have ok := mean_ok w
    refine s171 ok ?_
    refine w283_0 (s275 ?_)
    rw [h2, code0]
    refine ⟨fun c => absurd c n01, fun _ => ?_⟩
    rw [st0 (show m 284 = m 284 from rfl)]
    refine s281 w ?_
    unfold mnOk at ok
    rw [Bool.and_eq_true, decide_eq_true_eq] at ok
    exact ⟨fun _ => ⟨⟨rfl, x1⟩, x2⟩, fun c => absurd ok.2 c⟩

def setLo (k : Nat) : Nat := match k with
  | 0 => 1
  | 2 => 1
  | 4 => 1
  | _ => 0
def setHi (k : Nat) : Nat := match k with
  | 0 => 999
  | 3 => 50
  | 4 => 100
  | _ => 9999
theorem WF_set {k : Nat} {v : Int32} (h : WF g) (hk : k < 6) (hv : inR v (setLo k) (setHi k)) : keeps g (gup g k v) := by
  have a2 := h.nb
  have a4 := h.ns
  have a6 := h.np
  have a9 := h.nl
  have n6 : nBr (gup g k v) = nBr g := nBr_upd (by omega)
  have n7 : nSt (gup g k v) = nSt g := nSt_upd (by omega)
  have n8 : nPl (gup g k v) = nPl g := nPl_upd (by omega)
  have n10 : nL (gup g k v) = nL g := nL_upd (by omega)
  have e : ∀ i, 6 ≤ i → gup g k v i = g i := fun i hi => gup_ne (by omega)
  have ec : carried (gup g k v) = carried g := by
    unfold carried
    rw [n6]
    exact cnt_congr fun b hb => by rw [e _ (by omega)]
  obtain ⟨⟨b1, b2⟩, ⟨b3, b4⟩, ⟨b5, b6⟩, ⟨b7, b8⟩, ⟨c0, c1, c2, c3, c4, c5⟩, q0, q2, q3, q4, q6, qp, ql, qs⟩ := h
  have cs : ∀ j, j < 6 → inR (gup g k v j) (setLo j) (setHi j) := by
    intro j hj
    by_cases ej : j = k
    · subst ej
      rw [gup_eq]; exact hv
    · rw [gup_ne ej]
      match j, hj with
      | 0, _ => exact c0
      | 1, _ => exact c1
      | 2, _ => exact c2
      | 3, _ => exact c3
      | 4, _ => exact c4
      | 5, _ => exact c5
  refine ⟨⟨⟨?_, ?_⟩, ⟨?_, ?_⟩, ⟨?_, ?_⟩, ⟨?_, ?_⟩, ⟨cs 0 (by omega), cs 1 (by omega), cs 2 (by omega), cs 3 (by omega), cs 4 (by omega), cs 5 (by omega)⟩, ?_, ?_, ?_, ?_, ?_, ?_, ?_, ?_⟩, n6, n7, n8⟩
  · rw [n6, e _ (by omega)]; exact b1
  · rw [n6]; exact b2
  · rw [n7, e _ (by omega)]; exact b3
  · rw [n7]; exact b4
  · rw [n8, e _ (by omega)]; exact b5
  · rw [n8]; exact b6
  · rw [n10, e _ (by omega)]; exact b7
  · rw [n10, n6, ec]; exact b8
  · rw [n6]; intro b hb; rw [e _ (by omega)]; exact q0 b hb
  · rw [n6]; intro b hb; rw [e _ (by omega)]; exact q2 b hb
  · rw [n6]; intro b hb; rw [e _ (by omega)]; exact q3 b hb
  · rw [n6]; intro b hb; rw [e _ (by omega)]; exact q4 b hb
  · rw [n6]; intro b hb; rw [e _ (by omega)]; exact q6 b hb
  · rw [n8, n6]; intro j hj
    have ea : aheadG (gup g k v) j = aheadG g j := by unfold aheadG; rw [e _ (by omega)]
    rw [ea, e _ (by omega)]; exact qp j hj
  · rw [n10]; intro j hj; rw [e _ (by omega)]; exact ql j hj
  · rw [n7]; intro s hs
    rw [e _ (by omega), e _ (by omega)]
    obtain ⟨x1, x2, x3⟩ := qs s hs
    exact ⟨x1, x2, fun i hi => by rw [e _ (by omega)]; exact x3 i hi⟩
theorem SI_set {k T N : Nat} {v : Int32} (h : SI g T N) (hk : k < 6) (hv : inR v (setLo k) (setHi k)) : SI (gup g k v) T N := by
  have a2 := h.w.nb
  have a6 := h.w.np
  exact SI_of h (WF_set h.w hk hv) (gup_ne (by omega)) (gup_ne (by omega)) (gup_ne (by omega)) (fun j hj => ⟨gup_ne (by omega), gup_ne (by omega)⟩) (fun c hc => gup_ne (by omega))
theorem RS_set {a k : Nat} {v : Int32} (w : WF g) (r : RS m a g) (hk : k < 6) : RS (um m (a + 1) k v) a (gup g k v) :=
  RS_gup (d0 := 1) w r (lv_se hk) (by omega) (by omega) (by omega)
theorem tkR_13 (w : WF g) {d : Nat} (h : g 13 = n32 d) : ∃ e, e ≤ 12 ∧ tkR g 13 = n32 (d + e) := by
  have k0 : keeps g (gup g 9 (g 9 + n32 1)) := WF_freeN w (Or.inl (Or.inl rfl))
  have e0 : gup g 9 (g 9 + n32 1) 13 = n32 d := by rw [gup_ne (by omega)]; exact h
  unfold tkR tkG
  try dsimp only
  generalize gup g 9 (g 9 + n32 1) = g0 at k0 e0
  have k1 : keeps g0 (plansG g0) := WF_plansG k0.1
  have e1 : plansG g0 13 = n32 d := by
    have b := k0.1.np
    rw [← e0]
    exact plans_at k0.1 _ (Nat.le_refl _) 13 (by omega) (by omega) (by omega) (fun j hj => by omega)
  generalize plansG g0 = g1 at k1 e1
  have k2 : keeps g1 (movesG g1) := WF_movesG k1.1
  have e2 : movesG g1 13 = n32 d := by rw [← e1]; exact moves_at (by omega) _ k1.1.nb
  generalize hbf : (fun b => g1 (15 + 7 * b + 1)) = bf
  generalize movesG g1 = g2 at k2 e2
  have k3 : keeps g2 (weaksG g2) := WF_weaksG k2.1
  have e3 : ∃ e, e ≤ 12 ∧ weaksG g2 13 = n32 (d + e) := by
    have := itr_inv (P := fun i x => keeps g2 x ∧ ∃ e, e ≤ i ∧ x 13 = n32 (d + e)) (f := weakG) (a := g2) (n := nBr g2) ⟨keeps.rf k2.1, 0, Nat.le_refl _, e2⟩ (fun i x hi hx => by
      have hi' : i < nBr x := by rw [hx.1.2.1]; exact hi
      refine ⟨hx.1.tr (WF_weakG hx.1.1 hi'), ?_⟩
      obtain ⟨e, h1, h2⟩ := hx.2
      unfold weakG
      split
      · refine ⟨e + 1, by omega, ?_⟩
        unfold dropG
        rw [gup_ne (by omega), gup_eq, h2, n32_add]; rfl
      · exact ⟨e, by omega, h2⟩)
    obtain ⟨e, h1, h2⟩ := this.2
    exact ⟨e, by have := k2.1.nb; omega, h2⟩
  obtain ⟨e, he, e3⟩ := e3
  refine ⟨e, he, ?_⟩
  generalize weaksG g2 = g3 at k3 e3
  have k4 : keeps g3 (liftsG bf g3) := WF_liftsG k3.1
  have e4 : liftsG bf g3 13 = g3 13 := by
    have := itr_inv (P := fun _ x => keeps g3 x ∧ x 13 = g3 13) (f := liftG bf) (a := g3) (n := nBr g3) ⟨keeps.rf k3.1, rfl⟩ (fun i x hi hx => by
      have hi' : i < nBr x := by rw [hx.1.2.1]; exact hi
      exact ⟨hx.1.tr (WF_liftG hx.1.1 hi'), by rw [liftG_at hx.1.1 hi' (by omega)]; exact hx.2⟩)
    exact this.2
  generalize liftsG bf g3 = g4 at k4 e4
  have e5 : rdsG g4 13 = g4 13 := by
    have := itr_inv (P := fun _ x => keeps g4 x ∧ x 13 = g4 13) (f := rdStep) (a := g4) (n := nSt g4) ⟨keeps.rf k4.1, rfl⟩ (fun i x hi hx => by
      have hi' : i < nSt x := by rw [hx.1.2.2.1]; exact hi
      refine ⟨hx.1.tr (WF_rdStep hx.1.1 hi'), ?_⟩
      rw [← hx.2]
      unfold rdStep
      split
      · rw [gup_ne (by omega)]
      · rfl)
    exact this.2
  rw [e5, e4, e3]
/-- drops only grow -/
theorem tkn_13 {T X : Nat} (si : SI g T X) (hT : T ≤ 5000) {d : Nat} (h : g 13 = n32 d) : ∀ n, n ≤ 4000 → ∃ e, e ≤ 12 * n ∧ tkn g n 13 = n32 (d + e) ∧ ∀ i, i ≤ n → ∃ e', e' ≤ e ∧ tkn g i 13 = n32 (d + e') := by
  intro n
  induction n with
  | zero => intro _; exact ⟨0, by omega, h, fun i hi => ⟨0, by omega, by rw [show i = 0 by omega]; exact h⟩⟩
  | succ n ih =>
    intro hn
    obtain ⟨e, h1, h2, h3⟩ := ih (by omega)
    obtain ⟨e', h4, h5⟩ := tkR_13 (tkn_keeps si hT n (by omega)).1 h2
    rw [← tkn_succ] at h5
    refine ⟨e + e', by omega, by rw [h5]; congr 1; omega, fun i hi => ?_⟩
    by_cases c : i = n + 1
    · subst c
      exact ⟨e + e', by omega, by rw [h5]; congr 1; omega⟩
    · obtain ⟨x, x1, x2⟩ := h3 i (by omega)
      exact ⟨x, by omega, x2⟩
theorem fnd_none {p : Nat → Bool} : ∀ r i, i + r < 2147483648 → (fnd p r i = -(n32 1) ↔ ∀ j, i ≤ j → j < i + r → p j = false) := by
  intro r
  induction r with
  | zero => intro i _; exact ⟨fun _ j h1 h2 => absurd h2 (by omega), fun _ => rfl⟩
  | succ r ih =>
    intro i hi
    rw [fnd_succ]
    by_cases c : p i = true
    · rw [if_pos c]
      refine ⟨fun e => absurd e (n32_nm1 (by omega)), fun e => ?_⟩
      rw [e i (by omega) (by omega)] at c
      cases c
    · rw [if_neg c, ih (i + 1) (by omega)]
      constructor
      · intro e j h1 h2
        by_cases ej : j = i
        · subst ej
          cases hp : p j with
          | true => exact absurd hp c
          | false => rfl
        · exact e j (by omega) (by omega)
      · intro e j h1 h2
        exact e j (by omega) (by omega)
/-- no drop within 100 ticks: however it is asked -/
theorem nodrop {T X : Nat} (si : SI g T X) (hT : T ≤ 5000) (hX : X ≤ 100000) : fnd (pdr g) 100 1 = -(n32 1) ↔ tkn g 100 13 = g 13 := by
  obtain ⟨d, d1, d2⟩ := si.2.2.2.2.2
  obtain ⟨e, h1, h2, h3⟩ := tkn_13 si hT d1 100 (by omega)
  rw [fnd_none 100 1 (by omega), h2, d1]
  constructor
  · intro h
    have := h 100 (by omega) (by omega)
    unfold pdr at this
    have := of_decide_eq_false this
    rw [h2, d1, Decidable.not_not, n32_le (by omega) (by omega)] at this
    rw [show d + e = d by omega]
  · intro h j j1 j2
    have := n32_inj (by omega) (by omega) h
    obtain ⟨e', h4, h5⟩ := h3 j (by omega)
    unfold pdr
    apply decide_eq_false
    rw [h5, d1, Decidable.not_not, show d + e' = d by omega]
    exact n32_rfl d
theorem s164b {L T X : Nat} {Q : Int32 → XM → Prop} (si : SI g T X) (hT : T ≤ 5000) (hL : L ≤ 300) {m0 : XM} (r0 : RS m0 49 (tkn g 0)) (r1 : m 29 2 = g 13) (f0 : FL m m0) (h : ∀ m', FL m m' → Q (fnd (pdr g) L 1) m') : VI (D + 5) 164 [vR 10 0, vI (n32 L)] m0 Q E := by
  have key : ∀ r i m1, i + r = L → RS m1 49 (tkn g i) → FL m m1 → (∀ m', FL m m' → Q (fnd (pdr g) r (i + 1)) m') → VLI (D + 5) 164 1 [(0, vR 10 0), (1, vI (n32 L)), (2, vI (n32 (i + 1)))] [] m1 Q E := by
    intro r
    induction r with
    | zero =>
      intro i m1 hi _ f1 h
      refine w164_1 ⟨fun _ => h m1 f1, fun c => absurd ((n32_lt (by omega) (by omega)).mpr (by omega)) c⟩
    | succ r ih =>
      intro i m1 hi r2 f1 h
      refine w164_1 ⟨fun c => absurd ((n32_lt (by omega) (by omega)).mp c) (by omega), fun _ => ?_⟩
      refine s70l si hT (by omega) r2 ?_
      intro m2 r3 f2
      have f3 := f1.tr f2
      have e29 : m2 29 2 = g 13 := by rw [f3 _ _ (by omega)]; exact r1
      rw [r3.dr, e29]
      rw [fnd_succ] at h
      by_cases c : tkn g (i + 1) 13 ≤ g 13
      · have e : pdr g (i + 1) = false := by unfold pdr; simp only [c, not_true_eq_false, decide_false]
        rw [e, if_neg (by decide)] at h
        refine ⟨fun _ => ?_, fun c' => absurd c c'⟩
        rw [n32_add]
        exact ih (i + 1) m2 (by omega) r3 f3 h
      · have e : pdr g (i + 1) = true := by unfold pdr; simp only [c, not_false_eq_true, decide_true]
        rw [e, if_pos rfl] at h
        exact ⟨fun c' => absurd c' c, fun _ => h m2 f3⟩
  exact w164_0 (key L 0 m0 (by omega) r0 f0 h)
def plr (g : PG) (c : Nat) : Bool := decide (tkn (gup g 3 (n32 c)) 100 13 = g 13)
theorem rest_R {c : Nat} (h : c ≤ 50) : inR (n32 c) (setLo 3) (setHi 3) := ⟨c, Nat.zero_le _, h, rfl⟩
theorem c137 {T X : Nat} {Q : Int32 → XM → Prop} (si : SI g T X) (hT : T ≤ 5000) (hX : X ≤ 100000) (r1 : RS m 29 g) : ∀ r i m1, i + r = 51 → FL m m1 → (∀ m', FL m m' → Q (fnd (plr g) r i) m') → VLI (D + 6) 137 1 [(0, vR 10 0), (1, vI (n32 i))] [] m1 Q E := by
  intro r
  induction r with
  | zero =>
    intro i m1 hi f1 h
    exact w137_1 ⟨fun _ => h m1 f1, fun c => absurd ((n32_lt (by omega) (by omega)).mpr (by omega)) c⟩
  | succ r ih =>
    intro i m1 hi f1 h
    have w := si.w
    have si' := SI_set si (k := 3) (by omega) (rest_R (show i ≤ 50 by omega))
    refine w137_1 ⟨fun c => absurd ((n32_lt (by omega) (by omega)).mp c) (by omega), fun _ => ?_⟩
    refine s68l w (RS_fl f1 r1) ?_
    intro m2 r2 f2
    have f3 := f1.tr f2
    rw [ix_n32 (by omega)]
    have r3 := RS_set (k := 3) (v := n32 i) w r2 (by omega)
    have f4 : FL m (um m2 (49 + 1) 3 (n32 i)) := f3.tr (fun b k hb => um_a (by omega))
    refine s164b (m := m) si' hT (by omega) r3 (by rw [gup_ne (by omega)]; exact r1.dr) f4 ?_
    intro m3 f5
    have nd := nodrop si' hT hX
    rw [gup_ne (show 13 ≠ 3 by omega)] at nd
    rw [fnd_succ] at h
    by_cases c : tkn (gup g 3 (n32 i)) 100 13 = g 13
    · have e : plr g i = true := decide_eq_true c
      rw [e, if_pos rfl] at h
      exact ⟨fun _ => h m3 f5, fun c' => absurd (nd.mpr c) c'⟩
    · have e : plr g i = false := decide_eq_false c
      rw [e, if_neg (by decide)] at h
      refine ⟨fun c' => absurd (nd.mp c') c, fun _ => ?_⟩
      rw [n32_add]
      exact ih (i + 1) m3 (by omega) f5 h
theorem c302 {T X : Nat} {Q : Int32 → XM → Prop} (si : SI g T X) (hT : T ≤ 5000) : ∀ r i m1, i + r = 51 → rfr (asd m g) m1 → (∀ m', rfr (asd m g) m' → Q (fnd (plr g) r i) (smg m' g)) → VLI (D + 7) 302 3 [(0, vR 11 283), (1, vI (n32 i))] [] (smg m1 g) Q E := by
  intro r
  induction r with
  | zero =>
    intro i m1 hi f1 h
    exact w302_3 ⟨fun _ => h m1 f1, fun c => absurd ((n32_lt (by omega) (by omega)).mpr (by omega)) c⟩
  | succ r ih =>
    intro i m1 hi f1 h
    have si' := SI_set si (k := 3) (by omega) (rest_R (show i ≤ 50 by omega))
    refine w302_3 ⟨fun c => absurd ((n32_lt (by omega) (by omega)).mp c) (by omega), fun _ => ?_⟩
    rw [ix_n32 (show 3 < 2147483648 by omega), um_smg]
    refine s229 si' hT (by omega) ?_
    intro m2 f2
    have f3 := f1.tr f2
    have e13 : smg m2 (tkn (gup g 3 (n32 i)) 100) 285 13 = g 13 := by rw [smg_ne (by omega)]; exact asd_at f3 13 (by omega)
    have hi' : ∀ k, 243 ≤ k → tkn (gup g 3 (n32 i)) 100 k = g k := fun k hk => by rw [tkn_hi si' hT hk 100 (by omega), gup_ne (by omega)]
    simp (disch := omega) only [smg_at, ix_n32, e13]
    rw [fnd_succ] at h
    by_cases c : tkn (gup g 3 (n32 i)) 100 13 = g 13
    · have e : plr g i = true := decide_eq_true c
      rw [e, if_pos rfl] at h
      exact ⟨fun _ => s285 (asd_at f3) hi' (h m2 f3), fun c' => absurd c c'⟩
    · have e : plr g i = false := decide_eq_false c
      rw [e, if_neg (by decide)] at h
      refine ⟨fun c' => absurd c' c, fun _ => s285 (asd_at f3) hi' ?_⟩
      rw [n32_add]
      exact ih (i + 1) m2 (by omega) f3 h
theorem p_leastRest {N : Nat} (h : CPL m N) (hN : N ≤ 1000) : PRI (D + 12) 137 302 [vR 10 0] [vR 11 283] mpSA m N := by
  unfold PRI
  rcases h.ld with ⟨h1, h2⟩ | ⟨h1, h2, r1, r2, r3, T, hT, si⟩
  · refine w137_0 ⟨fun _ => ?_, fun c => absurd h1 c⟩
    refine w302_0 (s275 ?_)
    rw [h2]
    exact ⟨fun _ => ⟨⟨um_eq _ _ _ _, by decide, by decide⟩, CPL_th h⟩, fun c => absurd rfl c⟩
  · have w := si.w
    have a2 := w.nb
    have a4 := w.ns
    obtain ⟨x1, x2⟩ := fin1 h (show m 284 = m 284 from rfl)
    refine w137_0 ⟨fun c => absurd (h1.symm.trans c) n01, fun _ => ?_⟩
    refine c137 (m := m) si hT (by omega) r1 51 0 m (by omega) (fun _ _ _ => rfl) ?_
    intro m1 fl
    have f := QF_fl fl
    have hc : CPL m1 N := CPL_fr h (Nat.le_refl _) f
    have hg : m1 284 = m 284 := funext fun k => f _ _ (by unfold REL; omega)
    have h2' : m1 283 6 = n32 1 := by rw [f _ _ (by unfold REL; omega)]; exact h2
    refine w302_0 (s275 ?_)
    rw [h2', code0]
    refine ⟨fun c => absurd c n01, fun _ => ?_⟩
    rw [st0 hg]
    refine s284 (c302 si hT 51 0 _ (by omega) (rfr.rf _) ?_)
    intro m2 f2
    obtain ⟨z1, z2⟩ := finA hc hg ((asd_rfa _ _).tr f2.a)
    exact ⟨⟨rfl, z1⟩, z2⟩

end S90
