/-! Pairs: setting, plan, lying, count, bearer, stand (written by program). -/
theorem z_iff {x : Int32} {hi : Nat} (h : inR x 0 hi) (hh : hi < 2147483648) : ¬ n32 0 < x ↔ x = n32 0 := by
  obtain ⟨n, -, h2, rfl⟩ := h
  rw [n32_lt (by omega) (by omega)]
  constructor
  · intro h; rw [show n = 0 by omega]
  · intro h; have := n32_inj (by omega) (by omega) h; omega
theorem bst_none {n : Nat} {p : Nat → Bool} {lt : Nat → Nat → Bool} (hn : n < 2147483648) : bst n p lt = -(n32 1) ↔ cnt n p = 0 := by
  induction n with
  | zero => exact ⟨fun _ => rfl, fun _ => rfl⟩
  | succ n ih =>
    have ih := ih (by omega)
    have e : bst (n + 1) p lt = if p n && (bst n p lt == -(n32 1) || lt n (ix (bst n p lt))) then n32 n else bst n p lt := rfl
    rw [e, cnt_succ]
    by_cases hp : p n = true
    · rw [if_pos hp, hp, Bool.true_and]
      refine ⟨fun h => ?_, fun h => absurd h (by omega)⟩
      split at h
      · exact absurd h (n32_nm1 (by omega))
      · rename_i hq
        rw [h, BEq.rfl, Bool.true_or] at hq
        exact absurd rfl hq
    · rw [if_neg hp]
      have : p n = false := by cases h : p n with
        | true => exact absurd h hp
        | false => rfl
      rw [this, Bool.false_and, if_neg (by decide)]
      exact ih
section S85
variable {D : Nat} {m : XM} {g : PG} {E : Nat → XM → Prop}
theorem p_setting {v : Int32} {N : Nat} (h : CPL m N) : PRI (D + 12) 97 240 [vR 10 0, vI v] [vR 11 283, vI v] mpSA m N := by
  unfold PRI
  have no : ∀ c, codeOf (m 283 6) (inI v (n32 0) (n32 5)) (n32 1) = c → 1 ≤ c → c ≤ 3 → VI (D + 12) 240 [vR 11 283, vI v] m (fun _ m2 => (m2 283 0 = n32 c ∧ 1 ≤ c ∧ c ≤ 3) ∧ CPL m2 N) (fun _ _ => False) := by
    intro c hc y1 y3
    have cn : ¬ c = 0 := by omega
    unfold inI at hc
    refine w240_0 ⟨fun d1 => s177 ?_, fun d1 => ⟨fun d2 => s177 ?_, fun d2 => s177 ?_⟩⟩
    · rw [if_pos d1] at hc
      rw [hc, if_neg cn]
      exact ⟨fun _ => ⟨⟨um_eq _ _ _ _, y1, y3⟩, CPL_th h⟩, fun c => absurd rfl c⟩
    · rw [if_neg d1, if_pos d2] at hc
      rw [hc, if_neg cn]
      exact ⟨fun _ => ⟨⟨um_eq _ _ _ _, y1, y3⟩, CPL_th h⟩, fun c => absurd rfl c⟩
    · rw [if_neg d1, if_neg d2] at hc
      rw [hc, if_neg cn]
      exact ⟨fun _ => ⟨⟨um_eq _ _ _ _, y1, y3⟩, CPL_th h⟩, fun c => absurd rfl c⟩
  rcases h.ld with ⟨h1, h2⟩ | ⟨h1, h2, r1, r2, r3, T, hT, si⟩
  · exact w97_0 ⟨fun _ => no 1 (by rw [h2, code1]) (by omega) (by omega), fun c => absurd h1 c⟩
  · rcases rng_cases v 5 (by omega) with ⟨d1, e1⟩ | ⟨d1, d2, e1⟩ | ⟨j, hj, rfl, e1⟩
    · exact w97_0 ⟨fun c => absurd (h1.symm.trans c) n01, fun _ => ⟨fun _ => no 2 (by rw [h2, e1, code2]) (by omega) (by omega), fun c => absurd d1 c⟩⟩
    · exact w97_0 ⟨fun c => absurd (h1.symm.trans c) n01, fun _ => ⟨fun c => absurd c d1, fun _ => ⟨fun _ => no 2 (by rw [h2, e1, code2]) (by omega) (by omega), fun c => absurd d2 c⟩⟩⟩
    · have n0 : ¬ n32 j < n32 0 := by rw [n32_lt (by omega) (by omega)]; omega
      have nk : ¬ n32 5 < n32 j := by rw [n32_lt (by omega) (by omega)]; omega
      refine w97_0 ⟨fun c => absurd (h1.symm.trans c) n01, fun _ => ⟨fun c => absurd c n0, fun _ => ⟨fun c => absurd c nk, fun _ => ⟨xin_n (by omega) (by omega), ?_⟩⟩⟩⟩
      refine w240_0 ⟨fun c => absurd c n0, fun _ => ⟨fun c => absurd c nk, fun _ => s177 ?_⟩⟩
      rw [h2, code0]
      refine ⟨fun c => absurd c n01, fun _ => ⟨xin_n (by omega) (by omega), ?_⟩⟩
      refine ⟨⟨?_, um_eq _ _ _ _⟩, CPL_th h⟩
      rw [um_a (by omega), ix_n32 (by omega)]
      exact r1.se (by omega)
theorem p_plan {v1 v2 : Int32} {N : Nat} (h : CPL m N) : PRI (D + 12) 100 254 [vR 10 0, vI v1, vI v2] [vR 11 283, vI v1, vI v2] mpSPA m N := by
  unfold PRI
  have no : ∀ c, codeOf (m 283 6) (inI v1 (n32 0) (m 284 8 - n32 1)) (inI v2 (n32 0) (n32 3)) = c → 1 ≤ c → c ≤ 3 → VI (D + 12) 254 [vR 11 283, vI v1, vI v2] m (fun _ m2 => (m2 283 0 = n32 c ∧ 1 ≤ c ∧ c ≤ 3) ∧ CPL m2 N) (fun _ _ => False) := by
    intro c hc y1 y3
    have cn : ¬ c = 0 := by omega
    unfold inI at hc
    refine w254_0 ⟨fun d1 => ⟨fun d2 => s176 ?_, fun d2 => ⟨fun d3 => s176 ?_, fun d3 => s176 ?_⟩⟩, fun d1 => ?_⟩
    · rw [if_pos d1, if_pos d2] at hc
      rw [hc, if_neg cn]
      exact ⟨fun _ => ⟨⟨um_eq _ _ _ _, y1, y3⟩, CPL_th h⟩, fun c => absurd rfl c⟩
    · rw [if_pos d1, if_neg d2, if_pos d3] at hc
      rw [hc, if_neg cn]
      exact ⟨fun _ => ⟨⟨um_eq _ _ _ _, y1, y3⟩, CPL_th h⟩, fun c => absurd rfl c⟩
    · rw [if_pos d1, if_neg d2, if_neg d3] at hc
      rw [hc, if_neg cn]
      exact ⟨fun _ => ⟨⟨um_eq _ _ _ _, y1, y3⟩, CPL_th h⟩, fun c => absurd rfl c⟩
    · rw [ix_n32 (by omega)]
      refine ⟨fun d4 => ⟨fun d2 => s176 ?_, fun d2 => ⟨fun d3 => s176 ?_, fun d3 => s176 ?_⟩⟩, fun d4 => ⟨fun d2 => s176 ?_, fun d2 => ⟨fun d3 => s176 ?_, fun d3 => s176 ?_⟩⟩⟩
      · rw [if_neg d1, if_pos d4, if_pos d2] at hc
        rw [hc, if_neg cn]
        exact ⟨fun _ => ⟨⟨um_eq _ _ _ _, y1, y3⟩, CPL_th h⟩, fun c => absurd rfl c⟩
      · rw [if_neg d1, if_pos d4, if_neg d2, if_pos d3] at hc
        rw [hc, if_neg cn]
        exact ⟨fun _ => ⟨⟨um_eq _ _ _ _, y1, y3⟩, CPL_th h⟩, fun c => absurd rfl c⟩
      · rw [if_neg d1, if_pos d4, if_neg d2, if_neg d3] at hc
        rw [hc, if_neg cn]
        exact ⟨fun _ => ⟨⟨um_eq _ _ _ _, y1, y3⟩, CPL_th h⟩, fun c => absurd rfl c⟩
      · rw [if_neg d1, if_neg d4, if_pos d2] at hc
        rw [hc, if_neg cn]
        exact ⟨fun _ => ⟨⟨um_eq _ _ _ _, y1, y3⟩, CPL_th h⟩, fun c => absurd rfl c⟩
      · rw [if_neg d1, if_neg d4, if_neg d2, if_pos d3] at hc
        rw [hc, if_neg cn]
        exact ⟨fun _ => ⟨⟨um_eq _ _ _ _, y1, y3⟩, CPL_th h⟩, fun c => absurd rfl c⟩
      · rw [if_neg d1, if_neg d4, if_neg d2, if_neg d3] at hc
        rw [hc, if_neg cn]
        exact ⟨fun _ => ⟨⟨um_eq _ _ _ _, y1, y3⟩, CPL_th h⟩, fun c => absurd rfl c⟩
  rcases h.ld with ⟨h1, h2⟩ | ⟨h1, h2, r1, r2, r3, T, hT, si⟩
  · exact w100_0 ⟨fun _ => no 1 (by rw [h2, code1]) (by omega) (by omega), fun c => absurd h1 c⟩
  · have w := si.w
    have a2 := w.nb
    have a6 := w.np
    have a9 := w.nl
    have e8 : m 284 8 = n32 (nPl (m 284)) := w.2.2.1.1
    have e16 : m (29 + 16) 0 = n32 (nPl (m 284)) := by rw [r1.np]; exact e8
    rcases inI_cases (v := v1) (n := nPl (m 284)) (by omega) with ⟨c1, c2⟩ | ⟨b, hb, rfl, c1⟩
    · have rb := no 2 (by rw [h2, e8, c1, code2]) (by omega) (by omega)
      refine w100_0 ⟨fun c => absurd (h1.symm.trans c) n01, fun _ => ⟨fun _ => rb, fun d1 => ⟨fun d2 => ?_, fun _ => rb⟩⟩⟩
      rw [e16] at d2
      rcases c2 with c2 | c2
      · exact absurd c2 d1
      · exact absurd d2 c2
    · have b0 : ¬ n32 b < n32 0 := by rw [n32_lt (by omega) (by omega)]; omega
      have bn : n32 b < m (29 + 16) 0 := by rw [e16, n32_lt (by omega) (by omega)]; omega
      have bm : ¬ m 284 (ix (n32 8)) - n32 1 < n32 b := by rw [ix_n32 (by omega), e8, n32_sub (by omega), n32_lt (by omega) (by omega)]; omega
      rcases rng_cases v2 3 (by omega) with ⟨d1, e1⟩ | ⟨d1, d2, e1⟩ | ⟨j, hj, rfl, e1⟩
      · exact w100_0 ⟨fun c => absurd (h1.symm.trans c) n01, fun _ => ⟨fun c => absurd c b0, fun _ => ⟨fun _ => ⟨fun _ => no 3 (by rw [h2, e8, c1, e1, code3]) (by omega) (by omega), fun c => absurd d1 c⟩, fun c => absurd bn c⟩⟩⟩
      · exact w100_0 ⟨fun c => absurd (h1.symm.trans c) n01, fun _ => ⟨fun c => absurd c b0, fun _ => ⟨fun _ => ⟨fun c => absurd c d1, fun _ => ⟨fun _ => no 3 (by rw [h2, e8, c1, e1, code3]) (by omega) (by omega), fun c => absurd d2 c⟩⟩, fun c => absurd bn c⟩⟩⟩
      · obtain ⟨x1, x2⟩ := fin1 h (show m 284 = m 284 from rfl)
        have n0 : ¬ n32 j < n32 0 := by rw [n32_lt (by omega) (by omega)]; omega
        have nk : ¬ n32 3 < n32 j := by rw [n32_lt (by omega) (by omega)]; omega
        obtain rfl | rfl | rfl | rfl : j = 0 ∨ j = 1 ∨ j = 2 ∨ j = 3 := by omega
        · refine w100_0 ⟨fun c => absurd (h1.symm.trans c) n01, fun _ => ⟨fun c => absurd c b0, fun _ => ⟨fun _ => ⟨fun c => absurd c n0, fun _ => ⟨fun c => absurd c nk, fun _ => ⟨fun _ => ?_, fun c => absurd rfl c⟩⟩⟩, fun c => absurd bn c⟩⟩⟩
          refine ⟨xin_n (by omega) (by omega), ?_⟩
          rw [ix_n32 (show b < 2147483648 by omega)]
          rw [r1.pt hb]
          refine w254_0 ⟨fun c => absurd c b0, fun _ => ⟨fun c => absurd c bm, fun _ => ⟨fun c => absurd c n0, fun _ => ⟨fun c => absurd c nk, fun _ => s176 ?_⟩⟩⟩⟩
          rw [h2, code0]
          refine ⟨fun c => absurd c n01, fun _ => ?_⟩
          rw [st0 (show m 284 = m 284 from rfl)]
          refine ⟨fun c => absurd ((n32_le (by omega) (by omega)).mp c) (by omega), fun _ => ?_⟩
          simp (disch := omega) only [smg_at, n32_mul, n32_add, Nat.add_zero, xin_t, ix_n32, true_and]
          first | exact ⟨⟨rfl, x1⟩, x2⟩ | exact ⟨⟨trivial, x1⟩, x2⟩ | exact ⟨x1, x2⟩
        · refine w100_0 ⟨fun c => absurd (h1.symm.trans c) n01, fun _ => ⟨fun c => absurd c b0, fun _ => ⟨fun _ => ⟨fun c => absurd c n0, fun _ => ⟨fun c => absurd c nk, fun _ => ⟨fun c => absurd c (n32_ne (by decide) (by decide) (by decide)), fun _ => ⟨fun _ => ?_, fun c => absurd rfl c⟩⟩⟩⟩, fun c => absurd bn c⟩⟩⟩
          refine ⟨xin_n (by omega) (by omega), ?_⟩
          rw [ix_n32 (show b < 2147483648 by omega)]
          rw [r1.pa hb]
          refine w254_0 ⟨fun c => absurd c b0, fun _ => ⟨fun c => absurd c bm, fun _ => ⟨fun c => absurd c n0, fun _ => ⟨fun c => absurd c nk, fun _ => s176 ?_⟩⟩⟩⟩
          rw [h2, code0]
          refine ⟨fun c => absurd c n01, fun _ => ?_⟩
          rw [st0 (show m 284 = m 284 from rfl)]
          refine ⟨fun c => absurd ((n32_le (by omega) (by omega)).mp c) (by omega), fun _ => ?_⟩
          simp (disch := omega) only [smg_at, n32_mul, n32_add, Nat.add_zero, xin_t, ix_n32, true_and]
          first | exact ⟨⟨rfl, x1⟩, x2⟩ | exact ⟨⟨trivial, x1⟩, x2⟩ | exact ⟨x1, x2⟩
        · refine w100_0 ⟨fun c => absurd (h1.symm.trans c) n01, fun _ => ⟨fun c => absurd c b0, fun _ => ⟨fun _ => ⟨fun c => absurd c n0, fun _ => ⟨fun c => absurd c nk, fun _ => ⟨fun c => absurd c (n32_ne (by decide) (by decide) (by decide)), fun _ => ⟨fun c => absurd c (n32_ne (by decide) (by decide) (by decide)), fun _ => ⟨fun _ => ?_, fun c => absurd rfl c⟩⟩⟩⟩⟩, fun c => absurd bn c⟩⟩⟩
          refine ⟨xin_n (by omega) (by omega), ?_⟩
          rw [ix_n32 (show b < 2147483648 by omega)]
          rw [r1.po hb]
          refine w254_0 ⟨fun c => absurd c b0, fun _ => ⟨fun c => absurd c bm, fun _ => ⟨fun c => absurd c n0, fun _ => ⟨fun c => absurd c nk, fun _ => s176 ?_⟩⟩⟩⟩
          rw [h2, code0]
          refine ⟨fun c => absurd c n01, fun _ => ?_⟩
          rw [st0 (show m 284 = m 284 from rfl)]
          refine ⟨fun c => absurd ((n32_le (by omega) (by omega)).mp c) (by omega), fun _ => ?_⟩
          simp (disch := omega) only [smg_at, n32_mul, n32_add, Nat.add_zero, xin_t, ix_n32, true_and]
          first | exact ⟨⟨rfl, x1⟩, x2⟩ | exact ⟨⟨trivial, x1⟩, x2⟩ | exact ⟨x1, x2⟩
        · refine w100_0 ⟨fun c => absurd (h1.symm.trans c) n01, fun _ => ⟨fun c => absurd c b0, fun _ => ⟨fun _ => ⟨fun c => absurd c n0, fun _ => ⟨fun c => absurd c nk, fun _ => ⟨fun c => absurd c (n32_ne (by decide) (by decide) (by decide)), fun _ => ⟨fun c => absurd c (n32_ne (by decide) (by decide) (by decide)), fun _ => ⟨fun c => absurd c (n32_ne (by decide) (by decide) (by decide)), fun _ => ?_⟩⟩⟩⟩⟩, fun c => absurd bn c⟩⟩⟩
          refine ⟨xin_n (by omega) (by omega), ?_⟩
          rw [ix_n32 (show b < 2147483648 by omega)]
          rw [r1.po hb, r1.pt hb, r1.tm]
          have go : ∀ Q : Int32 → XM → Prop, Q (if m 284 (171 + 3 * b + 2) = n32 0 then m 284 (171 + 3 * b) - m 284 9 else -(n32 1)) (smg (um m 283 0 (n32 0)) (m 284)) → VI (D + 12) 254 [vR 11 283, vI (n32 b), vI (n32 3)] m Q (fun _ _ => False) := by
            intro Q hQ
            refine w254_0 ⟨fun c => absurd c b0, fun _ => ⟨fun c => absurd c bm, fun _ => ⟨fun c => absurd c n0, fun _ => ⟨fun c => absurd c nk, fun _ => s176 ?_⟩⟩⟩⟩
            rw [h2, code0]
            refine ⟨fun c => absurd c n01, fun _ => ?_⟩
            rw [st0 (show m 284 = m 284 from rfl)]
            refine ⟨fun _ => ?_, fun c => absurd (n32_rfl _) c⟩
            simp (disch := omega) only [smg_at, n32_mul, n32_add, Nat.add_zero, xin_t, ix_n32, true_and]
            by_cases c : m 284 (171 + 3 * b + 2) = n32 0
            · rw [if_pos c] at hQ
              exact ⟨fun _ => hQ, fun c' => absurd c c'⟩
            · rw [if_neg c] at hQ
              exact ⟨fun c' => absurd c' c, fun _ => hQ⟩
          refine ⟨fun c => go _ ?_, fun c => go _ ?_⟩
          · rw [if_pos c]
            first | exact ⟨⟨rfl, x1⟩, x2⟩ | exact ⟨⟨trivial, x1⟩, x2⟩ | exact ⟨x1, x2⟩
          · rw [if_neg c]
            first | exact ⟨⟨rfl, x1⟩, x2⟩ | exact ⟨⟨trivial, x1⟩, x2⟩ | exact ⟨x1, x2⟩
theorem p_lying {v1 v2 : Int32} {N : Nat} (h : CPL m N) : PRI (D + 12) 101 255 [vR 10 0, vI v1, vI v2] [vR 11 283, vI v1, vI v2] mpSPA m N := by
  unfold PRI
  have no : ∀ c, codeOf (m 283 6) (inI v1 (n32 0) (m 284 10 - n32 1)) (inI v2 (n32 0) (n32 2)) = c → 1 ≤ c → c ≤ 3 → VI (D + 12) 255 [vR 11 283, vI v1, vI v2] m (fun _ m2 => (m2 283 0 = n32 c ∧ 1 ≤ c ∧ c ≤ 3) ∧ CPL m2 N) (fun _ _ => False) := by
    intro c hc y1 y3
    have cn : ¬ c = 0 := by omega
    unfold inI at hc
    refine w255_0 ⟨fun d1 => ⟨fun d2 => s176 ?_, fun d2 => ⟨fun d3 => s176 ?_, fun d3 => s176 ?_⟩⟩, fun d1 => ?_⟩
    · rw [if_pos d1, if_pos d2] at hc
      rw [hc, if_neg cn]
      exact ⟨fun _ => ⟨⟨um_eq _ _ _ _, y1, y3⟩, CPL_th h⟩, fun c => absurd rfl c⟩
    · rw [if_pos d1, if_neg d2, if_pos d3] at hc
      rw [hc, if_neg cn]
      exact ⟨fun _ => ⟨⟨um_eq _ _ _ _, y1, y3⟩, CPL_th h⟩, fun c => absurd rfl c⟩
    · rw [if_pos d1, if_neg d2, if_neg d3] at hc
      rw [hc, if_neg cn]
      exact ⟨fun _ => ⟨⟨um_eq _ _ _ _, y1, y3⟩, CPL_th h⟩, fun c => absurd rfl c⟩
    · rw [ix_n32 (by omega)]
      refine ⟨fun d4 => ⟨fun d2 => s176 ?_, fun d2 => ⟨fun d3 => s176 ?_, fun d3 => s176 ?_⟩⟩, fun d4 => ⟨fun d2 => s176 ?_, fun d2 => ⟨fun d3 => s176 ?_, fun d3 => s176 ?_⟩⟩⟩
      · rw [if_neg d1, if_pos d4, if_pos d2] at hc
        rw [hc, if_neg cn]
        exact ⟨fun _ => ⟨⟨um_eq _ _ _ _, y1, y3⟩, CPL_th h⟩, fun c => absurd rfl c⟩
      · rw [if_neg d1, if_pos d4, if_neg d2, if_pos d3] at hc
        rw [hc, if_neg cn]
        exact ⟨fun _ => ⟨⟨um_eq _ _ _ _, y1, y3⟩, CPL_th h⟩, fun c => absurd rfl c⟩
      · rw [if_neg d1, if_pos d4, if_neg d2, if_neg d3] at hc
        rw [hc, if_neg cn]
        exact ⟨fun _ => ⟨⟨um_eq _ _ _ _, y1, y3⟩, CPL_th h⟩, fun c => absurd rfl c⟩
      · rw [if_neg d1, if_neg d4, if_pos d2] at hc
        rw [hc, if_neg cn]
        exact ⟨fun _ => ⟨⟨um_eq _ _ _ _, y1, y3⟩, CPL_th h⟩, fun c => absurd rfl c⟩
      · rw [if_neg d1, if_neg d4, if_neg d2, if_pos d3] at hc
        rw [hc, if_neg cn]
        exact ⟨fun _ => ⟨⟨um_eq _ _ _ _, y1, y3⟩, CPL_th h⟩, fun c => absurd rfl c⟩
      · rw [if_neg d1, if_neg d4, if_neg d2, if_neg d3] at hc
        rw [hc, if_neg cn]
        exact ⟨fun _ => ⟨⟨um_eq _ _ _ _, y1, y3⟩, CPL_th h⟩, fun c => absurd rfl c⟩
  rcases h.ld with ⟨h1, h2⟩ | ⟨h1, h2, r1, r2, r3, T, hT, si⟩
  · exact w101_0 ⟨fun _ => no 1 (by rw [h2, code1]) (by omega) (by omega), fun c => absurd h1 c⟩
  · have w := si.w
    have a2 := w.nb
    have a6 := w.np
    have a9 := w.nl
    have e8 : m 284 10 = n32 (nL (m 284)) := w.2.2.2.1.1
    have e16 : m (29 + 12) 0 = n32 (nL (m 284)) := by rw [r1.nl]; exact e8
    rcases inI_cases (v := v1) (n := nL (m 284)) (by omega) with ⟨c1, c2⟩ | ⟨b, hb, rfl, c1⟩
    · have rb := no 2 (by rw [h2, e8, c1, code2]) (by omega) (by omega)
      refine w101_0 ⟨fun c => absurd (h1.symm.trans c) n01, fun _ => ⟨fun _ => rb, fun d1 => ⟨fun d2 => ?_, fun _ => rb⟩⟩⟩
      rw [e16] at d2
      rcases c2 with c2 | c2
      · exact absurd c2 d1
      · exact absurd d2 c2
    · have b0 : ¬ n32 b < n32 0 := by rw [n32_lt (by omega) (by omega)]; omega
      have bn : n32 b < m (29 + 12) 0 := by rw [e16, n32_lt (by omega) (by omega)]; omega
      have bm : ¬ m 284 (ix (n32 10)) - n32 1 < n32 b := by rw [ix_n32 (by omega), e8, n32_sub (by omega), n32_lt (by omega) (by omega)]; omega
      rcases rng_cases v2 2 (by omega) with ⟨d1, e1⟩ | ⟨d1, d2, e1⟩ | ⟨j, hj, rfl, e1⟩
      · exact w101_0 ⟨fun c => absurd (h1.symm.trans c) n01, fun _ => ⟨fun c => absurd c b0, fun _ => ⟨fun _ => ⟨fun _ => no 3 (by rw [h2, e8, c1, e1, code3]) (by omega) (by omega), fun c => absurd d1 c⟩, fun c => absurd bn c⟩⟩⟩
      · exact w101_0 ⟨fun c => absurd (h1.symm.trans c) n01, fun _ => ⟨fun c => absurd c b0, fun _ => ⟨fun _ => ⟨fun c => absurd c d1, fun _ => ⟨fun _ => no 3 (by rw [h2, e8, c1, e1, code3]) (by omega) (by omega), fun c => absurd d2 c⟩⟩, fun c => absurd bn c⟩⟩⟩
      · obtain ⟨x1, x2⟩ := fin1 h (show m 284 = m 284 from rfl)
        have n0 : ¬ n32 j < n32 0 := by rw [n32_lt (by omega) (by omega)]; omega
        have nk : ¬ n32 2 < n32 j := by rw [n32_lt (by omega) (by omega)]; omega
        obtain rfl | rfl | rfl : j = 0 ∨ j = 1 ∨ j = 2 := by omega
        · refine w101_0 ⟨fun c => absurd (h1.symm.trans c) n01, fun _ => ⟨fun c => absurd c b0, fun _ => ⟨fun _ => ⟨fun c => absurd c n0, fun _ => ⟨fun c => absurd c nk, fun _ => ⟨fun _ => ?_, fun c => absurd rfl c⟩⟩⟩, fun c => absurd bn c⟩⟩⟩
          refine ⟨xin_n (by omega) (by omega), ?_⟩
          rw [ix_n32 (show b < 2147483648 by omega)]
          rw [r1.ll hb]
          refine w255_0 ⟨fun c => absurd c b0, fun _ => ⟨fun c => absurd c bm, fun _ => ⟨fun c => absurd c n0, fun _ => ⟨fun c => absurd c nk, fun _ => s176 ?_⟩⟩⟩⟩
          rw [h2, code0]
          refine ⟨fun c => absurd c n01, fun _ => ?_⟩
          rw [st0 (show m 284 = m 284 from rfl)]
          simp (disch := omega) only [smg_at, n32_mul, n32_add, Nat.add_zero, xin_t, ix_n32, true_and]
          first | exact ⟨⟨rfl, x1⟩, x2⟩ | exact ⟨⟨trivial, x1⟩, x2⟩ | exact ⟨x1, x2⟩
        · refine w101_0 ⟨fun c => absurd (h1.symm.trans c) n01, fun _ => ⟨fun c => absurd c b0, fun _ => ⟨fun _ => ⟨fun c => absurd c n0, fun _ => ⟨fun c => absurd c nk, fun _ => ⟨fun c => absurd c (n32_ne (by decide) (by decide) (by decide)), fun _ => ⟨fun _ => ?_, fun c => absurd rfl c⟩⟩⟩⟩, fun c => absurd bn c⟩⟩⟩
          refine ⟨xin_n (by omega) (by omega), ?_⟩
          rw [ix_n32 (show b < 2147483648 by omega)]
          rw [r1.lp hb]
          refine w255_0 ⟨fun c => absurd c b0, fun _ => ⟨fun c => absurd c bm, fun _ => ⟨fun c => absurd c n0, fun _ => ⟨fun c => absurd c nk, fun _ => s176 ?_⟩⟩⟩⟩
          rw [h2, code0]
          refine ⟨fun c => absurd c n01, fun _ => ?_⟩
          rw [st0 (show m 284 = m 284 from rfl)]
          simp (disch := omega) only [smg_at, n32_mul, n32_add, Nat.add_zero, xin_t, ix_n32, true_and]
          first | exact ⟨⟨rfl, x1⟩, x2⟩ | exact ⟨⟨trivial, x1⟩, x2⟩ | exact ⟨x1, x2⟩
        · refine w101_0 ⟨fun c => absurd (h1.symm.trans c) n01, fun _ => ⟨fun c => absurd c b0, fun _ => ⟨fun _ => ⟨fun c => absurd c n0, fun _ => ⟨fun c => absurd c nk, fun _ => ⟨fun c => absurd c (n32_ne (by decide) (by decide) (by decide)), fun _ => ⟨fun c => absurd c (n32_ne (by decide) (by decide) (by decide)), fun _ => ?_⟩⟩⟩⟩, fun c => absurd bn c⟩⟩⟩
          refine ⟨xin_n (by omega) (by omega), ?_⟩
          rw [ix_n32 (show b < 2147483648 by omega)]
          rw [r1.lt hb]
          refine w255_0 ⟨fun c => absurd c b0, fun _ => ⟨fun c => absurd c bm, fun _ => ⟨fun c => absurd c n0, fun _ => ⟨fun c => absurd c nk, fun _ => s176 ?_⟩⟩⟩⟩
          rw [h2, code0]
          refine ⟨fun c => absurd c n01, fun _ => ?_⟩
          rw [st0 (show m 284 = m 284 from rfl)]
          simp (disch := omega) only [smg_at, n32_mul, n32_add, Nat.add_zero, xin_t, ix_n32, true_and]
          first | exact ⟨⟨rfl, x1⟩, x2⟩ | exact ⟨⟨trivial, x1⟩, x2⟩ | exact ⟨x1, x2⟩
theorem p_count_0 {N : Nat} (h : CPL m N) (h1 : m 0 7 = n32 1) (h2 : m 283 6 = n32 1) (hS : SS m 29 (m 284) N) : PRI (D + 12) 96 239 [vR 10 0, vI (n32 0)] [vR 11 283, vI (n32 0)] mpSA m N := by
  unfold PRI
  obtain ⟨r1, r2, r3, T, hT, si⟩ := hS
  have w := si.w
  have a2 := w.nb
  have a4 := w.ns
  have a6 := w.np
  obtain ⟨x1, x2⟩ := fin1 h (show m 284 = m 284 from rfl)
  have n0 : ¬ n32 0 < n32 0 := by rw [n32_lt (by omega) (by omega)]; omega
  have nk : ¬ n32 16 < n32 0 := by rw [n32_lt (by omega) (by omega)]; omega
  have e6 : m (29 + 3) 0 = n32 (nBr (m 284)) := by rw [r1.nb]; exact w.1.1
  have e8 : m (29 + 16) 0 = n32 (nPl (m 284)) := by rw [r1.np]; exact w.2.2.1.1
  have g6 : smg (um m 283 0 (n32 0)) (m 284) 284 6 = n32 (nBr (m 284)) := by rw [smg_at]; exact w.1.1
  have g7 : smg (um m 283 0 (n32 0)) (m 284) 284 7 = n32 (nSt (m 284)) := by rw [smg_at]; exact w.2.1.1
  have g8 : smg (um m 283 0 (n32 0)) (m 284) 284 8 = n32 (nPl (m 284)) := by rw [smg_at]; exact w.2.2.1.1
  refine w96_0 ⟨fun c => absurd (h1.symm.trans c) n01, fun _ => ⟨fun c => absurd c n0, fun _ => ⟨fun c => absurd c nk, fun _ => ⟨fun _ => ?_, fun c => absurd rfl c⟩⟩⟩⟩
  refine w239_0 ⟨fun c => absurd c n0, fun _ => ⟨fun c => absurd c nk, fun _ => s177 ?_⟩⟩
  rw [h2, code0]
  refine ⟨fun c => absurd c n01, fun _ => ⟨fun _ => ?_, fun c => absurd rfl c⟩⟩
  refine ⟨⟨?_, um_eq _ _ _ _⟩, CPL_th h⟩
  rw [um_a (by omega), ix_n32 (by omega)]
  exact r1.nb
theorem p_count_1 {N : Nat} (h : CPL m N) (h1 : m 0 7 = n32 1) (h2 : m 283 6 = n32 1) (hS : SS m 29 (m 284) N) : PRI (D + 12) 96 239 [vR 10 0, vI (n32 1)] [vR 11 283, vI (n32 1)] mpSA m N := by
  unfold PRI
  obtain ⟨r1, r2, r3, T, hT, si⟩ := hS
  have w := si.w
  have a2 := w.nb
  have a4 := w.ns
  have a6 := w.np
  obtain ⟨x1, x2⟩ := fin1 h (show m 284 = m 284 from rfl)
  have n0 : ¬ n32 1 < n32 0 := by rw [n32_lt (by omega) (by omega)]; omega
  have nk : ¬ n32 16 < n32 1 := by rw [n32_lt (by omega) (by omega)]; omega
  have e6 : m (29 + 3) 0 = n32 (nBr (m 284)) := by rw [r1.nb]; exact w.1.1
  have e8 : m (29 + 16) 0 = n32 (nPl (m 284)) := by rw [r1.np]; exact w.2.2.1.1
  have g6 : smg (um m 283 0 (n32 0)) (m 284) 284 6 = n32 (nBr (m 284)) := by rw [smg_at]; exact w.1.1
  have g7 : smg (um m 283 0 (n32 0)) (m 284) 284 7 = n32 (nSt (m 284)) := by rw [smg_at]; exact w.2.1.1
  have g8 : smg (um m 283 0 (n32 0)) (m 284) 284 8 = n32 (nPl (m 284)) := by rw [smg_at]; exact w.2.2.1.1
  refine w96_0 ⟨fun c => absurd (h1.symm.trans c) n01, fun _ => ⟨fun c => absurd c n0, fun _ => ⟨fun c => absurd c nk, fun _ => ⟨fun c => absurd c (n32_ne (by decide) (by decide) (by decide)), fun _ => ⟨fun _ => ?_, fun c => absurd rfl c⟩⟩⟩⟩⟩
  refine w239_0 ⟨fun c => absurd c n0, fun _ => ⟨fun c => absurd c nk, fun _ => s177 ?_⟩⟩
  rw [h2, code0]
  refine ⟨fun c => absurd c n01, fun _ => ⟨fun c => absurd c (n32_ne (by decide) (by decide) (by decide)), fun _ => ⟨fun _ => ?_, fun c => absurd rfl c⟩⟩⟩
  refine ⟨⟨?_, um_eq _ _ _ _⟩, CPL_th h⟩
  rw [um_a (by omega), ix_n32 (by omega)]
  exact r3.1
theorem p_count_2 {N : Nat} (h : CPL m N) (h1 : m 0 7 = n32 1) (h2 : m 283 6 = n32 1) (hS : SS m 29 (m 284) N) : PRI (D + 12) 96 239 [vR 10 0, vI (n32 2)] [vR 11 283, vI (n32 2)] mpSA m N := by
  unfold PRI
  obtain ⟨r1, r2, r3, T, hT, si⟩ := hS
  have w := si.w
  have a2 := w.nb
  have a4 := w.ns
  have a6 := w.np
  obtain ⟨x1, x2⟩ := fin1 h (show m 284 = m 284 from rfl)
  have n0 : ¬ n32 2 < n32 0 := by rw [n32_lt (by omega) (by omega)]; omega
  have nk : ¬ n32 16 < n32 2 := by rw [n32_lt (by omega) (by omega)]; omega
  have e6 : m (29 + 3) 0 = n32 (nBr (m 284)) := by rw [r1.nb]; exact w.1.1
  have e8 : m (29 + 16) 0 = n32 (nPl (m 284)) := by rw [r1.np]; exact w.2.2.1.1
  have g6 : smg (um m 283 0 (n32 0)) (m 284) 284 6 = n32 (nBr (m 284)) := by rw [smg_at]; exact w.1.1
  have g7 : smg (um m 283 0 (n32 0)) (m 284) 284 7 = n32 (nSt (m 284)) := by rw [smg_at]; exact w.2.1.1
  have g8 : smg (um m 283 0 (n32 0)) (m 284) 284 8 = n32 (nPl (m 284)) := by rw [smg_at]; exact w.2.2.1.1
  refine w96_0 ⟨fun c => absurd (h1.symm.trans c) n01, fun _ => ⟨fun c => absurd c n0, fun _ => ⟨fun c => absurd c nk, fun _ => ⟨fun c => absurd c (n32_ne (by decide) (by decide) (by decide)), fun _ => ⟨fun c => absurd c (n32_ne (by decide) (by decide) (by decide)), fun _ => ⟨fun _ => ?_, fun c => absurd rfl c⟩⟩⟩⟩⟩⟩
  refine w239_0 ⟨fun c => absurd c n0, fun _ => ⟨fun c => absurd c nk, fun _ => s177 ?_⟩⟩
  rw [h2, code0]
  refine ⟨fun c => absurd c n01, fun _ => ⟨fun c => absurd c (n32_ne (by decide) (by decide) (by decide)), fun _ => ⟨fun c => absurd c (n32_ne (by decide) (by decide) (by decide)), fun _ => ⟨fun _ => ?_, fun c => absurd rfl c⟩⟩⟩⟩
  refine ⟨⟨?_, um_eq _ _ _ _⟩, CPL_th h⟩
  rw [um_a (by omega), ix_n32 (by omega)]
  exact r1.np
theorem p_count_3 {N : Nat} (h : CPL m N) (h1 : m 0 7 = n32 1) (h2 : m 283 6 = n32 1) (hS : SS m 29 (m 284) N) : PRI (D + 12) 96 239 [vR 10 0, vI (n32 3)] [vR 11 283, vI (n32 3)] mpSA m N := by
  unfold PRI
  obtain ⟨r1, r2, r3, T, hT, si⟩ := hS
  have w := si.w
  have a2 := w.nb
  have a4 := w.ns
  have a6 := w.np
  obtain ⟨x1, x2⟩ := fin1 h (show m 284 = m 284 from rfl)
  have n0 : ¬ n32 3 < n32 0 := by rw [n32_lt (by omega) (by omega)]; omega
  have nk : ¬ n32 16 < n32 3 := by rw [n32_lt (by omega) (by omega)]; omega
  have e6 : m (29 + 3) 0 = n32 (nBr (m 284)) := by rw [r1.nb]; exact w.1.1
  have e8 : m (29 + 16) 0 = n32 (nPl (m 284)) := by rw [r1.np]; exact w.2.2.1.1
  have g6 : smg (um m 283 0 (n32 0)) (m 284) 284 6 = n32 (nBr (m 284)) := by rw [smg_at]; exact w.1.1
  have g7 : smg (um m 283 0 (n32 0)) (m 284) 284 7 = n32 (nSt (m 284)) := by rw [smg_at]; exact w.2.1.1
  have g8 : smg (um m 283 0 (n32 0)) (m 284) 284 8 = n32 (nPl (m 284)) := by rw [smg_at]; exact w.2.2.1.1
  refine w96_0 ⟨fun c => absurd (h1.symm.trans c) n01, fun _ => ⟨fun c => absurd c n0, fun _ => ⟨fun c => absurd c nk, fun _ => ⟨fun c => absurd c (n32_ne (by decide) (by decide) (by decide)), fun _ => ⟨fun c => absurd c (n32_ne (by decide) (by decide) (by decide)), fun _ => ⟨fun c => absurd c (n32_ne (by decide) (by decide) (by decide)), fun _ => ⟨fun _ => ?_, fun c => absurd rfl c⟩⟩⟩⟩⟩⟩⟩
  refine w239_0 ⟨fun c => absurd c n0, fun _ => ⟨fun c => absurd c nk, fun _ => s177 ?_⟩⟩
  rw [h2, code0]
  refine ⟨fun c => absurd c n01, fun _ => ⟨fun c => absurd c (n32_ne (by decide) (by decide) (by decide)), fun _ => ⟨fun c => absurd c (n32_ne (by decide) (by decide) (by decide)), fun _ => ⟨fun c => absurd c (n32_ne (by decide) (by decide) (by decide)), fun _ => ⟨fun _ => ?_, fun c => absurd rfl c⟩⟩⟩⟩⟩
  refine ⟨⟨?_, um_eq _ _ _ _⟩, CPL_th h⟩
  rw [um_a (by omega), ix_n32 (by omega)]
  exact r1.tm
theorem p_count_4 {N : Nat} (h : CPL m N) (h1 : m 0 7 = n32 1) (h2 : m 283 6 = n32 1) (hS : SS m 29 (m 284) N) : PRI (D + 12) 96 239 [vR 10 0, vI (n32 4)] [vR 11 283, vI (n32 4)] mpSA m N := by
  unfold PRI
  obtain ⟨r1, r2, r3, T, hT, si⟩ := hS
  have w := si.w
  have a2 := w.nb
  have a4 := w.ns
  have a6 := w.np
  obtain ⟨x1, x2⟩ := fin1 h (show m 284 = m 284 from rfl)
  have n0 : ¬ n32 4 < n32 0 := by rw [n32_lt (by omega) (by omega)]; omega
  have nk : ¬ n32 16 < n32 4 := by rw [n32_lt (by omega) (by omega)]; omega
  have e6 : m (29 + 3) 0 = n32 (nBr (m 284)) := by rw [r1.nb]; exact w.1.1
  have e8 : m (29 + 16) 0 = n32 (nPl (m 284)) := by rw [r1.np]; exact w.2.2.1.1
  have g6 : smg (um m 283 0 (n32 0)) (m 284) 284 6 = n32 (nBr (m 284)) := by rw [smg_at]; exact w.1.1
  have g7 : smg (um m 283 0 (n32 0)) (m 284) 284 7 = n32 (nSt (m 284)) := by rw [smg_at]; exact w.2.1.1
  have g8 : smg (um m 283 0 (n32 0)) (m 284) 284 8 = n32 (nPl (m 284)) := by rw [smg_at]; exact w.2.2.1.1
  refine w96_0 ⟨fun c => absurd (h1.symm.trans c) n01, fun _ => ⟨fun c => absurd c n0, fun _ => ⟨fun c => absurd c nk, fun _ => ⟨fun c => absurd c (n32_ne (by decide) (by decide) (by decide)), fun _ => ⟨fun c => absurd c (n32_ne (by decide) (by decide) (by decide)), fun _ => ⟨fun c => absurd c (n32_ne (by decide) (by decide) (by decide)), fun _ => ⟨fun c => absurd c (n32_ne (by decide) (by decide) (by decide)), fun _ => ⟨fun _ => ?_, fun c => absurd rfl c⟩⟩⟩⟩⟩⟩⟩⟩
  refine s55 (n := nBr (m 284)) e6 a2 ?_
  refine w239_0 ⟨fun c => absurd c n0, fun _ => ⟨fun c => absurd c nk, fun _ => s177 ?_⟩⟩
  rw [h2, code0]
  refine ⟨fun c => absurd c n01, fun _ => ⟨fun c => absurd c (n32_ne (by decide) (by decide) (by decide)), fun _ => ⟨fun c => absurd c (n32_ne (by decide) (by decide) (by decide)), fun _ => ⟨fun c => absurd c (n32_ne (by decide) (by decide) (by decide)), fun _ => ⟨fun c => absurd c (n32_ne (by decide) (by decide) (by decide)), fun _ => ⟨fun _ => ?_, fun c => absurd rfl c⟩⟩⟩⟩⟩⟩
  rw [st0 (show m 284 = m 284 from rfl)]
  refine s230 (n := nBr (m 284)) g6 a2 ?_
  refine ⟨⟨?_, x1⟩, x2⟩
  exact congrArg n32 (cnt_congr fun i hi => by rw [smg_at, r1.ban hi]; exact decide_eq_decide.mpr (not_congr (weak_iff w hi)))
theorem p_count_5 {N : Nat} (h : CPL m N) (h1 : m 0 7 = n32 1) (h2 : m 283 6 = n32 1) (hS : SS m 29 (m 284) N) : PRI (D + 12) 96 239 [vR 10 0, vI (n32 5)] [vR 11 283, vI (n32 5)] mpSA m N := by
  unfold PRI
  obtain ⟨r1, r2, r3, T, hT, si⟩ := hS
  have w := si.w
  have a2 := w.nb
  have a4 := w.ns
  have a6 := w.np
  obtain ⟨x1, x2⟩ := fin1 h (show m 284 = m 284 from rfl)
  have n0 : ¬ n32 5 < n32 0 := by rw [n32_lt (by omega) (by omega)]; omega
  have nk : ¬ n32 16 < n32 5 := by rw [n32_lt (by omega) (by omega)]; omega
  have e6 : m (29 + 3) 0 = n32 (nBr (m 284)) := by rw [r1.nb]; exact w.1.1
  have e8 : m (29 + 16) 0 = n32 (nPl (m 284)) := by rw [r1.np]; exact w.2.2.1.1
  have g6 : smg (um m 283 0 (n32 0)) (m 284) 284 6 = n32 (nBr (m 284)) := by rw [smg_at]; exact w.1.1
  have g7 : smg (um m 283 0 (n32 0)) (m 284) 284 7 = n32 (nSt (m 284)) := by rw [smg_at]; exact w.2.1.1
  have g8 : smg (um m 283 0 (n32 0)) (m 284) 284 8 = n32 (nPl (m 284)) := by rw [smg_at]; exact w.2.2.1.1
  refine w96_0 ⟨fun c => absurd (h1.symm.trans c) n01, fun _ => ⟨fun c => absurd c n0, fun _ => ⟨fun c => absurd c nk, fun _ => ⟨fun c => absurd c (n32_ne (by decide) (by decide) (by decide)), fun _ => ⟨fun c => absurd c (n32_ne (by decide) (by decide) (by decide)), fun _ => ⟨fun c => absurd c (n32_ne (by decide) (by decide) (by decide)), fun _ => ⟨fun c => absurd c (n32_ne (by decide) (by decide) (by decide)), fun _ => ⟨fun c => absurd c (n32_ne (by decide) (by decide) (by decide)), fun _ => ⟨fun _ => ?_, fun c => absurd rfl c⟩⟩⟩⟩⟩⟩⟩⟩⟩
  refine w239_0 ⟨fun c => absurd c n0, fun _ => ⟨fun c => absurd c nk, fun _ => s177 ?_⟩⟩
  rw [h2, code0]
  refine ⟨fun c => absurd c n01, fun _ => ⟨fun c => absurd c (n32_ne (by decide) (by decide) (by decide)), fun _ => ⟨fun c => absurd c (n32_ne (by decide) (by decide) (by decide)), fun _ => ⟨fun c => absurd c (n32_ne (by decide) (by decide) (by decide)), fun _ => ⟨fun c => absurd c (n32_ne (by decide) (by decide) (by decide)), fun _ => ⟨fun c => absurd c (n32_ne (by decide) (by decide) (by decide)), fun _ => ⟨fun _ => ?_, fun c => absurd rfl c⟩⟩⟩⟩⟩⟩⟩
  refine ⟨⟨?_, um_eq _ _ _ _⟩, CPL_th h⟩
  rw [um_a (by omega), ix_n32 (by omega)]
  exact r1.nl
theorem p_count_6 {N : Nat} (h : CPL m N) (h1 : m 0 7 = n32 1) (h2 : m 283 6 = n32 1) (hS : SS m 29 (m 284) N) : PRI (D + 12) 96 239 [vR 10 0, vI (n32 6)] [vR 11 283, vI (n32 6)] mpSA m N := by
  unfold PRI
  obtain ⟨r1, r2, r3, T, hT, si⟩ := hS
  have w := si.w
  have a2 := w.nb
  have a4 := w.ns
  have a6 := w.np
  obtain ⟨x1, x2⟩ := fin1 h (show m 284 = m 284 from rfl)
  have n0 : ¬ n32 6 < n32 0 := by rw [n32_lt (by omega) (by omega)]; omega
  have nk : ¬ n32 16 < n32 6 := by rw [n32_lt (by omega) (by omega)]; omega
  have e6 : m (29 + 3) 0 = n32 (nBr (m 284)) := by rw [r1.nb]; exact w.1.1
  have e8 : m (29 + 16) 0 = n32 (nPl (m 284)) := by rw [r1.np]; exact w.2.2.1.1
  have g6 : smg (um m 283 0 (n32 0)) (m 284) 284 6 = n32 (nBr (m 284)) := by rw [smg_at]; exact w.1.1
  have g7 : smg (um m 283 0 (n32 0)) (m 284) 284 7 = n32 (nSt (m 284)) := by rw [smg_at]; exact w.2.1.1
  have g8 : smg (um m 283 0 (n32 0)) (m 284) 284 8 = n32 (nPl (m 284)) := by rw [smg_at]; exact w.2.2.1.1
  refine w96_0 ⟨fun c => absurd (h1.symm.trans c) n01, fun _ => ⟨fun c => absurd c n0, fun _ => ⟨fun c => absurd c nk, fun _ => ⟨fun c => absurd c (n32_ne (by decide) (by decide) (by decide)), fun _ => ⟨fun c => absurd c (n32_ne (by decide) (by decide) (by decide)), fun _ => ⟨fun c => absurd c (n32_ne (by decide) (by decide) (by decide)), fun _ => ⟨fun c => absurd c (n32_ne (by decide) (by decide) (by decide)), fun _ => ⟨fun c => absurd c (n32_ne (by decide) (by decide) (by decide)), fun _ => ⟨fun c => absurd c (n32_ne (by decide) (by decide) (by decide)), fun _ => ⟨fun _ => ?_, fun c => absurd rfl c⟩⟩⟩⟩⟩⟩⟩⟩⟩⟩
  refine w239_0 ⟨fun c => absurd c n0, fun _ => ⟨fun c => absurd c nk, fun _ => s177 ?_⟩⟩
  rw [h2, code0]
  refine ⟨fun c => absurd c n01, fun _ => ⟨fun c => absurd c (n32_ne (by decide) (by decide) (by decide)), fun _ => ⟨fun c => absurd c (n32_ne (by decide) (by decide) (by decide)), fun _ => ⟨fun c => absurd c (n32_ne (by decide) (by decide) (by decide)), fun _ => ⟨fun c => absurd c (n32_ne (by decide) (by decide) (by decide)), fun _ => ⟨fun c => absurd c (n32_ne (by decide) (by decide) (by decide)), fun _ => ⟨fun c => absurd c (n32_ne (by decide) (by decide) (by decide)), fun _ => ⟨fun _ => ?_, fun c => absurd rfl c⟩⟩⟩⟩⟩⟩⟩⟩
  refine ⟨⟨?_, um_eq _ _ _ _⟩, CPL_th h⟩
  rw [um_a (by omega), ix_n32 (by omega)]
  exact r1.sw
theorem p_count_7 {N : Nat} (h : CPL m N) (h1 : m 0 7 = n32 1) (h2 : m 283 6 = n32 1) (hS : SS m 29 (m 284) N) : PRI (D + 12) 96 239 [vR 10 0, vI (n32 7)] [vR 11 283, vI (n32 7)] mpSA m N := by
  unfold PRI
  obtain ⟨r1, r2, r3, T, hT, si⟩ := hS
  have w := si.w
  have a2 := w.nb
  have a4 := w.ns
  have a6 := w.np
  obtain ⟨x1, x2⟩ := fin1 h (show m 284 = m 284 from rfl)
  have n0 : ¬ n32 7 < n32 0 := by rw [n32_lt (by omega) (by omega)]; omega
  have nk : ¬ n32 16 < n32 7 := by rw [n32_lt (by omega) (by omega)]; omega
  have e6 : m (29 + 3) 0 = n32 (nBr (m 284)) := by rw [r1.nb]; exact w.1.1
  have e8 : m (29 + 16) 0 = n32 (nPl (m 284)) := by rw [r1.np]; exact w.2.2.1.1
  have g6 : smg (um m 283 0 (n32 0)) (m 284) 284 6 = n32 (nBr (m 284)) := by rw [smg_at]; exact w.1.1
  have g7 : smg (um m 283 0 (n32 0)) (m 284) 284 7 = n32 (nSt (m 284)) := by rw [smg_at]; exact w.2.1.1
  have g8 : smg (um m 283 0 (n32 0)) (m 284) 284 8 = n32 (nPl (m 284)) := by rw [smg_at]; exact w.2.2.1.1
  refine w96_0 ⟨fun c => absurd (h1.symm.trans c) n01, fun _ => ⟨fun c => absurd c n0, fun _ => ⟨fun c => absurd c nk, fun _ => ⟨fun c => absurd c (n32_ne (by decide) (by decide) (by decide)), fun _ => ⟨fun c => absurd c (n32_ne (by decide) (by decide) (by decide)), fun _ => ⟨fun c => absurd c (n32_ne (by decide) (by decide) (by decide)), fun _ => ⟨fun c => absurd c (n32_ne (by decide) (by decide) (by decide)), fun _ => ⟨fun c => absurd c (n32_ne (by decide) (by decide) (by decide)), fun _ => ⟨fun c => absurd c (n32_ne (by decide) (by decide) (by decide)), fun _ => ⟨fun c => absurd c (n32_ne (by decide) (by decide) (by decide)), fun _ => ⟨fun _ => ?_, fun c => absurd rfl c⟩⟩⟩⟩⟩⟩⟩⟩⟩⟩⟩
  refine s30 (n := nPl (m 284)) e8 a6 ?_
  refine w239_0 ⟨fun c => absurd c n0, fun _ => ⟨fun c => absurd c nk, fun _ => s177 ?_⟩⟩
  rw [h2, code0]
  refine ⟨fun c => absurd c n01, fun _ => ⟨fun c => absurd c (n32_ne (by decide) (by decide) (by decide)), fun _ => ⟨fun c => absurd c (n32_ne (by decide) (by decide) (by decide)), fun _ => ⟨fun c => absurd c (n32_ne (by decide) (by decide) (by decide)), fun _ => ⟨fun c => absurd c (n32_ne (by decide) (by decide) (by decide)), fun _ => ⟨fun c => absurd c (n32_ne (by decide) (by decide) (by decide)), fun _ => ⟨fun c => absurd c (n32_ne (by decide) (by decide) (by decide)), fun _ => ⟨fun c => absurd c (n32_ne (by decide) (by decide) (by decide)), fun _ => ⟨fun _ => ?_, fun c => absurd rfl c⟩⟩⟩⟩⟩⟩⟩⟩⟩
  refine ⟨⟨?_, um_eq _ _ _ _⟩, CPL_th h⟩
  rw [um_a (by omega), ix_n32 (by omega)]
  exact (congrArg n32 (cnt_congr fun i hi => by rw [r1.po hi])).trans si.2.2.2.1.symm
theorem p_count_8 {N : Nat} (h : CPL m N) (h1 : m 0 7 = n32 1) (h2 : m 283 6 = n32 1) (hS : SS m 29 (m 284) N) : PRI (D + 12) 96 239 [vR 10 0, vI (n32 8)] [vR 11 283, vI (n32 8)] mpSA m N := by
  unfold PRI
  obtain ⟨r1, r2, r3, T, hT, si⟩ := hS
  have w := si.w
  have a2 := w.nb
  have a4 := w.ns
  have a6 := w.np
  obtain ⟨x1, x2⟩ := fin1 h (show m 284 = m 284 from rfl)
  have n0 : ¬ n32 8 < n32 0 := by rw [n32_lt (by omega) (by omega)]; omega
  have nk : ¬ n32 16 < n32 8 := by rw [n32_lt (by omega) (by omega)]; omega
  have e6 : m (29 + 3) 0 = n32 (nBr (m 284)) := by rw [r1.nb]; exact w.1.1
  have e8 : m (29 + 16) 0 = n32 (nPl (m 284)) := by rw [r1.np]; exact w.2.2.1.1
  have g6 : smg (um m 283 0 (n32 0)) (m 284) 284 6 = n32 (nBr (m 284)) := by rw [smg_at]; exact w.1.1
  have g7 : smg (um m 283 0 (n32 0)) (m 284) 284 7 = n32 (nSt (m 284)) := by rw [smg_at]; exact w.2.1.1
  have g8 : smg (um m 283 0 (n32 0)) (m 284) 284 8 = n32 (nPl (m 284)) := by rw [smg_at]; exact w.2.2.1.1
  refine w96_0 ⟨fun c => absurd (h1.symm.trans c) n01, fun _ => ⟨fun c => absurd c n0, fun _ => ⟨fun c => absurd c nk, fun _ => ⟨fun c => absurd c (n32_ne (by decide) (by decide) (by decide)), fun _ => ⟨fun c => absurd c (n32_ne (by decide) (by decide) (by decide)), fun _ => ⟨fun c => absurd c (n32_ne (by decide) (by decide) (by decide)), fun _ => ⟨fun c => absurd c (n32_ne (by decide) (by decide) (by decide)), fun _ => ⟨fun c => absurd c (n32_ne (by decide) (by decide) (by decide)), fun _ => ⟨fun c => absurd c (n32_ne (by decide) (by decide) (by decide)), fun _ => ⟨fun c => absurd c (n32_ne (by decide) (by decide) (by decide)), fun _ => ⟨fun c => absurd c (n32_ne (by decide) (by decide) (by decide)), fun _ => ⟨fun _ => ?_, fun c => absurd rfl c⟩⟩⟩⟩⟩⟩⟩⟩⟩⟩⟩⟩
  refine w239_0 ⟨fun c => absurd c n0, fun _ => ⟨fun c => absurd c nk, fun _ => s177 ?_⟩⟩
  rw [h2, code0]
  refine ⟨fun c => absurd c n01, fun _ => ⟨fun c => absurd c (n32_ne (by decide) (by decide) (by decide)), fun _ => ⟨fun c => absurd c (n32_ne (by decide) (by decide) (by decide)), fun _ => ⟨fun c => absurd c (n32_ne (by decide) (by decide) (by decide)), fun _ => ⟨fun c => absurd c (n32_ne (by decide) (by decide) (by decide)), fun _ => ⟨fun c => absurd c (n32_ne (by decide) (by decide) (by decide)), fun _ => ⟨fun c => absurd c (n32_ne (by decide) (by decide) (by decide)), fun _ => ⟨fun c => absurd c (n32_ne (by decide) (by decide) (by decide)), fun _ => ⟨fun c => absurd c (n32_ne (by decide) (by decide) (by decide)), fun _ => ⟨fun _ => ?_, fun c => absurd rfl c⟩⟩⟩⟩⟩⟩⟩⟩⟩⟩
  refine ⟨⟨?_, um_eq _ _ _ _⟩, CPL_th h⟩
  rw [um_a (by omega), ix_n32 (by omega)]
  exact r1.dr
theorem p_count_9 {N : Nat} (h : CPL m N) (h1 : m 0 7 = n32 1) (h2 : m 283 6 = n32 1) (hS : SS m 29 (m 284) N) : PRI (D + 12) 96 239 [vR 10 0, vI (n32 9)] [vR 11 283, vI (n32 9)] mpSA m N := by
  unfold PRI
  obtain ⟨r1, r2, r3, T, hT, si⟩ := hS
  have w := si.w
  have a2 := w.nb
  have a4 := w.ns
  have a6 := w.np
  obtain ⟨x1, x2⟩ := fin1 h (show m 284 = m 284 from rfl)
  have n0 : ¬ n32 9 < n32 0 := by rw [n32_lt (by omega) (by omega)]; omega
  have nk : ¬ n32 16 < n32 9 := by rw [n32_lt (by omega) (by omega)]; omega
  have e6 : m (29 + 3) 0 = n32 (nBr (m 284)) := by rw [r1.nb]; exact w.1.1
  have e8 : m (29 + 16) 0 = n32 (nPl (m 284)) := by rw [r1.np]; exact w.2.2.1.1
  have g6 : smg (um m 283 0 (n32 0)) (m 284) 284 6 = n32 (nBr (m 284)) := by rw [smg_at]; exact w.1.1
  have g7 : smg (um m 283 0 (n32 0)) (m 284) 284 7 = n32 (nSt (m 284)) := by rw [smg_at]; exact w.2.1.1
  have g8 : smg (um m 283 0 (n32 0)) (m 284) 284 8 = n32 (nPl (m 284)) := by rw [smg_at]; exact w.2.2.1.1
  refine w96_0 ⟨fun c => absurd (h1.symm.trans c) n01, fun _ => ⟨fun c => absurd c n0, fun _ => ⟨fun c => absurd c nk, fun _ => ⟨fun c => absurd c (n32_ne (by decide) (by decide) (by decide)), fun _ => ⟨fun c => absurd c (n32_ne (by decide) (by decide) (by decide)), fun _ => ⟨fun c => absurd c (n32_ne (by decide) (by decide) (by decide)), fun _ => ⟨fun c => absurd c (n32_ne (by decide) (by decide) (by decide)), fun _ => ⟨fun c => absurd c (n32_ne (by decide) (by decide) (by decide)), fun _ => ⟨fun c => absurd c (n32_ne (by decide) (by decide) (by decide)), fun _ => ⟨fun c => absurd c (n32_ne (by decide) (by decide) (by decide)), fun _ => ⟨fun c => absurd c (n32_ne (by decide) (by decide) (by decide)), fun _ => ⟨fun c => absurd c (n32_ne (by decide) (by decide) (by decide)), fun _ => ⟨fun _ => ?_, fun c => absurd rfl c⟩⟩⟩⟩⟩⟩⟩⟩⟩⟩⟩⟩⟩
  refine w239_0 ⟨fun c => absurd c n0, fun _ => ⟨fun c => absurd c nk, fun _ => s177 ?_⟩⟩
  rw [h2, code0]
  refine ⟨fun c => absurd c n01, fun _ => ⟨fun c => absurd c (n32_ne (by decide) (by decide) (by decide)), fun _ => ⟨fun c => absurd c (n32_ne (by decide) (by decide) (by decide)), fun _ => ⟨fun c => absurd c (n32_ne (by decide) (by decide) (by decide)), fun _ => ⟨fun c => absurd c (n32_ne (by decide) (by decide) (by decide)), fun _ => ⟨fun c => absurd c (n32_ne (by decide) (by decide) (by decide)), fun _ => ⟨fun c => absurd c (n32_ne (by decide) (by decide) (by decide)), fun _ => ⟨fun c => absurd c (n32_ne (by decide) (by decide) (by decide)), fun _ => ⟨fun c => absurd c (n32_ne (by decide) (by decide) (by decide)), fun _ => ⟨fun c => absurd c (n32_ne (by decide) (by decide) (by decide)), fun _ => ⟨fun _ => ?_, fun c => absurd rfl c⟩⟩⟩⟩⟩⟩⟩⟩⟩⟩⟩
  refine ⟨⟨?_, um_eq _ _ _ _⟩, CPL_th h⟩
  rw [um_a (by omega), ix_n32 (by omega)]
  exact r1.pk
theorem p_count_10 {N : Nat} (h : CPL m N) (h1 : m 0 7 = n32 1) (h2 : m 283 6 = n32 1) (hS : SS m 29 (m 284) N) : PRI (D + 12) 96 239 [vR 10 0, vI (n32 10)] [vR 11 283, vI (n32 10)] mpSA m N := by
  unfold PRI
  obtain ⟨r1, r2, r3, T, hT, si⟩ := hS
  have w := si.w
  have a2 := w.nb
  have a4 := w.ns
  have a6 := w.np
  obtain ⟨x1, x2⟩ := fin1 h (show m 284 = m 284 from rfl)
  have n0 : ¬ n32 10 < n32 0 := by rw [n32_lt (by omega) (by omega)]; omega
  have nk : ¬ n32 16 < n32 10 := by rw [n32_lt (by omega) (by omega)]; omega
  have e6 : m (29 + 3) 0 = n32 (nBr (m 284)) := by rw [r1.nb]; exact w.1.1
  have e8 : m (29 + 16) 0 = n32 (nPl (m 284)) := by rw [r1.np]; exact w.2.2.1.1
  have g6 : smg (um m 283 0 (n32 0)) (m 284) 284 6 = n32 (nBr (m 284)) := by rw [smg_at]; exact w.1.1
  have g7 : smg (um m 283 0 (n32 0)) (m 284) 284 7 = n32 (nSt (m 284)) := by rw [smg_at]; exact w.2.1.1
  have g8 : smg (um m 283 0 (n32 0)) (m 284) 284 8 = n32 (nPl (m 284)) := by rw [smg_at]; exact w.2.2.1.1
  refine w96_0 ⟨fun c => absurd (h1.symm.trans c) n01, fun _ => ⟨fun c => absurd c n0, fun _ => ⟨fun c => absurd c nk, fun _ => ⟨fun c => absurd c (n32_ne (by decide) (by decide) (by decide)), fun _ => ⟨fun c => absurd c (n32_ne (by decide) (by decide) (by decide)), fun _ => ⟨fun c => absurd c (n32_ne (by decide) (by decide) (by decide)), fun _ => ⟨fun c => absurd c (n32_ne (by decide) (by decide) (by decide)), fun _ => ⟨fun c => absurd c (n32_ne (by decide) (by decide) (by decide)), fun _ => ⟨fun c => absurd c (n32_ne (by decide) (by decide) (by decide)), fun _ => ⟨fun c => absurd c (n32_ne (by decide) (by decide) (by decide)), fun _ => ⟨fun c => absurd c (n32_ne (by decide) (by decide) (by decide)), fun _ => ⟨fun c => absurd c (n32_ne (by decide) (by decide) (by decide)), fun _ => ⟨fun c => absurd c (n32_ne (by decide) (by decide) (by decide)), fun _ => ⟨fun _ => ?_, fun c => absurd rfl c⟩⟩⟩⟩⟩⟩⟩⟩⟩⟩⟩⟩⟩⟩
  refine s166 w r2 r3 ?_
  refine w239_0 ⟨fun c => absurd c n0, fun _ => ⟨fun c => absurd c nk, fun _ => s177 ?_⟩⟩
  rw [h2, code0]
  refine ⟨fun c => absurd c n01, fun _ => ⟨fun c => absurd c (n32_ne (by decide) (by decide) (by decide)), fun _ => ⟨fun c => absurd c (n32_ne (by decide) (by decide) (by decide)), fun _ => ⟨fun c => absurd c (n32_ne (by decide) (by decide) (by decide)), fun _ => ⟨fun c => absurd c (n32_ne (by decide) (by decide) (by decide)), fun _ => ⟨fun c => absurd c (n32_ne (by decide) (by decide) (by decide)), fun _ => ⟨fun c => absurd c (n32_ne (by decide) (by decide) (by decide)), fun _ => ⟨fun c => absurd c (n32_ne (by decide) (by decide) (by decide)), fun _ => ⟨fun c => absurd c (n32_ne (by decide) (by decide) (by decide)), fun _ => ⟨fun c => absurd c (n32_ne (by decide) (by decide) (by decide)), fun _ => ⟨fun c => absurd c (n32_ne (by decide) (by decide) (by decide)), fun _ => ⟨fun _ => ?_, fun c => absurd rfl c⟩⟩⟩⟩⟩⟩⟩⟩⟩⟩⟩⟩
  rw [st0 (show m 284 = m 284 from rfl)]
  refine s232 (n := nSt (m 284)) g7 a4 ?_
  refine ⟨⟨?_, x1⟩, x2⟩
  simp only [smg_at]
  exact (bits_bset (n := nSt (m 284)) (fun s => decide (¬ m 284 (99 + 12 * s + 3) = -(n32 1))) (by omega)).1
theorem p_count_11 {N : Nat} (h : CPL m N) (h1 : m 0 7 = n32 1) (h2 : m 283 6 = n32 1) (hS : SS m 29 (m 284) N) : PRI (D + 12) 96 239 [vR 10 0, vI (n32 11)] [vR 11 283, vI (n32 11)] mpSA m N := by
  unfold PRI
  obtain ⟨r1, r2, r3, T, hT, si⟩ := hS
  have w := si.w
  have a2 := w.nb
  have a4 := w.ns
  have a6 := w.np
  obtain ⟨x1, x2⟩ := fin1 h (show m 284 = m 284 from rfl)
  have n0 : ¬ n32 11 < n32 0 := by rw [n32_lt (by omega) (by omega)]; omega
  have nk : ¬ n32 16 < n32 11 := by rw [n32_lt (by omega) (by omega)]; omega
  have e6 : m (29 + 3) 0 = n32 (nBr (m 284)) := by rw [r1.nb]; exact w.1.1
  have e8 : m (29 + 16) 0 = n32 (nPl (m 284)) := by rw [r1.np]; exact w.2.2.1.1
  have g6 : smg (um m 283 0 (n32 0)) (m 284) 284 6 = n32 (nBr (m 284)) := by rw [smg_at]; exact w.1.1
  have g7 : smg (um m 283 0 (n32 0)) (m 284) 284 7 = n32 (nSt (m 284)) := by rw [smg_at]; exact w.2.1.1
  have g8 : smg (um m 283 0 (n32 0)) (m 284) 284 8 = n32 (nPl (m 284)) := by rw [smg_at]; exact w.2.2.1.1
  refine w96_0 ⟨fun c => absurd (h1.symm.trans c) n01, fun _ => ⟨fun c => absurd c n0, fun _ => ⟨fun c => absurd c nk, fun _ => ⟨fun c => absurd c (n32_ne (by decide) (by decide) (by decide)), fun _ => ⟨fun c => absurd c (n32_ne (by decide) (by decide) (by decide)), fun _ => ⟨fun c => absurd c (n32_ne (by decide) (by decide) (by decide)), fun _ => ⟨fun c => absurd c (n32_ne (by decide) (by decide) (by decide)), fun _ => ⟨fun c => absurd c (n32_ne (by decide) (by decide) (by decide)), fun _ => ⟨fun c => absurd c (n32_ne (by decide) (by decide) (by decide)), fun _ => ⟨fun c => absurd c (n32_ne (by decide) (by decide) (by decide)), fun _ => ⟨fun c => absurd c (n32_ne (by decide) (by decide) (by decide)), fun _ => ⟨fun c => absurd c (n32_ne (by decide) (by decide) (by decide)), fun _ => ⟨fun c => absurd c (n32_ne (by decide) (by decide) (by decide)), fun _ => ⟨fun c => absurd c (n32_ne (by decide) (by decide) (by decide)), fun _ => ⟨fun _ => ?_, fun c => absurd rfl c⟩⟩⟩⟩⟩⟩⟩⟩⟩⟩⟩⟩⟩⟩⟩
  refine s30 (n := nPl (m 284)) e8 a6 ?_
  refine w239_0 ⟨fun c => absurd c n0, fun _ => ⟨fun c => absurd c nk, fun _ => s177 ?_⟩⟩
  rw [h2, code0]
  refine ⟨fun c => absurd c n01, fun _ => ⟨fun c => absurd c (n32_ne (by decide) (by decide) (by decide)), fun _ => ⟨fun c => absurd c (n32_ne (by decide) (by decide) (by decide)), fun _ => ⟨fun c => absurd c (n32_ne (by decide) (by decide) (by decide)), fun _ => ⟨fun c => absurd c (n32_ne (by decide) (by decide) (by decide)), fun _ => ⟨fun c => absurd c (n32_ne (by decide) (by decide) (by decide)), fun _ => ⟨fun c => absurd c (n32_ne (by decide) (by decide) (by decide)), fun _ => ⟨fun c => absurd c (n32_ne (by decide) (by decide) (by decide)), fun _ => ⟨fun c => absurd c (n32_ne (by decide) (by decide) (by decide)), fun _ => ⟨fun c => absurd c (n32_ne (by decide) (by decide) (by decide)), fun _ => ⟨fun c => absurd c (n32_ne (by decide) (by decide) (by decide)), fun _ => ⟨fun c => absurd c (n32_ne (by decide) (by decide) (by decide)), fun _ => ⟨fun _ => ?_, fun c => absurd rfl c⟩⟩⟩⟩⟩⟩⟩⟩⟩⟩⟩⟩⟩
  rw [st0 (show m 284 = m 284 from rfl)]
  refine s233 (n := nPl (m 284)) g8 a6 ?_
  refine ⟨⟨?_, x1⟩, x2⟩
  exact congrArg n32 (cnt_congr fun i hi => by rw [smg_at, r1.po hi])
theorem p_count_12 {N : Nat} (h : CPL m N) (h1 : m 0 7 = n32 1) (h2 : m 283 6 = n32 1) (hS : SS m 29 (m 284) N) : PRI (D + 12) 96 239 [vR 10 0, vI (n32 12)] [vR 11 283, vI (n32 12)] mpSA m N := by
  unfold PRI
  obtain ⟨r1, r2, r3, T, hT, si⟩ := hS
  have w := si.w
  have a2 := w.nb
  have a4 := w.ns
  have a6 := w.np
  obtain ⟨x1, x2⟩ := fin1 h (show m 284 = m 284 from rfl)
  have n0 : ¬ n32 12 < n32 0 := by rw [n32_lt (by omega) (by omega)]; omega
  have nk : ¬ n32 16 < n32 12 := by rw [n32_lt (by omega) (by omega)]; omega
  have e6 : m (29 + 3) 0 = n32 (nBr (m 284)) := by rw [r1.nb]; exact w.1.1
  have e8 : m (29 + 16) 0 = n32 (nPl (m 284)) := by rw [r1.np]; exact w.2.2.1.1
  have g6 : smg (um m 283 0 (n32 0)) (m 284) 284 6 = n32 (nBr (m 284)) := by rw [smg_at]; exact w.1.1
  have g7 : smg (um m 283 0 (n32 0)) (m 284) 284 7 = n32 (nSt (m 284)) := by rw [smg_at]; exact w.2.1.1
  have g8 : smg (um m 283 0 (n32 0)) (m 284) 284 8 = n32 (nPl (m 284)) := by rw [smg_at]; exact w.2.2.1.1
  refine w96_0 ⟨fun c => absurd (h1.symm.trans c) n01, fun _ => ⟨fun c => absurd c n0, fun _ => ⟨fun c => absurd c nk, fun _ => ⟨fun c => absurd c (n32_ne (by decide) (by decide) (by decide)), fun _ => ⟨fun c => absurd c (n32_ne (by decide) (by decide) (by decide)), fun _ => ⟨fun c => absurd c (n32_ne (by decide) (by decide) (by decide)), fun _ => ⟨fun c => absurd c (n32_ne (by decide) (by decide) (by decide)), fun _ => ⟨fun c => absurd c (n32_ne (by decide) (by decide) (by decide)), fun _ => ⟨fun c => absurd c (n32_ne (by decide) (by decide) (by decide)), fun _ => ⟨fun c => absurd c (n32_ne (by decide) (by decide) (by decide)), fun _ => ⟨fun c => absurd c (n32_ne (by decide) (by decide) (by decide)), fun _ => ⟨fun c => absurd c (n32_ne (by decide) (by decide) (by decide)), fun _ => ⟨fun c => absurd c (n32_ne (by decide) (by decide) (by decide)), fun _ => ⟨fun c => absurd c (n32_ne (by decide) (by decide) (by decide)), fun _ => ⟨fun c => absurd c (n32_ne (by decide) (by decide) (by decide)), fun _ => ⟨fun _ => ?_, fun c => absurd rfl c⟩⟩⟩⟩⟩⟩⟩⟩⟩⟩⟩⟩⟩⟩⟩⟩
  refine s62 (n := nBr (m 284)) e6 a2 ?_
  refine w239_0 ⟨fun c => absurd c n0, fun _ => ⟨fun c => absurd c nk, fun _ => s177 ?_⟩⟩
  rw [h2, code0]
  refine ⟨fun c => absurd c n01, fun _ => ⟨fun c => absurd c (n32_ne (by decide) (by decide) (by decide)), fun _ => ⟨fun c => absurd c (n32_ne (by decide) (by decide) (by decide)), fun _ => ⟨fun c => absurd c (n32_ne (by decide) (by decide) (by decide)), fun _ => ⟨fun c => absurd c (n32_ne (by decide) (by decide) (by decide)), fun _ => ⟨fun c => absurd c (n32_ne (by decide) (by decide) (by decide)), fun _ => ⟨fun c => absurd c (n32_ne (by decide) (by decide) (by decide)), fun _ => ⟨fun c => absurd c (n32_ne (by decide) (by decide) (by decide)), fun _ => ⟨fun c => absurd c (n32_ne (by decide) (by decide) (by decide)), fun _ => ⟨fun c => absurd c (n32_ne (by decide) (by decide) (by decide)), fun _ => ⟨fun c => absurd c (n32_ne (by decide) (by decide) (by decide)), fun _ => ⟨fun c => absurd c (n32_ne (by decide) (by decide) (by decide)), fun _ => ⟨fun c => absurd c (n32_ne (by decide) (by decide) (by decide)), fun _ => ⟨fun _ => ?_, fun c => absurd rfl c⟩⟩⟩⟩⟩⟩⟩⟩⟩⟩⟩⟩⟩⟩
  rw [st0 (show m 284 = m 284 from rfl)]
  refine s234 (n := nBr (m 284)) g6 a2 ?_
  refine ⟨⟨?_, x1⟩, x2⟩
  refine ((bits_bset (n := nBr (m 284)) (fun k => decide (¬ n32 0 < m (29 + 3 + 4) k)) a2).1).trans ?_
  exact congrArg n32 (cnt_congr fun i hi => by rw [smg_at, r1.str hi]; exact decide_eq_decide.mpr (z_iff (w.b4 hi) (by omega)))
theorem p_count_13 {N : Nat} (h : CPL m N) (h1 : m 0 7 = n32 1) (h2 : m 283 6 = n32 1) (hS : SS m 29 (m 284) N) : PRI (D + 12) 96 239 [vR 10 0, vI (n32 13)] [vR 11 283, vI (n32 13)] mpSA m N := by
  unfold PRI
  obtain ⟨r1, r2, r3, T, hT, si⟩ := hS
  have w := si.w
  have a2 := w.nb
  have a4 := w.ns
  have a6 := w.np
  obtain ⟨x1, x2⟩ := fin1 h (show m 284 = m 284 from rfl)
  have n0 : ¬ n32 13 < n32 0 := by rw [n32_lt (by omega) (by omega)]; omega
  have nk : ¬ n32 16 < n32 13 := by rw [n32_lt (by omega) (by omega)]; omega
  have e6 : m (29 + 3) 0 = n32 (nBr (m 284)) := by rw [r1.nb]; exact w.1.1
  have e8 : m (29 + 16) 0 = n32 (nPl (m 284)) := by rw [r1.np]; exact w.2.2.1.1
  have g6 : smg (um m 283 0 (n32 0)) (m 284) 284 6 = n32 (nBr (m 284)) := by rw [smg_at]; exact w.1.1
  have g7 : smg (um m 283 0 (n32 0)) (m 284) 284 7 = n32 (nSt (m 284)) := by rw [smg_at]; exact w.2.1.1
  have g8 : smg (um m 283 0 (n32 0)) (m 284) 284 8 = n32 (nPl (m 284)) := by rw [smg_at]; exact w.2.2.1.1
  refine w96_0 ⟨fun c => absurd (h1.symm.trans c) n01, fun _ => ⟨fun c => absurd c n0, fun _ => ⟨fun c => absurd c nk, fun _ => ⟨fun c => absurd c (n32_ne (by decide) (by decide) (by decide)), fun _ => ⟨fun c => absurd c (n32_ne (by decide) (by decide) (by decide)), fun _ => ⟨fun c => absurd c (n32_ne (by decide) (by decide) (by decide)), fun _ => ⟨fun c => absurd c (n32_ne (by decide) (by decide) (by decide)), fun _ => ⟨fun c => absurd c (n32_ne (by decide) (by decide) (by decide)), fun _ => ⟨fun c => absurd c (n32_ne (by decide) (by decide) (by decide)), fun _ => ⟨fun c => absurd c (n32_ne (by decide) (by decide) (by decide)), fun _ => ⟨fun c => absurd c (n32_ne (by decide) (by decide) (by decide)), fun _ => ⟨fun c => absurd c (n32_ne (by decide) (by decide) (by decide)), fun _ => ⟨fun c => absurd c (n32_ne (by decide) (by decide) (by decide)), fun _ => ⟨fun c => absurd c (n32_ne (by decide) (by decide) (by decide)), fun _ => ⟨fun c => absurd c (n32_ne (by decide) (by decide) (by decide)), fun _ => ⟨fun c => absurd c (n32_ne (by decide) (by decide) (by decide)), fun _ => ⟨fun _ => ?_, fun c => absurd rfl c⟩⟩⟩⟩⟩⟩⟩⟩⟩⟩⟩⟩⟩⟩⟩⟩⟩
  refine s57 (n := nBr (m 284)) e6 a2 ?_
  refine w239_0 ⟨fun c => absurd c n0, fun _ => ⟨fun c => absurd c nk, fun _ => s177 ?_⟩⟩
  rw [h2, code0]
  refine ⟨fun c => absurd c n01, fun _ => ⟨fun c => absurd c (n32_ne (by decide) (by decide) (by decide)), fun _ => ⟨fun c => absurd c (n32_ne (by decide) (by decide) (by decide)), fun _ => ⟨fun c => absurd c (n32_ne (by decide) (by decide) (by decide)), fun _ => ⟨fun c => absurd c (n32_ne (by decide) (by decide) (by decide)), fun _ => ⟨fun c => absurd c (n32_ne (by decide) (by decide) (by decide)), fun _ => ⟨fun c => absurd c (n32_ne (by decide) (by decide) (by decide)), fun _ => ⟨fun c => absurd c (n32_ne (by decide) (by decide) (by decide)), fun _ => ⟨fun c => absurd c (n32_ne (by decide) (by decide) (by decide)), fun _ => ⟨fun c => absurd c (n32_ne (by decide) (by decide) (by decide)), fun _ => ⟨fun c => absurd c (n32_ne (by decide) (by decide) (by decide)), fun _ => ⟨fun c => absurd c (n32_ne (by decide) (by decide) (by decide)), fun _ => ⟨fun c => absurd c (n32_ne (by decide) (by decide) (by decide)), fun _ => ⟨fun c => absurd c (n32_ne (by decide) (by decide) (by decide)), fun _ => ⟨fun _ => ?_, fun c => absurd rfl c⟩⟩⟩⟩⟩⟩⟩⟩⟩⟩⟩⟩⟩⟩⟩
  rw [st0 (show m 284 = m 284 from rfl)]
  refine s235 (n := nBr (m 284)) g6 a2 ?_
  refine ⟨⟨?_, x1⟩, x2⟩
  exact congrArg n32 (cnt_congr fun i hi => by simp only [smg_at]; rw [r1.ban hi, r1.own hi])
theorem p_count_14 {N : Nat} (h : CPL m N) (h1 : m 0 7 = n32 1) (h2 : m 283 6 = n32 1) (hS : SS m 29 (m 284) N) : PRI (D + 12) 96 239 [vR 10 0, vI (n32 14)] [vR 11 283, vI (n32 14)] mpSA m N := by
  unfold PRI
  obtain ⟨r1, r2, r3, T, hT, si⟩ := hS
  have w := si.w
  have a2 := w.nb
  have a4 := w.ns
  have a6 := w.np
  obtain ⟨x1, x2⟩ := fin1 h (show m 284 = m 284 from rfl)
  have n0 : ¬ n32 14 < n32 0 := by rw [n32_lt (by omega) (by omega)]; omega
  have nk : ¬ n32 16 < n32 14 := by rw [n32_lt (by omega) (by omega)]; omega
  have e6 : m (29 + 3) 0 = n32 (nBr (m 284)) := by rw [r1.nb]; exact w.1.1
  have e8 : m (29 + 16) 0 = n32 (nPl (m 284)) := by rw [r1.np]; exact w.2.2.1.1
  have g6 : smg (um m 283 0 (n32 0)) (m 284) 284 6 = n32 (nBr (m 284)) := by rw [smg_at]; exact w.1.1
  have g7 : smg (um m 283 0 (n32 0)) (m 284) 284 7 = n32 (nSt (m 284)) := by rw [smg_at]; exact w.2.1.1
  have g8 : smg (um m 283 0 (n32 0)) (m 284) 284 8 = n32 (nPl (m 284)) := by rw [smg_at]; exact w.2.2.1.1
  refine w96_0 ⟨fun c => absurd (h1.symm.trans c) n01, fun _ => ⟨fun c => absurd c n0, fun _ => ⟨fun c => absurd c nk, fun _ => ⟨fun c => absurd c (n32_ne (by decide) (by decide) (by decide)), fun _ => ⟨fun c => absurd c (n32_ne (by decide) (by decide) (by decide)), fun _ => ⟨fun c => absurd c (n32_ne (by decide) (by decide) (by decide)), fun _ => ⟨fun c => absurd c (n32_ne (by decide) (by decide) (by decide)), fun _ => ⟨fun c => absurd c (n32_ne (by decide) (by decide) (by decide)), fun _ => ⟨fun c => absurd c (n32_ne (by decide) (by decide) (by decide)), fun _ => ⟨fun c => absurd c (n32_ne (by decide) (by decide) (by decide)), fun _ => ⟨fun c => absurd c (n32_ne (by decide) (by decide) (by decide)), fun _ => ⟨fun c => absurd c (n32_ne (by decide) (by decide) (by decide)), fun _ => ⟨fun c => absurd c (n32_ne (by decide) (by decide) (by decide)), fun _ => ⟨fun c => absurd c (n32_ne (by decide) (by decide) (by decide)), fun _ => ⟨fun c => absurd c (n32_ne (by decide) (by decide) (by decide)), fun _ => ⟨fun c => absurd c (n32_ne (by decide) (by decide) (by decide)), fun _ => ⟨fun c => absurd c (n32_ne (by decide) (by decide) (by decide)), fun _ => ⟨fun _ => ?_, fun c => absurd rfl c⟩⟩⟩⟩⟩⟩⟩⟩⟩⟩⟩⟩⟩⟩⟩⟩⟩⟩
  refine s58 (n := nBr (m 284)) e6 a2 ?_
  refine w239_0 ⟨fun c => absurd c n0, fun _ => ⟨fun c => absurd c nk, fun _ => s177 ?_⟩⟩
  rw [h2, code0]
  refine ⟨fun c => absurd c n01, fun _ => ⟨fun c => absurd c (n32_ne (by decide) (by decide) (by decide)), fun _ => ⟨fun c => absurd c (n32_ne (by decide) (by decide) (by decide)), fun _ => ⟨fun c => absurd c (n32_ne (by decide) (by decide) (by decide)), fun _ => ⟨fun c => absurd c (n32_ne (by decide) (by decide) (by decide)), fun _ => ⟨fun c => absurd c (n32_ne (by decide) (by decide) (by decide)), fun _ => ⟨fun c => absurd c (n32_ne (by decide) (by decide) (by decide)), fun _ => ⟨fun c => absurd c (n32_ne (by decide) (by decide) (by decide)), fun _ => ⟨fun c => absurd c (n32_ne (by decide) (by decide) (by decide)), fun _ => ⟨fun c => absurd c (n32_ne (by decide) (by decide) (by decide)), fun _ => ⟨fun c => absurd c (n32_ne (by decide) (by decide) (by decide)), fun _ => ⟨fun c => absurd c (n32_ne (by decide) (by decide) (by decide)), fun _ => ⟨fun c => absurd c (n32_ne (by decide) (by decide) (by decide)), fun _ => ⟨fun c => absurd c (n32_ne (by decide) (by decide) (by decide)), fun _ => ⟨fun c => absurd c (n32_ne (by decide) (by decide) (by decide)), fun _ => ⟨fun _ => ?_, fun c => absurd rfl c⟩⟩⟩⟩⟩⟩⟩⟩⟩⟩⟩⟩⟩⟩⟩⟩
  rw [st0 (show m 284 = m 284 from rfl)]
  refine s236 w ?_
  refine ⟨⟨?_, x1⟩, x2⟩
  refine congrArg n32 (cnt_congr fun i hi => ?_)
  rcases Nat.eq_zero_or_pos i with rfl | h0
  · rw [show decide (¬ (0 : Nat) = 0) = false from rfl, Bool.false_and, Bool.false_and]
  · rw [ix_n32 (by omega), r1.se (k := 0) (by omega), r1.pla (b := i) hi, r1.pla (b := i - 1) (by omega)]
theorem p_count_15 {N : Nat} (h : CPL m N) (h1 : m 0 7 = n32 1) (h2 : m 283 6 = n32 1) (hS : SS m 29 (m 284) N) : PRI (D + 12) 96 239 [vR 10 0, vI (n32 15)] [vR 11 283, vI (n32 15)] mpSA m N := by
  unfold PRI
  obtain ⟨r1, r2, r3, T, hT, si⟩ := hS
  have w := si.w
  have a2 := w.nb
  have a4 := w.ns
  have a6 := w.np
  obtain ⟨x1, x2⟩ := fin1 h (show m 284 = m 284 from rfl)
  have n0 : ¬ n32 15 < n32 0 := by rw [n32_lt (by omega) (by omega)]; omega
  have nk : ¬ n32 16 < n32 15 := by rw [n32_lt (by omega) (by omega)]; omega
  have e6 : m (29 + 3) 0 = n32 (nBr (m 284)) := by rw [r1.nb]; exact w.1.1
  have e8 : m (29 + 16) 0 = n32 (nPl (m 284)) := by rw [r1.np]; exact w.2.2.1.1
  have g6 : smg (um m 283 0 (n32 0)) (m 284) 284 6 = n32 (nBr (m 284)) := by rw [smg_at]; exact w.1.1
  have g7 : smg (um m 283 0 (n32 0)) (m 284) 284 7 = n32 (nSt (m 284)) := by rw [smg_at]; exact w.2.1.1
  have g8 : smg (um m 283 0 (n32 0)) (m 284) 284 8 = n32 (nPl (m 284)) := by rw [smg_at]; exact w.2.2.1.1
  refine w96_0 ⟨fun c => absurd (h1.symm.trans c) n01, fun _ => ⟨fun c => absurd c n0, fun _ => ⟨fun c => absurd c nk, fun _ => ⟨fun c => absurd c (n32_ne (by decide) (by decide) (by decide)), fun _ => ⟨fun c => absurd c (n32_ne (by decide) (by decide) (by decide)), fun _ => ⟨fun c => absurd c (n32_ne (by decide) (by decide) (by decide)), fun _ => ⟨fun c => absurd c (n32_ne (by decide) (by decide) (by decide)), fun _ => ⟨fun c => absurd c (n32_ne (by decide) (by decide) (by decide)), fun _ => ⟨fun c => absurd c (n32_ne (by decide) (by decide) (by decide)), fun _ => ⟨fun c => absurd c (n32_ne (by decide) (by decide) (by decide)), fun _ => ⟨fun c => absurd c (n32_ne (by decide) (by decide) (by decide)), fun _ => ⟨fun c => absurd c (n32_ne (by decide) (by decide) (by decide)), fun _ => ⟨fun c => absurd c (n32_ne (by decide) (by decide) (by decide)), fun _ => ⟨fun c => absurd c (n32_ne (by decide) (by decide) (by decide)), fun _ => ⟨fun c => absurd c (n32_ne (by decide) (by decide) (by decide)), fun _ => ⟨fun c => absurd c (n32_ne (by decide) (by decide) (by decide)), fun _ => ⟨fun c => absurd c (n32_ne (by decide) (by decide) (by decide)), fun _ => ⟨fun c => absurd c (n32_ne (by decide) (by decide) (by decide)), fun _ => ⟨fun _ => ?_, fun c => absurd rfl c⟩⟩⟩⟩⟩⟩⟩⟩⟩⟩⟩⟩⟩⟩⟩⟩⟩⟩⟩
  refine s59 w r1 ?_
  refine w239_0 ⟨fun c => absurd c n0, fun _ => ⟨fun c => absurd c nk, fun _ => s177 ?_⟩⟩
  rw [h2, code0]
  refine ⟨fun c => absurd c n01, fun _ => ⟨fun c => absurd c (n32_ne (by decide) (by decide) (by decide)), fun _ => ⟨fun c => absurd c (n32_ne (by decide) (by decide) (by decide)), fun _ => ⟨fun c => absurd c (n32_ne (by decide) (by decide) (by decide)), fun _ => ⟨fun c => absurd c (n32_ne (by decide) (by decide) (by decide)), fun _ => ⟨fun c => absurd c (n32_ne (by decide) (by decide) (by decide)), fun _ => ⟨fun c => absurd c (n32_ne (by decide) (by decide) (by decide)), fun _ => ⟨fun c => absurd c (n32_ne (by decide) (by decide) (by decide)), fun _ => ⟨fun c => absurd c (n32_ne (by decide) (by decide) (by decide)), fun _ => ⟨fun c => absurd c (n32_ne (by decide) (by decide) (by decide)), fun _ => ⟨fun c => absurd c (n32_ne (by decide) (by decide) (by decide)), fun _ => ⟨fun c => absurd c (n32_ne (by decide) (by decide) (by decide)), fun _ => ⟨fun c => absurd c (n32_ne (by decide) (by decide) (by decide)), fun _ => ⟨fun c => absurd c (n32_ne (by decide) (by decide) (by decide)), fun _ => ⟨fun c => absurd c (n32_ne (by decide) (by decide) (by decide)), fun _ => ⟨fun c => absurd c (n32_ne (by decide) (by decide) (by decide)), fun _ => ⟨fun _ => ?_, fun c => absurd rfl c⟩⟩⟩⟩⟩⟩⟩⟩⟩⟩⟩⟩⟩⟩⟩⟩⟩
  rw [st0 (show m 284 = m 284 from rfl)]
  refine s237 w ?_
  exact ⟨⟨rfl, x1⟩, x2⟩
theorem p_count_16 {N : Nat} (h : CPL m N) (h1 : m 0 7 = n32 1) (h2 : m 283 6 = n32 1) (hS : SS m 29 (m 284) N) : PRI (D + 12) 96 239 [vR 10 0, vI (n32 16)] [vR 11 283, vI (n32 16)] mpSA m N := by
  unfold PRI
  obtain ⟨r1, r2, r3, T, hT, si⟩ := hS
  have w := si.w
  have a2 := w.nb
  have a4 := w.ns
  have a6 := w.np
  obtain ⟨x1, x2⟩ := fin1 h (show m 284 = m 284 from rfl)
  have n0 : ¬ n32 16 < n32 0 := by rw [n32_lt (by omega) (by omega)]; omega
  have nk : ¬ n32 16 < n32 16 := by rw [n32_lt (by omega) (by omega)]; omega
  have e6 : m (29 + 3) 0 = n32 (nBr (m 284)) := by rw [r1.nb]; exact w.1.1
  have e8 : m (29 + 16) 0 = n32 (nPl (m 284)) := by rw [r1.np]; exact w.2.2.1.1
  have g6 : smg (um m 283 0 (n32 0)) (m 284) 284 6 = n32 (nBr (m 284)) := by rw [smg_at]; exact w.1.1
  have g7 : smg (um m 283 0 (n32 0)) (m 284) 284 7 = n32 (nSt (m 284)) := by rw [smg_at]; exact w.2.1.1
  have g8 : smg (um m 283 0 (n32 0)) (m 284) 284 8 = n32 (nPl (m 284)) := by rw [smg_at]; exact w.2.2.1.1
  refine w96_0 ⟨fun c => absurd (h1.symm.trans c) n01, fun _ => ⟨fun c => absurd c n0, fun _ => ⟨fun c => absurd c nk, fun _ => ⟨fun c => absurd c (n32_ne (by decide) (by decide) (by decide)), fun _ => ⟨fun c => absurd c (n32_ne (by decide) (by decide) (by decide)), fun _ => ⟨fun c => absurd c (n32_ne (by decide) (by decide) (by decide)), fun _ => ⟨fun c => absurd c (n32_ne (by decide) (by decide) (by decide)), fun _ => ⟨fun c => absurd c (n32_ne (by decide) (by decide) (by decide)), fun _ => ⟨fun c => absurd c (n32_ne (by decide) (by decide) (by decide)), fun _ => ⟨fun c => absurd c (n32_ne (by decide) (by decide) (by decide)), fun _ => ⟨fun c => absurd c (n32_ne (by decide) (by decide) (by decide)), fun _ => ⟨fun c => absurd c (n32_ne (by decide) (by decide) (by decide)), fun _ => ⟨fun c => absurd c (n32_ne (by decide) (by decide) (by decide)), fun _ => ⟨fun c => absurd c (n32_ne (by decide) (by decide) (by decide)), fun _ => ⟨fun c => absurd c (n32_ne (by decide) (by decide) (by decide)), fun _ => ⟨fun c => absurd c (n32_ne (by decide) (by decide) (by decide)), fun _ => ⟨fun c => absurd c (n32_ne (by decide) (by decide) (by decide)), fun _ => ⟨fun c => absurd c (n32_ne (by decide) (by decide) (by decide)), fun _ => ⟨fun c => absurd c (n32_ne (by decide) (by decide) (by decide)), fun _ => ?_⟩⟩⟩⟩⟩⟩⟩⟩⟩⟩⟩⟩⟩⟩⟩⟩⟩⟩⟩
  refine s167 w r1 r3 ?_
  refine w239_0 ⟨fun c => absurd c n0, fun _ => ⟨fun c => absurd c nk, fun _ => s177 ?_⟩⟩
  rw [h2, code0]
  refine ⟨fun c => absurd c n01, fun _ => ⟨fun c => absurd c (n32_ne (by decide) (by decide) (by decide)), fun _ => ⟨fun c => absurd c (n32_ne (by decide) (by decide) (by decide)), fun _ => ⟨fun c => absurd c (n32_ne (by decide) (by decide) (by decide)), fun _ => ⟨fun c => absurd c (n32_ne (by decide) (by decide) (by decide)), fun _ => ⟨fun c => absurd c (n32_ne (by decide) (by decide) (by decide)), fun _ => ⟨fun c => absurd c (n32_ne (by decide) (by decide) (by decide)), fun _ => ⟨fun c => absurd c (n32_ne (by decide) (by decide) (by decide)), fun _ => ⟨fun c => absurd c (n32_ne (by decide) (by decide) (by decide)), fun _ => ⟨fun c => absurd c (n32_ne (by decide) (by decide) (by decide)), fun _ => ⟨fun c => absurd c (n32_ne (by decide) (by decide) (by decide)), fun _ => ⟨fun c => absurd c (n32_ne (by decide) (by decide) (by decide)), fun _ => ⟨fun c => absurd c (n32_ne (by decide) (by decide) (by decide)), fun _ => ⟨fun c => absurd c (n32_ne (by decide) (by decide) (by decide)), fun _ => ⟨fun c => absurd c (n32_ne (by decide) (by decide) (by decide)), fun _ => ⟨fun c => absurd c (n32_ne (by decide) (by decide) (by decide)), fun _ => ⟨fun c => absurd c (n32_ne (by decide) (by decide) (by decide)), fun _ => ?_⟩⟩⟩⟩⟩⟩⟩⟩⟩⟩⟩⟩⟩⟩⟩⟩⟩
  rw [st0 (show m 284 = m 284 from rfl)]
  refine s238 w ?_
  exact ⟨⟨rfl, x1⟩, x2⟩
theorem p_count {v : Int32} {N : Nat} (h : CPL m N) : PRI (D + 12) 96 239 [vR 10 0, vI v] [vR 11 283, vI v] mpSA m N := by
  unfold PRI
  have no : ∀ c, codeOf (m 283 6) (inI v (n32 0) (n32 16)) (n32 1) = c → 1 ≤ c → c ≤ 3 → VI (D + 12) 239 [vR 11 283, vI v] m (fun _ m2 => (m2 283 0 = n32 c ∧ 1 ≤ c ∧ c ≤ 3) ∧ CPL m2 N) (fun _ _ => False) := by
    intro c hc y1 y3
    have cn : ¬ c = 0 := by omega
    unfold inI at hc
    refine w239_0 ⟨fun d1 => s177 ?_, fun d1 => ⟨fun d2 => s177 ?_, fun d2 => s177 ?_⟩⟩
    · rw [if_pos d1] at hc
      rw [hc, if_neg cn]
      exact ⟨fun _ => ⟨⟨um_eq _ _ _ _, y1, y3⟩, CPL_th h⟩, fun c => absurd rfl c⟩
    · rw [if_neg d1, if_pos d2] at hc
      rw [hc, if_neg cn]
      exact ⟨fun _ => ⟨⟨um_eq _ _ _ _, y1, y3⟩, CPL_th h⟩, fun c => absurd rfl c⟩
    · rw [if_neg d1, if_neg d2] at hc
      rw [hc, if_neg cn]
      exact ⟨fun _ => ⟨⟨um_eq _ _ _ _, y1, y3⟩, CPL_th h⟩, fun c => absurd rfl c⟩
  rcases h.ld with ⟨h1, h2⟩ | ⟨h1, h2, r1, r2, r3, T, hT, si⟩
  · exact w96_0 ⟨fun _ => no 1 (by rw [h2, code1]) (by omega) (by omega), fun c => absurd h1 c⟩
  · have w := si.w
    have a2 := w.nb
    have a4 := w.ns
    have a6 := w.np
    rcases rng_cases v 16 (by omega) with ⟨d1, e1⟩ | ⟨d1, d2, e1⟩ | ⟨j, hj, rfl, e1⟩
    · exact w96_0 ⟨fun c => absurd (h1.symm.trans c) n01, fun _ => ⟨fun _ => no 2 (by rw [h2, e1, code2]) (by omega) (by omega), fun c => absurd d1 c⟩⟩
    · exact w96_0 ⟨fun c => absurd (h1.symm.trans c) n01, fun _ => ⟨fun c => absurd c d1, fun _ => ⟨fun _ => no 2 (by rw [h2, e1, code2]) (by omega) (by omega), fun c => absurd d2 c⟩⟩⟩
    · obtain rfl | rfl | rfl | rfl | rfl | rfl | rfl | rfl | rfl | rfl | rfl | rfl | rfl | rfl | rfl | rfl | rfl : j = 0 ∨ j = 1 ∨ j = 2 ∨ j = 3 ∨ j = 4 ∨ j = 5 ∨ j = 6 ∨ j = 7 ∨ j = 8 ∨ j = 9 ∨ j = 10 ∨ j = 11 ∨ j = 12 ∨ j = 13 ∨ j = 14 ∨ j = 15 ∨ j = 16 := by omega
      · exact p_count_0 h h1 h2 ⟨r1, r2, r3, T, hT, si⟩
      · exact p_count_1 h h1 h2 ⟨r1, r2, r3, T, hT, si⟩
      · exact p_count_2 h h1 h2 ⟨r1, r2, r3, T, hT, si⟩
      · exact p_count_3 h h1 h2 ⟨r1, r2, r3, T, hT, si⟩
      · exact p_count_4 h h1 h2 ⟨r1, r2, r3, T, hT, si⟩
      · exact p_count_5 h h1 h2 ⟨r1, r2, r3, T, hT, si⟩
      · exact p_count_6 h h1 h2 ⟨r1, r2, r3, T, hT, si⟩
      · exact p_count_7 h h1 h2 ⟨r1, r2, r3, T, hT, si⟩
      · exact p_count_8 h h1 h2 ⟨r1, r2, r3, T, hT, si⟩
      · exact p_count_9 h h1 h2 ⟨r1, r2, r3, T, hT, si⟩
      · exact p_count_10 h h1 h2 ⟨r1, r2, r3, T, hT, si⟩
      · exact p_count_11 h h1 h2 ⟨r1, r2, r3, T, hT, si⟩
      · exact p_count_12 h h1 h2 ⟨r1, r2, r3, T, hT, si⟩
      · exact p_count_13 h h1 h2 ⟨r1, r2, r3, T, hT, si⟩
      · exact p_count_14 h h1 h2 ⟨r1, r2, r3, T, hT, si⟩
      · exact p_count_15 h h1 h2 ⟨r1, r2, r3, T, hT, si⟩
      · exact p_count_16 h h1 h2 ⟨r1, r2, r3, T, hT, si⟩
end S85
