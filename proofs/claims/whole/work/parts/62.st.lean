/-! Pairs: more questions of one stand (written by program: wip/whole/mkst.py). -/
theorem code0 : codeOf (n32 1) (n32 1) (n32 1) = 0 := by decide
theorem st0 {m1 : XM} {g : PG} {v : Int32} (hg : m1 284 = g) : um m1 283 0 v = smg (um m1 283 0 v) g := smg_of _ (by rw [← hg]; exact funext fun k => um_a (by omega))
theorem fin0 {m1 m2 : XM} {g : PG} {N : Nat} (hc : CPL m1 N) (hg : m1 284 = g) (f : rfr (um m1 283 0 (n32 0)) m2) : smg m2 g 283 0 = n32 0 ∧ CPL (smg m2 g) N := by
  refine ⟨?_, ?_⟩
  · rw [smg_ne (by omega), f 283 0 (by omega) (by omega) (by omega) (by omega), um_eq]
  · have e := st0 (v := n32 0) hg
    have h1 : CPL (smg (um m1 283 0 (n32 0)) g) N := by rw [← e]; exact CPL_th hc
    exact CPL_fr h1 (Nat.le_refl _) (QF_rfr f rfl)
theorem fin1 {m1 : XM} {g : PG} {N : Nat} (hc : CPL m1 N) (hg : m1 284 = g) : smg (um m1 283 0 (n32 0)) g 283 0 = n32 0 ∧ CPL (smg (um m1 283 0 (n32 0)) g) N := fin0 hc hg (rfr.rf _)
theorem idx_cases (v : Int32) {n : Nat} (hn : n ≤ 24) : v < n32 0 ∨ (¬ v < n32 0 ∧ n32 n ≤ v ∧ n32 n - n32 1 < v) ∨ ∃ i, i < n ∧ v = n32 i := by
  by_cases c1 : v < n32 0
  · exact Or.inl c1
  · right
    have e : (n32 n - n32 1).toInt = (n : Int) - 1 := by
      have : ∀ n, n < 25 → (n32 n - n32 1).toInt = (n : Int) - 1 := by decide
      exact this n (by omega)
    by_cases c2 : n32 n ≤ v
    · refine Or.inl ⟨c1, c2, ?_⟩
      rw [Int32.lt_iff_toInt_lt, e]
      rw [Int32.le_iff_toInt_le, n32_toInt (by omega)] at c2
      omega
    · right
      rw [Int32.lt_iff_toInt_lt, n32_toInt (by omega)] at c1
      rw [Int32.le_iff_toInt_le, n32_toInt (by omega)] at c2
      refine ⟨v.toInt.toNat, by omega, ?_⟩
      apply Int32.toInt_inj.mp
      rw [n32_toInt (by omega)]; omega
section PS
variable {D : Nat} {m : XM} {E : Nat → XM → Prop}
theorem s161 {s : Nat} {g : PG} {Q : Nat → XM → Prop} (w : WF g) (r : RS m 29 g) (rt : RT m 69 g) (hs : s < nSt g) (h : ∀ m', RR m' 278 (txA g s) → FD 278 m m' → Q 278 m') : VA (D + 3) 161 [vR 10 0, vI (n32 s)] m Q E :=
  w161_0 (s33 w r rt hs (Or.inr (by omega)) (Or.inr (by omega)) h)
theorem p_matches {v  : Int32} {N : Nat} (h : CPL m N) : PRI (D + 12) 105 259 [vR 10 0, vI v] [vR 11 283, vI v] mpSPA m N := by
  unfold PRI
  rcases stand_cases h v with ⟨h1, h2⟩ | ⟨h1, h2, h3, h4⟩ | ⟨h1, h2, hS, s, hs, rfl, h69, h4⟩
  · refine w105_0 ⟨fun _ => ?_, fun c => absurd h1 c⟩
    refine w259_0 (s242 ?_)
    rw [h2]
    exact ⟨fun _ => ⟨⟨um_eq _ _ _ _, by decide, by decide⟩, CPL_th h⟩, fun c => absurd rfl c⟩
  · have rb : VI (D + 12) 259 [vR 11 283, vI v] m (fun _ m2 => (m2 283 0 = n32 (mpSPA 2) ∧ 1 ≤ mpSPA 2 ∧ mpSPA 2 ≤ 3) ∧ CPL m2 N) (fun _ _ => False) := by
      refine w259_0 (s242 ?_)
      rw [h2, h4]
      exact ⟨fun _ => ⟨⟨um_eq _ _ _ _, by decide, by decide⟩, CPL_th h⟩, fun c => absurd rfl c⟩
    refine w105_0 ⟨fun c => absurd (h1.symm.trans c) n01, fun _ => ⟨fun _ => rb, fun c => ⟨fun c2 => ?_, fun _ => rb⟩⟩⟩
    rcases h3 with h3 | h3
    · exact absurd h3 c
    · exact absurd c2 h3
  · obtain ⟨r1, r2, r3, T, hT, si⟩ := hS
    have w := si.w
    have a4 := w.ns
    refine w105_0 ⟨fun c => absurd (h1.symm.trans c) n01, fun _ => ⟨fun c => absurd ((n32_lt (by omega) (by omega)).mp c) (by omega), fun _ => ⟨fun _ => ?_, fun c => absurd (by rw [h69]; exact (n32_lt (by omega) (by omega)).mpr hs) c⟩⟩⟩
    refine s161 w r1 r3 hs ?_
    intro m1 hT1 fd
    have rt1 := RT_fd (r := 278) r3 fd (Or.inr (by omega))
    have f : QF m m1 := QF_fd fd
    refine s37 w hT1 rt1 hs ?_
    have hc : CPL m1 N := CPL_fr h (Nat.le_refl _) f
    have hg : m1 284 = m 284 := funext fun k => f _ _ (by unfold REL; omega)
    have h2' : m1 283 6 = n32 1 := by rw [f _ _ (by unfold REL; omega)]; exact h2
    refine w259_0 (s242 ?_)
    rw [h2', hg, h4, code0]
    refine ⟨fun c => absurd c n01, fun _ => ?_⟩
    rw [st0 hg]
    refine s222 w hs ?_
    intro m2 f2 _
    obtain ⟨x1, x2⟩ := fin0 hc hg f2
    exact ⟨⟨rfl, x1⟩, x2⟩

theorem p_isRead {v  : Int32} {N : Nat} (h : CPL m N) : PRI (D + 12) 106 260 [vR 10 0, vI v] [vR 11 283, vI v] mpSPA m N := by
  unfold PRI
  rcases stand_cases h v with ⟨h1, h2⟩ | ⟨h1, h2, h3, h4⟩ | ⟨h1, h2, hS, s, hs, rfl, h69, h4⟩
  · refine w106_0 ⟨fun _ => ?_, fun c => absurd h1 c⟩
    refine w260_0 (s242 ?_)
    rw [h2]
    exact ⟨fun _ => ⟨⟨um_eq _ _ _ _, by decide, by decide⟩, CPL_th h⟩, fun c => absurd rfl c⟩
  · have rb : VI (D + 12) 260 [vR 11 283, vI v] m (fun _ m2 => (m2 283 0 = n32 (mpSPA 2) ∧ 1 ≤ mpSPA 2 ∧ mpSPA 2 ≤ 3) ∧ CPL m2 N) (fun _ _ => False) := by
      refine w260_0 (s242 ?_)
      rw [h2, h4]
      exact ⟨fun _ => ⟨⟨um_eq _ _ _ _, by decide, by decide⟩, CPL_th h⟩, fun c => absurd rfl c⟩
    refine w106_0 ⟨fun c => absurd (h1.symm.trans c) n01, fun _ => ⟨fun _ => rb, fun c => ⟨fun c2 => ?_, fun _ => rb⟩⟩⟩
    rcases h3 with h3 | h3
    · exact absurd h3 c
    · exact absurd c2 h3
  · obtain ⟨r1, r2, r3, T, hT, si⟩ := hS
    have w := si.w
    have a4 := w.ns
    refine w106_0 ⟨fun c => absurd (h1.symm.trans c) n01, fun _ => ⟨fun c => absurd ((n32_lt (by omega) (by omega)).mp c) (by omega), fun _ => ⟨fun _ => ?_, fun c => absurd (by rw [h69]; exact (n32_lt (by omega) (by omega)).mpr hs) c⟩⟩⟩
    refine s161 w r1 r3 hs ?_
    intro m1 hT1 fd
    have rt1 := RT_fd (r := 278) r3 fd (Or.inr (by omega))
    have f : QF m m1 := QF_fd fd
    refine s39 w hT1 rt1 hs ⟨xrt_if, ?_⟩
    have hc : CPL m1 N := CPL_fr h (Nat.le_refl _) f
    have hg : m1 284 = m 284 := funext fun k => f _ _ (by unfold REL; omega)
    have h2' : m1 283 6 = n32 1 := by rw [f _ _ (by unfold REL; omega)]; exact h2
    refine w260_0 (s242 ?_)
    rw [h2', hg, h4, code0]
    refine ⟨fun c => absurd c n01, fun _ => ?_⟩
    rw [st0 hg]
    refine s223 w hs ?_
    intro m2 f2
    obtain ⟨x1, x2⟩ := fin0 hc hg f2
    by_cases c : rdG (m 284) s = true
    · rw [if_pos c]
      exact ⟨fun c => absurd c n01, fun _ => ⟨⟨rfl, x1⟩, x2⟩⟩
    · rw [if_neg c]
      exact ⟨fun _ => ⟨⟨rfl, x1⟩, x2⟩, fun c => absurd rfl c⟩

theorem p_share {v  : Int32} {N : Nat} (h : CPL m N) : PRF (D + 12) 107 272 [vR 10 0, vI v] [vR 11 283, vI v] mpSPA m N := by
  unfold PRF
  rcases stand_cases h v with ⟨h1, h2⟩ | ⟨h1, h2, h3, h4⟩ | ⟨h1, h2, hS, s, hs, rfl, h69, h4⟩
  · refine w107_0 ⟨fun _ => ?_, fun c => absurd h1 c⟩
    refine w272_0 (s242 ?_)
    rw [h2]
    exact ⟨fun _ => ⟨⟨um_eq _ _ _ _, by decide, by decide⟩, CPL_th h⟩, fun c => absurd rfl c⟩
  · have rb : VF (D + 12) 272 [vR 11 283, vI v] m (fun _ m2 => (m2 283 0 = n32 (mpSPA 2) ∧ 1 ≤ mpSPA 2 ∧ mpSPA 2 ≤ 3) ∧ CPL m2 N) (fun _ _ => False) := by
      refine w272_0 (s242 ?_)
      rw [h2, h4]
      exact ⟨fun _ => ⟨⟨um_eq _ _ _ _, by decide, by decide⟩, CPL_th h⟩, fun c => absurd rfl c⟩
    refine w107_0 ⟨fun c => absurd (h1.symm.trans c) n01, fun _ => ⟨fun _ => rb, fun c => ⟨fun c2 => ?_, fun _ => rb⟩⟩⟩
    rcases h3 with h3 | h3
    · exact absurd h3 c
    · exact absurd c2 h3
  · obtain ⟨r1, r2, r3, T, hT, si⟩ := hS
    have w := si.w
    have a4 := w.ns
    refine w107_0 ⟨fun c => absurd (h1.symm.trans c) n01, fun _ => ⟨fun c => absurd ((n32_lt (by omega) (by omega)).mp c) (by omega), fun _ => ⟨fun _ => ?_, fun c => absurd (by rw [h69]; exact (n32_lt (by omega) (by omega)).mpr hs) c⟩⟩⟩
    refine s161 w r1 r3 hs ?_
    intro m1 hT1 fd
    have rt1 := RT_fd (r := 278) r3 fd (Or.inr (by omega))
    have f : QF m m1 := QF_fd fd
    refine s40 w hT1 rt1 hs ?_
    have hc : CPL m1 N := CPL_fr h (Nat.le_refl _) f
    have hg : m1 284 = m 284 := funext fun k => f _ _ (by unfold REL; omega)
    have h2' : m1 283 6 = n32 1 := by rw [f _ _ (by unfold REL; omega)]; exact h2
    refine w272_0 (s242 ?_)
    rw [h2', hg, h4, code0]
    refine ⟨fun c => absurd c n01, fun _ => ?_⟩
    rw [st0 hg]
    refine s224 w hs ?_
    intro m2 f2
    obtain ⟨x1, x2⟩ := fin0 hc hg f2
    exact ⟨⟨rfl, x1⟩, x2⟩

theorem p_wordByte {v v2 : Int32} {N : Nat} (h : CPL m N) : PRI (D + 12) 102 256 [vR 10 0, vI v, vI v2] [vR 11 283, vI v, vI v2] mpSPA m N := by
  unfold PRI
  rcases stand_cases h v with ⟨h1, h2⟩ | ⟨h1, h2, h3, h4⟩ | ⟨h1, h2, hS, s, hs, rfl, h69, h4⟩
  · refine w102_0 ⟨fun _ => ?_, fun c => absurd h1 c⟩
    refine w256_0 (s242 ?_)
    rw [h2]
    exact ⟨fun _ => ⟨⟨um_eq _ _ _ _, by decide, by decide⟩, CPL_th h⟩, fun c => absurd rfl c⟩
  · have rb : VI (D + 12) 256 [vR 11 283, vI v, vI v2] m (fun _ m2 => (m2 283 0 = n32 (mpSPA 2) ∧ 1 ≤ mpSPA 2 ∧ mpSPA 2 ≤ 3) ∧ CPL m2 N) (fun _ _ => False) := by
      refine w256_0 (s242 ?_)
      rw [h2, h4]
      exact ⟨fun _ => ⟨⟨um_eq _ _ _ _, by decide, by decide⟩, CPL_th h⟩, fun c => absurd rfl c⟩
    refine w102_0 ⟨fun c => absurd (h1.symm.trans c) n01, fun _ => ⟨fun _ => rb, fun c => ⟨fun c2 => ?_, fun _ => rb⟩⟩⟩
    rcases h3 with h3 | h3
    · exact absurd h3 c
    · exact absurd c2 h3
  · obtain ⟨r1, r2, r3, T, hT, si⟩ := hS
    have w := si.w
    have a4 := w.ns
    refine w102_0 ⟨fun c => absurd (h1.symm.trans c) n01, fun _ => ⟨fun c => absurd ((n32_lt (by omega) (by omega)).mp c) (by omega), fun _ => ⟨fun _ => ?_, fun c => absurd (by rw [h69]; exact (n32_lt (by omega) (by omega)).mpr hs) c⟩⟩⟩
    have f : QF m m := QF.rf m
    obtain ⟨l1, l2, l3⟩ := wl w hs
    obtain ⟨q1, q2, q3, q4⟩ := r3.2 s hs
    rw [l3] at q3
    have x := fin1 h (show m 284 = m 284 from rfl)
    generalize hL : ix (m 284 (99 + 12 * s + 2)) = L at l1 l2 l3 q3 q4
    rcases idx_cases v2 (n := L) (by omega) with c1 | ⟨c1, c2, c3⟩ | ⟨i, hi, rfl⟩
    · refine ⟨fun _ => ?_, fun c => absurd c1 c⟩
      have hc : CPL m N := CPL_fr h (Nat.le_refl _) f
      have hg : m 284 = m 284 := funext fun k => f _ _ (by unfold REL; omega)
      have h2' : m 283 6 = n32 1 := by rw [f _ _ (by unfold REL; omega)]; exact h2
      refine w256_0 (s242 ?_)
      rw [h2', hg, h4, code0]
      refine ⟨fun c => absurd c n01, fun _ => ?_⟩
      rw [st0 hg]
      simp (disch := omega) only [n32_mul, n32_add, xin_t, ix_n32, smg_at, l3, true_and]
      refine ⟨fun _ => ?_, fun c => absurd c1 c⟩
      first | exact ⟨⟨rfl, x.1⟩, x.2⟩ | exact ⟨⟨trivial, x.1⟩, x.2⟩ | exact ⟨x.1, x.2⟩
    · refine ⟨fun c => absurd c c1, fun _ => ?_⟩
      rw [ix_n32 (show s < 2147483648 by omega), q3]
      refine ⟨xin_n (by omega) (by omega), fun _ => ?_, fun c => absurd c2 c⟩
      have hc : CPL m N := CPL_fr h (Nat.le_refl _) f
      have hg : m 284 = m 284 := funext fun k => f _ _ (by unfold REL; omega)
      have h2' : m 283 6 = n32 1 := by rw [f _ _ (by unfold REL; omega)]; exact h2
      refine w256_0 (s242 ?_)
      rw [h2', hg, h4, code0]
      refine ⟨fun c => absurd c n01, fun _ => ?_⟩
      rw [st0 hg]
      simp (disch := omega) only [n32_mul, n32_add, xin_t, ix_n32, smg_at, l3, true_and]
      refine ⟨fun c => absurd c c1, fun _ => ⟨fun _ => ?_, fun c => absurd c3 c⟩⟩
      first | exact ⟨⟨rfl, x.1⟩, x.2⟩ | exact ⟨⟨trivial, x.1⟩, x.2⟩ | exact ⟨x.1, x.2⟩
    · rw [ix_n32 (show s < 2147483648 by omega), q3]
      simp (disch := omega) only [n32_mul, n32_add, xin_t, ix_n32, q4 i hi, lt_f, le_f, false_implies, true_implies, not_false_eq_true, true_and]
      have hc : CPL m N := CPL_fr h (Nat.le_refl _) f
      have hg : m 284 = m 284 := funext fun k => f _ _ (by unfold REL; omega)
      have h2' : m 283 6 = n32 1 := by rw [f _ _ (by unfold REL; omega)]; exact h2
      refine w256_0 (s242 ?_)
      rw [h2', hg, h4, code0]
      refine ⟨fun c => absurd c n01, fun _ => ?_⟩
      rw [st0 hg]
      simp (disch := omega) only [n32_mul, n32_add, xin_t, ix_n32, smg_at, l3, true_and]
      simp (disch := omega) only [n32_sub, n32_add, xin_t, ix_n32, smg_at, lt_f, false_implies, true_implies, not_false_eq_true, true_and]
      exact ⟨⟨by rw [show 99 + 12 * s + (4 + i) = 99 + 12 * s + 4 + i by omega], x.1⟩, x.2⟩

theorem p_readByte {v v2 : Int32} {N : Nat} (h : CPL m N) : PRI (D + 12) 103 257 [vR 10 0, vI v, vI v2] [vR 11 283, vI v, vI v2] mpSPA m N := by
  unfold PRI
  rcases stand_cases h v with ⟨h1, h2⟩ | ⟨h1, h2, h3, h4⟩ | ⟨h1, h2, hS, s, hs, rfl, h69, h4⟩
  · refine w103_0 ⟨fun _ => ?_, fun c => absurd h1 c⟩
    refine w257_0 (s242 ?_)
    rw [h2]
    exact ⟨fun _ => ⟨⟨um_eq _ _ _ _, by decide, by decide⟩, CPL_th h⟩, fun c => absurd rfl c⟩
  · have rb : VI (D + 12) 257 [vR 11 283, vI v, vI v2] m (fun _ m2 => (m2 283 0 = n32 (mpSPA 2) ∧ 1 ≤ mpSPA 2 ∧ mpSPA 2 ≤ 3) ∧ CPL m2 N) (fun _ _ => False) := by
      refine w257_0 (s242 ?_)
      rw [h2, h4]
      exact ⟨fun _ => ⟨⟨um_eq _ _ _ _, by decide, by decide⟩, CPL_th h⟩, fun c => absurd rfl c⟩
    refine w103_0 ⟨fun c => absurd (h1.symm.trans c) n01, fun _ => ⟨fun _ => rb, fun c => ⟨fun c2 => ?_, fun _ => rb⟩⟩⟩
    rcases h3 with h3 | h3
    · exact absurd h3 c
    · exact absurd c2 h3
  · obtain ⟨r1, r2, r3, T, hT, si⟩ := hS
    have w := si.w
    have a4 := w.ns
    refine w103_0 ⟨fun c => absurd (h1.symm.trans c) n01, fun _ => ⟨fun c => absurd ((n32_lt (by omega) (by omega)).mp c) (by omega), fun _ => ⟨fun _ => ?_, fun c => absurd (by rw [h69]; exact (n32_lt (by omega) (by omega)).mpr hs) c⟩⟩⟩
    refine s161 w r1 r3 hs ?_
    intro m1 hT1 fd
    have rt1 := RT_fd (r := 278) r3 fd (Or.inr (by omega))
    have f : QF m m1 := QF_fd fd
    have tl := tx_len w s
    have t0 := hT1.1
    rcases idx_cases v2 (n := (txA (m 284) s).1) (by omega) with c1 | ⟨c1, c2, c3⟩ | ⟨i, hi, rfl⟩
    · refine ⟨fun _ => ?_, fun c => absurd c1 c⟩
      have hc : CPL m1 N := CPL_fr h (Nat.le_refl _) f
      have hg : m1 284 = m 284 := funext fun k => f _ _ (by unfold REL; omega)
      have h2' : m1 283 6 = n32 1 := by rw [f _ _ (by unfold REL; omega)]; exact h2
      refine w257_0 (s242 ?_)
      rw [h2', hg, h4, code0]
      refine ⟨fun c => absurd c n01, fun _ => ?_⟩
      rw [st0 hg]
      refine s220 w hs ?_
      intro m2 f2 hT2
      obtain ⟨x1, x2⟩ := fin0 hc hg f2
      have e18 := hT2.1
      simp (disch := omega) only [smg_ne, e18]
      refine ⟨fun _ => ?_, fun c => absurd c1 c⟩
      first | exact ⟨⟨rfl, x1⟩, x2⟩ | exact ⟨⟨trivial, x1⟩, x2⟩ | exact ⟨x1, x2⟩
    · refine ⟨fun c => absurd c c1, fun _ => ?_⟩
      rw [t0]
      refine ⟨fun _ => ?_, fun c => absurd c2 c⟩
      have hc : CPL m1 N := CPL_fr h (Nat.le_refl _) f
      have hg : m1 284 = m 284 := funext fun k => f _ _ (by unfold REL; omega)
      have h2' : m1 283 6 = n32 1 := by rw [f _ _ (by unfold REL; omega)]; exact h2
      refine w257_0 (s242 ?_)
      rw [h2', hg, h4, code0]
      refine ⟨fun c => absurd c n01, fun _ => ?_⟩
      rw [st0 hg]
      refine s220 w hs ?_
      intro m2 f2 hT2
      obtain ⟨x1, x2⟩ := fin0 hc hg f2
      have e18 := hT2.1
      simp (disch := omega) only [smg_ne, e18]
      refine ⟨fun c => absurd c c1, fun _ => ⟨fun _ => ?_, fun c => absurd c3 c⟩⟩
      first | exact ⟨⟨rfl, x1⟩, x2⟩ | exact ⟨⟨trivial, x1⟩, x2⟩ | exact ⟨x1, x2⟩
    · rw [t0]
      simp (disch := omega) only [xin_t, ix_n32, hT1.2.2.1 i hi, lt_f, le_f, false_implies, true_implies, not_false_eq_true, true_and]
      have hc : CPL m1 N := CPL_fr h (Nat.le_refl _) f
      have hg : m1 284 = m 284 := funext fun k => f _ _ (by unfold REL; omega)
      have h2' : m1 283 6 = n32 1 := by rw [f _ _ (by unfold REL; omega)]; exact h2
      refine w257_0 (s242 ?_)
      rw [h2', hg, h4, code0]
      refine ⟨fun c => absurd c n01, fun _ => ?_⟩
      rw [st0 hg]
      refine s220 w hs ?_
      intro m2 f2 hT2
      obtain ⟨x1, x2⟩ := fin0 hc hg f2
      have e18 := hT2.1
      simp (disch := omega) only [smg_ne, e18]
      simp (disch := omega) only [n32_sub, xin_t, ix_n32, smg_ne, hT2.2 i hi, lt_f, false_implies, true_implies, not_false_eq_true, true_and]
      first | exact ⟨⟨rfl, x1⟩, x2⟩ | exact ⟨⟨trivial, x1⟩, x2⟩ | exact ⟨x1, x2⟩

end PS
