/-! The component reads. -/
section RD
variable {D : Nat} {m : XM} {E : Nat → XM → Prop}
theorem s79 {a b s : Nat} {g : PG} {Q : Int32 → XM → Prop} (w : WF g) (r : RS m a g) (hb : b < nBr g) (h : Q (if seesG g s b = true then n32 1 else n32 0) m) : VI (D + 1) 79 [vR 8 a, vI (n32 b), vI (g (99 + 12 * s + 1))] m Q E := by
  have a2 := w.nb
  have e1 := r.se (k := 1) (by omega)
  refine w79_0 ?_
  simp (disch := omega) only [xin_t, ix_n32, r.ban hb, r.pla hb, true_and]
  unfold seesG at h
  refine ⟨fun c => ?_, fun c => ?_⟩
  · have c' := (weak_iff w hb).mp c
    simp only [c', decide_true, decide_false, not_true_eq_false, Bool.false_and, Bool.false_eq_true, if_false] at h
    exact h
  · have c' : ¬ g (15 + 7 * b) ≤ n32 0 := fun h => c ((weak_iff w hb).mpr h)
    refine s384 ?_
    simp (disch := omega) only [ix_n32, e1]
    by_cases c1 : g 1 < iabs (g (15 + 7 * b + 1) - g (99 + 12 * s + 1)) <;>
      simp only [c', c1, decide_true, decide_false, not_true_eq_false, not_false_eq_true, Bool.and_true, Bool.true_and, Bool.and_false, Bool.false_and, if_true, if_false, false_implies, true_implies, and_true, true_and, Bool.false_eq_true] at h ⊢ <;> exact h
theorem s34 {r a b : Nat} {g : PG} {t : TX} {Q : XM → Prop} (w : WF g) (rs : RS m a g) (hb : b < nBr g) (hT : RR m r t) (ho : txOk g 11 t) (far : r + 3 ≤ a ∨ a + 20 ≤ r)
    (h : ∀ m', RR m' r (if gapG g t b = true then tx1 (tx0 t) (n32 96 + g (15 + 7 * b)) b else tx1 t (n32 96 + g (15 + 7 * b)) b) → FD r m m' → Q m') : VU (D + 1) 34 [vR 5 r, vR 7 (a + 3), vI (n32 b), vI (g 2)] m Q E := by
  have a2 := w.nb
  obtain ⟨o1, o2, o3, o4, o5⟩ := ho
  have hT' := hT
  obtain ⟨h1, h2, h3, h4⟩ := hT
  refine w34_0 ?_
  simp (disch := omega) only [h1, h2, n32_add, le_f, lt_t, xin_t, ix_n32, rs.ban hb, rs.pla hb, um_a, um_k, um_eq, false_implies, true_implies, not_false_eq_true, not_true_eq_false, true_and, and_true]
  refine ⟨fun c => ?_, fun c => ?_⟩
  · have h0 : t.2.1 = 0 := by
      have := (n32_le (by omega) (by omega)).mp c
      omega
    have eg : gapG g t b = false := by unfold gapG; simp [h0]
    rw [eg, if_neg (by decide)] at h
    rintro μ rfl
    simp (disch := omega) only [um_a, um_k, um_eq, h2, n32_add]
    obtain ⟨p1, p2⟩ := RR_1 (b := b) (v := n32 96 + g (15 + 7 * b)) hT'
    exact h _ p1 p2
  · have h0 : ¬ t.2.1 = 0 := by
      intro e
      rw [e] at c; exact c (n32_rfl 0)
    have e4 : m (r + 2) (t.2.1 - 1) = n32 (t.2.2.2 (t.2.1 - 1)) := h4 _ (by omega)
    have e5 := o5 (t.2.1 - 1) (by omega)
    have e6 := o4 h0
    simp (disch := omega) only [n32_sub, xin_t, ix_n32, e4, rs.pla e5, true_and]
    refine s384 ?_
    unfold gapG at h
    refine ⟨fun c1 => ?_, fun c1 => ?_⟩
    · simp only [h0, c1, decide_true, decide_false, not_true_eq_false, not_false_eq_true, Bool.and_false, if_false, Bool.false_eq_true] at h
      simp (disch := omega) only [h1, rs.ban hb, xin_t, ix_n32, n32_add, true_and]
      rintro μ rfl
      simp (disch := omega) only [um_a, um_k, um_eq, h2, n32_add, xin_t, ix_n32, true_and]
      obtain ⟨p1, p2⟩ := RR_1 (b := b) (v := n32 96 + g (15 + 7 * b)) hT'
      exact h _ p1 p2
    · simp only [h0, c1, decide_true, decide_false, not_true_eq_false, not_false_eq_true, Bool.and_true, if_true] at h
      simp (disch := omega) only [h1, rs.ban hb, um_a, um_k, um_eq, xin_t, ix_n32, n32_add, true_and]
      rintro μ rfl
      simp (disch := omega) only [um_a, um_k, um_eq, h2, n32_add, xin_t, ix_n32, true_and]
      rintro μ rfl
      try simp (disch := omega) only [um_a, um_k, um_eq, h2, n32_add, xin_t, ix_n32, true_and]
      obtain ⟨q1, q2⟩ := RR_0 hT'
      obtain ⟨p1, p2⟩ := RR_1 (b := b) (v := n32 96 + g (15 + 7 * b)) q1
      exact h _ p1 (q2.tr p2)
theorem RS_fd {m m' : XM} {a r : Nat} {g : PG} (h : RS m a g) (f : FD r m m') (far : r + 3 ≤ a ∨ a + 20 ≤ r) : RS m' a g := by
  intro d k i hl
  have hd := lvn_d hl
  rw [f _ _ (by omega)]
  exact h d k i hl
theorem RT_fd {m m' : XM} {a r : Nat} {g : PG} (h : RT m a g) (f : FD r m m') (far : r + 3 ≤ a ∨ a + 5 ≤ r) : RT m' a g := by
  obtain ⟨h1, h2⟩ := h
  refine ⟨by rw [f _ _ (by omega)]; exact h1, fun s hs => ?_⟩
  obtain ⟨q1, q2, q3, q4⟩ := h2 s hs
  exact ⟨by rw [f _ _ (by omega)]; exact q1, by rw [f _ _ (by omega)]; exact q2, by rw [f _ _ (by omega)]; exact q3, fun i hi => by rw [f _ _ (by omega)]; exact q4 i hi⟩
theorem s33 {r a rt s : Nat} {g : PG} {Q : XM → Prop} (w : WF g) (rs : RS m a g) (rr : RT m rt g) (hs : s < nSt g) (far : r + 3 ≤ a ∨ a + 20 ≤ r) (far2 : r + 3 ≤ rt ∨ rt + 5 ≤ r)
    (h : ∀ m', RR m' r (txA g s) → FD r m m' → Q m') : VU (D + 2) 33 [vR 5 r, vR 8 a, vR 6 rt, vI (n32 s)] m Q E := by
  have a2 := w.nb
  have a4 := w.ns
  obtain ⟨sd, sd1, sd2, sd3⟩ := (w.st hs).1
  refine w33_0 (upm (C := fun i m' => VLU (D + 2) 33 1 [(0, vR 5 r), (1, vR 8 a), (2, vR 6 rt), (3, vI (n32 s)), (4, vR 7 (a + 3)), (5, vI (n32 i))] [] m' Q E) (Inv := fun i m' => RR m' r (txG g s i) ∧ FD r m m') (n := nBr g) ?_ ?_ 0 (um (um m r 0 (n32 0)) r 1 (n32 0)) (Nat.zero_le _) ⟨⟨?_, ?_, ?_, ?_⟩, ?_⟩)
  · intro i m1 hi hI ih
    obtain ⟨hT, f1⟩ := hI
    have ok := txG_ok g s i (by omega)
    have e1 : txG g s (i + 1) = txStep g s i (txG g s i) := rfl
    rw [e1] at ih
    generalize txG g s i = t at hT ih ok
    have rs1 := RS_fd rs f1 far
    have rr1 := RT_fd rr f1 far2
    obtain ⟨q1, q2, q3, q4⟩ := rr1.2 s hs
    have h6 : m1 (a + 3) 0 = n32 (nBr g) := by rw [rs1.nb]; exact w.1.1
    have ok' : txOk g 11 t := ⟨by have := ok.1; omega, ok.2⟩
    have key : ∀ b, b = ordG g s i → VI (D + 1) 79 [vR 8 a, vI (n32 b), vI (g (99 + 12 * s + 1))] m1 (fun x1 m2 => ((x1 = (n32 0) → VLU (D + 2) 33 1 [(0, vR 5 r), (1, vR 8 a), (2, vR 6 rt), (3, vI (n32 s)), (4, vR 7 (a + 3)), (5, vI (n32 (i + 1)))] [] m2 Q E) ∧ (¬ x1 = (n32 0) → VU (D + 1) 34 [vR 5 r, vR 7 (a + 3), vI (n32 b), vI (m2 (a + 1) 2)] m2 (fun m3 => VLU (D + 2) 33 1 [(0, vR 5 r), (1, vR 8 a), (2, vR 6 rt), (3, vI (n32 s)), (4, vR 7 (a + 3)), (5, vI (n32 (i + 1)))] [] m3 Q E) E))) E := by
      intro b hb
      have hbb : b < nBr g := by rw [hb]; exact ordG_lt hi
      unfold txStep at ih
      rw [← hb] at ih
      refine s79 (s := s) w rs1 hbb ?_
      by_cases hc : seesG g s b = true
      · rw [if_pos hc]
        rw [if_pos hc] at ih
        refine ⟨fun c => absurd c (by decide), fun _ => ?_⟩
        rw [rs1.se (k := 2) (by omega)]
        exact s34 w rs1 hbb hT ok' far (fun m2 p1 p2 => ih m2 ⟨p1, f1.tr p2⟩)
      · rw [if_neg hc]
        rw [if_neg hc] at ih
        exact ⟨fun _ => ih m1 ⟨hT, f1⟩, fun c => absurd rfl c⟩
    refine w33_1 ?_
    simp (disch := omega) only [n32_add, n32_sub, xin_t, ix_n32, h6, q1, q2, le_f, false_implies, true_implies, not_false_eq_true, true_and]
    refine ⟨fun c => key _ ?_, fun c => key _ ?_⟩
    · have : sd = 1 := by
        rw [sd3] at c
        exact n32_inj (by omega) (by omega) c
      unfold ordG
      rw [if_neg]
      rw [sd3, this]; decide
    · have : sd = 0 := by
        have : sd ≠ 1 := by rintro rfl; exact c sd3
        omega
      unfold ordG
      rw [if_pos]
      rw [sd3, this]
  · intro m1 hI
    obtain ⟨hT, f1⟩ := hI
    have rs1 := RS_fd rs f1 far
    have h6 : m1 (a + 3) 0 = n32 (nBr g) := by rw [rs1.nb]; exact w.1.1
    refine w33_1 ?_
    rw [h6]
    exact ⟨fun _ => h m1 hT f1, fun c => absurd (n32_rfl _) c⟩
  · rw [um_k (by omega), um_eq]; rfl
  · rw [um_eq]; rfl
  · intro j hj; exact absurd hj (Nat.not_lt_zero j)
  · intro j hj; exact absurd hj (Nat.not_lt_zero j)
  · intro c k hc
    rw [um_a (by omega), um_a (by omega)]
theorem tx_len {g : PG} (w : WF g) (s : Nat) : (txA g s).1 ≤ 24 := by
  have a2 := w.nb
  obtain ⟨h1, h2, h3, h4, h5⟩ := txG_ok g s (nBr g) (Nat.le_refl _)
  unfold txA; omega
theorem wl {g : PG} (w : WF g) {s : Nat} (hs : s < nSt g) : 1 ≤ ix (g (99 + 12 * s + 2)) ∧ ix (g (99 + 12 * s + 2)) ≤ 8 ∧ g (99 + 12 * s + 2) = n32 (ix (g (99 + 12 * s + 2))) := by
  obtain ⟨n, h1, h2, h3⟩ := (w.st hs).2.1
  rw [h3, ix_n32 (by omega)]
  exact ⟨h1, h2, rfl⟩
theorem s37 {r rt s : Nat} {g : PG} {Q : Int32 → XM → Prop} (w : WF g) (hT : RR m r (txA g s)) (rr : RT m rt g) (hs : s < nSt g) (h : Q (n32 (almG g s)) m) : VI (D + 1) 37 [vR 5 r, vR 6 rt, vI (n32 s)] m Q E := by
  have a4 := w.ns
  obtain ⟨h1, h2, h3, h4⟩ := hT
  obtain ⟨q1, q2, q3, q4⟩ := rr.2 s hs
  obtain ⟨l1, l2, l3⟩ := wl w hs
  have tl := tx_len w s
  unfold almG at h
  generalize txA g s = t at h h1 h2 h3 h4 tl
  rw [l3] at q3
  generalize ix (g (99 + 12 * s + 2)) = L at h l1 l2 q3 q4
  refine w37_0 (up (C := fun i => VLI (D + 1) 37 1 [(0, vR 5 r), (1, vR 6 rt), (2, vI (n32 s)), (3, vI (n32 (cnt i fun i => decide (t.2.2.1 i = g (99 + 12 * s + 4 + i))))), (4, vI (n32 i))] [] m Q E) (n := min t.1 L) ?_ ?_ 0 (Nat.zero_le _))
  · intro i hi ih
    refine w37_1 ?_
    rw [ix_n32 (show s < 2147483648 by omega), h1, q3]
    simp (disch := omega) only [n32_add, n32_mul, xin_t, ix_n32, h3 i (by omega), q4 i (by omega), le_f, lt_f, false_implies, true_implies, not_false_eq_true, true_and]
    by_cases c0 : t.2.2.1 i = g (99 + 12 * s + 4 + i) <;>
      simp only [c0, cnt_succ, decide_true, decide_false, not_true_eq_false, not_false_eq_true, if_true, if_false, false_implies, true_implies, and_true, true_and, Bool.false_eq_true] at ih ⊢ <;> exact ih
  · refine w37_1 ?_
    rw [ix_n32 (show s < 2147483648 by omega), h1, q3]
    simp (disch := omega) only [xin_t, true_and]
    by_cases c : t.1 ≤ L
    · rw [Nat.min_eq_left c] at h ⊢
      exact ⟨fun _ => h, fun c => absurd (n32_rfl _) c⟩
    · rw [Nat.min_eq_right (by omega)] at h ⊢
      exact ⟨fun _ => h, fun _ => ⟨fun _ => h, fun c => absurd (n32_rfl _) c⟩⟩
theorem s39 {r rt s : Nat} {g : PG} {Q : Int32 → XM → Prop} (w : WF g) (hT : RR m r (txA g s)) (rr : RT m rt g) (hs : s < nSt g) (h : Q (if rdG g s = true then n32 1 else n32 0) m) : VI (D + 2) 39 [vR 5 r, vR 6 rt, vI (n32 s)] m Q E := by
  have a4 := w.ns
  obtain ⟨q1, q2, q3, q4⟩ := rr.2 s hs
  obtain ⟨l1, l2, l3⟩ := wl w hs
  have tl := tx_len w s
  have al : almG g s ≤ 24 := by
    have := cnt_le (min (txA g s).1 (ix (g (99 + 12 * s + 2)))) fun i => decide ((txA g s).2.2.1 i = g (99 + 12 * s + 4 + i))
    unfold almG; omega
  refine w39_0 ?_
  rw [ix_n32 (show s < 2147483648 by omega), hT.1, q3, l3]
  simp (disch := omega) only [xin_t, true_and]
  unfold rdG at h
  by_cases c : (txA g s).1 = ix (g (99 + 12 * s + 2))
  · refine ⟨fun _ => ?_, fun c' => absurd (by rw [c]) c'⟩
    refine s37 w hT rr hs ?_
    rw [hT.1]
    by_cases c2 : almG g s = (txA g s).1
    · simp only [c, decide_true, Bool.true_and] at h
      rw [← c] at h
      simp only [c2, decide_true, if_true] at h
      exact ⟨fun _ => h, fun c' => absurd (by rw [c2]) c'⟩
    · rw [decide_eq_true c, decide_eq_false c2] at h
      exact ⟨fun c' => absurd (n32_inj (by omega) (by omega) c') c2, fun _ => h⟩
  · rw [decide_eq_false c] at h
    exact ⟨fun c' => absurd (n32_inj (by omega) (by omega) c') c, fun _ => h⟩
theorem s40 {r rt s : Nat} {g : PG} {Q : UInt32 → XM → Prop} (w : WF g) (hT : RR m r (txA g s)) (rr : RT m rt g) (hs : s < nSt g) (h : Q (shareG g s) m) : VF (D + 2) 40 [vR 5 r, vR 6 rt, vI (n32 s)] m Q E := by
  have a4 := w.ns
  obtain ⟨q1, q2, q3, q4⟩ := rr.2 s hs
  obtain ⟨l1, l2, l3⟩ := wl w hs
  have tl := tx_len w s
  have al : almG g s ≤ 8 := by
    have := cnt_le (min (txA g s).1 (ix (g (99 + 12 * s + 2)))) fun i => decide ((txA g s).2.2.1 i = g (99 + 12 * s + 4 + i))
    unfold almG; omega
  refine w40_0 ?_
  rw [ix_n32 (show s < 2147483648 by omega), hT.1, q3, l3]
  simp (disch := omega) only [xin_t, true_and]
  refine s385 ?_
  rw [imax_n (by omega) (by omega)]
  refine ⟨fun c => absurd ((n32_le (by omega) (by omega)).mp c) (by omega), fun _ => ?_⟩
  refine s37 w hT rr hs ?_
  exact ⟨share_nn al (by omega) (by omega), h⟩
end RD

