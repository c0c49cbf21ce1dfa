/-! The reference reads; its whole tick. -/
def TXF (m : XM) (t : TX) : Prop := m 283 18 = n32 t.1 ∧ ∀ j, j < t.1 → m 290 j = t.2.2.1 j
def bfv (t : TX) : Int32 := if t.2.1 = 0 then -(n32 1) else n32 (t.2.2.2 (t.2.1 - 1))
theorem bfv_1 (t : TX) (v : Int32) (b : Nat) : bfv (tx1 t v b) = n32 b := by
  unfold bfv tx1
  dsimp only
  rw [if_neg (by omega), Nat.add_sub_cancel, if_pos rfl]
theorem TXF_1 {m : XM} {b : Nat} {t : TX} {v : Int32} (h : TXF m t) : TXF (um (um m 290 t.1 v) 283 18 (n32 (t.1 + 1))) (tx1 t v b) ∧ rfr m (um (um m 290 t.1 v) 283 18 (n32 (t.1 + 1))) := by
  obtain ⟨h1, h2⟩ := h
  refine ⟨⟨?_, ?_⟩, ?_⟩
  · rw [um_eq]; rfl
  · intro j hj
    rw [um_a (by omega)]
    unfold tx1 at hj ⊢
    dsimp only at hj ⊢
    by_cases e : j = t.1
    · subst e; rw [um_eq, if_pos rfl]
    · rw [um_k e, if_neg e]; exact h2 j (by omega)
  · intro a k c1 c2 c3 c4
    unfold um
    rw [if_neg c4, if_neg (fun e => c2 e.1)]
theorem TXF_0 {m : XM} {t : TX} (h : TXF m t) : TXF (um (um m 290 t.1 (n32 32)) 283 18 (n32 (t.1 + 1))) (tx0 t) ∧ rfr m (um (um m 290 t.1 (n32 32)) 283 18 (n32 (t.1 + 1))) := by
  obtain ⟨h1, h2⟩ := h
  refine ⟨⟨?_, ?_⟩, ?_⟩
  · rw [um_eq]; rfl
  · intro j hj
    rw [um_a (by omega)]
    unfold tx0 at hj ⊢
    dsimp only at hj ⊢
    by_cases e : j = t.1
    · subst e; rw [um_eq, if_pos rfl]
    · rw [um_k e, if_neg e]; exact h2 j (by omega)
  · intro a k c1 c2 c3 c4
    unfold um
    rw [if_neg c4, if_neg (fun e => c2 e.1)]
section RF
variable {D : Nat} {m : XM} {g : PG} {E : Nat → XM → Prop}
theorem s219 {b s : Nat} {Q : Int32 → XM → Prop} (w : WF g) (hs : s < nSt g) (hb : b < nBr g) (h : Q (if seesG g s b = true then n32 1 else n32 0) (smg m g)) : VI (D + 1) 219 [vR 11 283, vI (n32 s), vI (n32 b)] (smg m g) Q E := by
  have a2 := w.nb
  have a4 := w.ns
  refine w219_0 ?_
  simp (disch := omega) only [n32_mul, n32_add, Nat.add_zero, xin_t, ix_n32, smg_at, true_and]
  unfold seesG at h
  refine ⟨fun c => ?_, fun c => ?_⟩
  · simp only [c, decide_true, decide_false, not_true_eq_false, Bool.false_and, Bool.false_eq_true, if_false] at h
    exact h
  · refine s384 ?_
    simp (disch := omega) only [ix_n32, smg_at]
    by_cases c1 : g 1 < iabs (g (15 + 7 * b + 1) - g (99 + 12 * s + 1)) <;>
      simp only [c, c1, decide_true, decide_false, not_true_eq_false, not_false_eq_true, Bool.and_true, Bool.true_and, Bool.and_false, Bool.false_and, if_true, if_false, false_implies, true_implies, and_true, true_and, Bool.false_eq_true] at h ⊢ <;> exact h
theorem s220 {s : Nat} {Q : XM → Prop} (w : WF g) (hs : s < nSt g) (h : ∀ m', rfr m m' → TXF m' (txA g s) → Q (smg m' g)) : VU (D + 2) 220 [vR 11 283, vI (n32 s)] (smg m g) Q E := by
  have a2 := w.nb
  have a4 := w.ns
  have h6 := w.1.1
  obtain ⟨sd, sd1, sd2, sd3⟩ := (w.st hs).1
  refine w220_0 ?_
  simp (disch := omega) only [ix_n32, um_smg_ne, smg_at, h6]
  refine upm (C := fun i m' => VLU (D + 2) 220 1 [(0, vR 11 283), (1, vI (n32 s)), (2, vI (n32 (nBr g))), (3, vI (bfv (txG g s i))), (4, vI (n32 i))] [] (smg m' g) Q E) (Inv := fun i m' => rfr m m' ∧ TXF m' (txG g s i)) (n := nBr g) ?_ ?_ 0 (um m 283 18 (n32 0)) (Nat.zero_le _) ⟨?_, ?_, ?_⟩
  · intro i m1 hi hI ih
    obtain ⟨f1, hT⟩ := hI
    have ok := txG_ok g s i (by omega)
    have e1 : txG g s (i + 1) = txStep g s i (txG g s i) := rfl
    rw [e1] at ih
    generalize txG g s i = t at hT ih ok
    obtain ⟨o1, o2, o3, o4, o5⟩ := ok
    have e18 := hT.1
    unfold txStep at ih
    refine w220_1 ?_
    simp (disch := omega) only [n32_mul, n32_add, n32_sub, Nat.add_zero, xin_t, ix_n32, smg_at, le_f, false_implies, true_implies, not_false_eq_true, true_and]
    refine ⟨fun c => ?_, fun c => ?_⟩
    · have eb : i = ordG g s i := by unfold ordG; rw [if_pos c]
      rw [← eb] at ih
      have hbb : i < nBr g := by rw [eb]; exact ordG_lt hi
      refine s219 w hs hbb ?_
      by_cases hc : seesG g s (i) = true
      · rw [if_pos hc]
        rw [if_pos hc] at ih
        refine ⟨fun c => absurd c (by decide), fun _ => ⟨fun c3 => ?_, fun c3 => ?_⟩⟩
        · have h0 : t.2.1 = 0 := by
            by_cases e : t.2.1 = 0
            · exact e
            · exfalso; unfold bfv at c3; rw [if_neg e] at c3; exact n32_nm1 (by have := o5 (t.2.1 - 1) (by omega); omega) c3
          have eg : gapG g t (i) = false := by unfold gapG; simp [h0]
          rw [eg, if_neg (by decide)] at ih
          simp (disch := omega) only [smg_at, smg_ne, um_smg_ne, e18, ix_n32, xin_t, n32_mul, n32_add, Nat.add_zero, um_eq, um_a, true_and]
          rintro μ rfl
          obtain ⟨p1, p2⟩ := TXF_1 (b := i) (v := n32 96 + g (15 + 7 * (i))) hT
          have := ih _ ⟨f1.tr p2, p1⟩
          rw [bfv_1] at this
          exact this
        · have h0 : ¬ t.2.1 = 0 := by
            intro e; unfold bfv at c3; rw [if_pos e] at c3; exact c3 rfl
          have o6 := o5 (t.2.1 - 1) (by omega)
          have o7 := o4 h0
          have ebf : bfv t = n32 (t.2.2.2 (t.2.1 - 1)) := by unfold bfv; rw [if_neg h0]
          rw [ebf]
          simp (disch := omega) only [smg_at, ix_n32, xin_t, n32_mul, n32_add, Nat.add_zero, true_and]
          refine s384 ?_
          rw [iabs_comm]
          unfold gapG at ih
          refine ⟨fun c1 => ?_, fun c1 => ?_⟩
          · simp (disch := omega) only [smg_at, ix_n32] at c1
            simp only [h0, c1, decide_true, decide_false, not_true_eq_false, not_false_eq_true, Bool.and_false, if_false, Bool.false_eq_true] at ih
            simp (disch := omega) only [smg_at, smg_ne, um_smg_ne, e18, ix_n32, xin_t, n32_mul, n32_add, Nat.add_zero, um_eq, um_a, true_and]
            rintro μ rfl
            obtain ⟨p1, p2⟩ := TXF_1 (b := i) (v := n32 96 + g (15 + 7 * (i))) hT
            have := ih _ ⟨f1.tr p2, p1⟩
            rw [bfv_1] at this
            exact this
          · simp (disch := omega) only [smg_at, ix_n32] at c1
            simp only [h0, c1, decide_true, decide_false, not_true_eq_false, not_false_eq_true, Bool.and_true, if_true] at ih
            simp (disch := omega) only [smg_at, smg_ne, um_smg_ne, e18, ix_n32, xin_t, n32_mul, n32_add, Nat.add_zero, um_eq, um_a, true_and]
            rintro μ rfl
            simp (disch := omega) only [smg_ne, um_smg_ne, um_eq, um_a, n32_add]
            obtain ⟨q1, q2⟩ := TXF_0 hT
            obtain ⟨p1, p2⟩ := TXF_1 (b := i) (v := n32 96 + g (15 + 7 * (i))) q1
            have := ih _ ⟨(f1.tr q2).tr p2, p1⟩
            rw [bfv_1] at this
            exact this
      · rw [if_neg hc]
        rw [if_neg hc] at ih
        exact ⟨fun _ => ih m1 ⟨f1, hT⟩, fun c => absurd rfl c⟩
    · have eb : nBr g - 1 - i = ordG g s i := by unfold ordG; rw [if_neg c]
      rw [← eb] at ih
      have hbb : nBr g - 1 - i < nBr g := by rw [eb]; exact ordG_lt hi
      refine s219 w hs hbb ?_
      by_cases hc : seesG g s (nBr g - 1 - i) = true
      · rw [if_pos hc]
        rw [if_pos hc] at ih
        refine ⟨fun c => absurd c (by decide), fun _ => ⟨fun c3 => ?_, fun c3 => ?_⟩⟩
        · have h0 : t.2.1 = 0 := by
            by_cases e : t.2.1 = 0
            · exact e
            · exfalso; unfold bfv at c3; rw [if_neg e] at c3; exact n32_nm1 (by have := o5 (t.2.1 - 1) (by omega); omega) c3
          have eg : gapG g t (nBr g - 1 - i) = false := by unfold gapG; simp [h0]
          rw [eg, if_neg (by decide)] at ih
          simp (disch := omega) only [smg_at, smg_ne, um_smg_ne, e18, ix_n32, xin_t, n32_mul, n32_add, Nat.add_zero, um_eq, um_a, true_and]
          rintro μ rfl
          obtain ⟨p1, p2⟩ := TXF_1 (b := nBr g - 1 - i) (v := n32 96 + g (15 + 7 * (nBr g - 1 - i))) hT
          have := ih _ ⟨f1.tr p2, p1⟩
          rw [bfv_1] at this
          exact this
        · have h0 : ¬ t.2.1 = 0 := by
            intro e; unfold bfv at c3; rw [if_pos e] at c3; exact c3 rfl
          have o6 := o5 (t.2.1 - 1) (by omega)
          have o7 := o4 h0
          have ebf : bfv t = n32 (t.2.2.2 (t.2.1 - 1)) := by unfold bfv; rw [if_neg h0]
          rw [ebf]
          simp (disch := omega) only [smg_at, ix_n32, xin_t, n32_mul, n32_add, Nat.add_zero, true_and]
          refine s384 ?_
          rw [iabs_comm]
          unfold gapG at ih
          refine ⟨fun c1 => ?_, fun c1 => ?_⟩
          · simp (disch := omega) only [smg_at, ix_n32] at c1
            simp only [h0, c1, decide_true, decide_false, not_true_eq_false, not_false_eq_true, Bool.and_false, if_false, Bool.false_eq_true] at ih
            simp (disch := omega) only [smg_at, smg_ne, um_smg_ne, e18, ix_n32, xin_t, n32_mul, n32_add, Nat.add_zero, um_eq, um_a, true_and]
            rintro μ rfl
            obtain ⟨p1, p2⟩ := TXF_1 (b := nBr g - 1 - i) (v := n32 96 + g (15 + 7 * (nBr g - 1 - i))) hT
            have := ih _ ⟨f1.tr p2, p1⟩
            rw [bfv_1] at this
            exact this
          · simp (disch := omega) only [smg_at, ix_n32] at c1
            simp only [h0, c1, decide_true, decide_false, not_true_eq_false, not_false_eq_true, Bool.and_true, if_true] at ih
            simp (disch := omega) only [smg_at, smg_ne, um_smg_ne, e18, ix_n32, xin_t, n32_mul, n32_add, Nat.add_zero, um_eq, um_a, true_and]
            rintro μ rfl
            simp (disch := omega) only [smg_ne, um_smg_ne, um_eq, um_a, n32_add]
            obtain ⟨q1, q2⟩ := TXF_0 hT
            obtain ⟨p1, p2⟩ := TXF_1 (b := nBr g - 1 - i) (v := n32 96 + g (15 + 7 * (nBr g - 1 - i))) q1
            have := ih _ ⟨(f1.tr q2).tr p2, p1⟩
            rw [bfv_1] at this
            exact this
      · rw [if_neg hc]
        rw [if_neg hc] at ih
        exact ⟨fun _ => ih m1 ⟨f1, hT⟩, fun c => absurd rfl c⟩
  · intro m1 hI
    refine w220_1 ?_
    exact ⟨fun _ => h m1 hI.1 hI.2, fun c => absurd (n32_rfl _) c⟩
  · intro a k c1 c2 c3 c4
    unfold um
    rw [if_neg c4]
  · rw [um_eq]; rfl
  · intro j hj; exact absurd hj (Nat.not_lt_zero j)
theorem s222 {s : Nat} {Q : Int32 → XM → Prop} (w : WF g) (hs : s < nSt g) (h : ∀ m', rfr m m' → TXF m' (txA g s) → Q (n32 (almG g s)) (smg m' g)) : VI (D + 3) 222 [vR 11 283, vI (n32 s)] (smg m g) Q E := by
  have a4 := w.ns
  obtain ⟨l1, l2, l3⟩ := wl w hs
  have tl := tx_len w s
  refine w222_0 (s220 w hs ?_)
  intro m' f hT
  have h := h m' f hT
  obtain ⟨h1, h3⟩ := hT
  unfold almG at h
  generalize txA g s = t at h h1 h3 tl
  generalize hL : ix (g (99 + 12 * s + 2)) = L at h l1 l2 l3
  refine up (C := fun i => VLI (D + 3) 222 1 [(0, vR 11 283), (1, vI (n32 s)), (2, vI (n32 (cnt i fun i => decide (t.2.2.1 i = g (99 + 12 * s + 4 + i))))), (3, vI (n32 i))] [] (smg m' g) Q E) (n := min t.1 L) ?_ ?_ 0 (Nat.zero_le _)
  · intro i hi ih
    refine w222_1 ?_
    simp (disch := omega) only [n32_add, n32_mul, xin_t, ix_n32, smg_at, smg_ne, h1, h3 i (by omega), l3, le_f, false_implies, true_implies, not_false_eq_true, true_and]
    rw [show 99 + 12 * s + (4 + i) = 99 + 12 * s + 4 + i by omega]
    by_cases c0 : t.2.2.1 i = g (99 + 12 * s + 4 + i) <;>
      simp only [c0, cnt_succ, Nat.add_zero, decide_true, decide_false, not_true_eq_false, not_false_eq_true, if_true, if_false, false_implies, true_implies, and_true, true_and, Bool.false_eq_true] at ih ⊢ <;> exact ih
  · refine w222_1 ?_
    simp (disch := omega) only [n32_add, n32_mul, xin_t, ix_n32, smg_at, smg_ne, h1, l3, true_and]
    by_cases c : t.1 ≤ L
    · rw [Nat.min_eq_left c] at h ⊢
      exact ⟨fun _ => h, fun c => absurd (n32_rfl _) c⟩
    · rw [Nat.min_eq_right (by omega)] at h ⊢
      exact ⟨fun _ => h, fun _ => ⟨fun _ => h, fun c => absurd (n32_rfl _) c⟩⟩
theorem s223 {s : Nat} {Q : Int32 → XM → Prop} (w : WF g) (hs : s < nSt g) (h : ∀ m', rfr m m' → Q (if rdG g s = true then n32 1 else n32 0) (smg m' g)) : VI (D + 4) 223 [vR 11 283, vI (n32 s)] (smg m g) Q E := by
  have a4 := w.ns
  obtain ⟨l1, l2, l3⟩ := wl w hs
  have tl := tx_len w s
  have al : almG g s ≤ 24 := by
    have := cnt_le (min (txA g s).1 (ix (g (99 + 12 * s + 2)))) fun i => decide ((txA g s).2.2.1 i = g (99 + 12 * s + 4 + i))
    unfold almG; omega
  refine w223_0 (s222 w hs ?_)
  intro m' f hT
  have h := h m' f
  have e18 := hT.1
  unfold rdG at h
  generalize hL : ix (g (99 + 12 * s + 2)) = L at h l1 l2 l3
  simp (disch := omega) only [n32_mul, n32_add, xin_t, ix_n32, smg_at, smg_ne, e18, l3, true_and]
  refine ⟨fun c => ⟨fun c2 => ?_, fun c2 => ?_⟩, fun c => ?_⟩
  · have c := n32_inj (by omega) (by omega) c
    have c2 := n32_inj (by omega) (by omega) c2
    rw [decide_eq_true c2, decide_eq_true (c.trans c2.symm)] at h
    exact h
  · have c2 : ¬ (txA g s).1 = L := fun e => c2 (by rw [e])
    rw [decide_eq_false c2] at h
    exact h
  · have c : ¬ almG g s = L := fun e => c (by rw [e])
    by_cases c2 : (txA g s).1 = L
    · rw [decide_eq_true c2, c2, decide_eq_false c] at h
      exact h
    · rw [decide_eq_false c2] at h
      exact h
theorem s224 {s : Nat} {Q : UInt32 → XM → Prop} (w : WF g) (hs : s < nSt g) (h : ∀ m', rfr m m' → Q (shareG g s) (smg m' g)) : VF (D + 4) 224 [vR 11 283, vI (n32 s)] (smg m g) Q E := by
  have a4 := w.ns
  obtain ⟨l1, l2, l3⟩ := wl w hs
  have tl := tx_len w s
  have al : almG g s ≤ 8 := by
    have := cnt_le (min (txA g s).1 (ix (g (99 + 12 * s + 2)))) fun i => decide ((txA g s).2.2.1 i = g (99 + 12 * s + 4 + i))
    unfold almG; omega
  refine w224_0 (s222 w hs ?_)
  intro m' f hT
  have h := h m' f
  have e18 := hT.1
  unfold shareG at h
  generalize hL : ix (g (99 + 12 * s + 2)) = L at h l1 l2 l3
  simp (disch := omega) only [n32_mul, n32_add, xin_t, ix_n32, smg_at, smg_ne, e18, l3, true_and]
  refine s385 ?_
  rw [imax_n (by omega) (by omega)]
  exact ⟨share_nn al (by omega) (by omega), h⟩
/-- the reading at the end of a tick -/
def rdStep (s : Nat) (g : PG) : PG := if g (99 + 12 * s + 3) = -(n32 1) ∧ rdG g s = true then gup g (99 + 12 * s + 3) (g 9) else g
def rdsG (g : PG) : PG := itr (nSt g) rdStep g
def tkR (g : PG) : PG := rdsG (tkG g)
theorem WF_rdStep {s : Nat} (h : WF g) (hs : s < nSt g) : keeps g (rdStep s g) := by
  have a4 := h.ns
  unfold rdStep
  split
  · exact WF_freeN h (Or.inr (Or.inr (Or.inr (Or.inr ⟨s, by omega, rfl⟩))))
  · exact keeps.rf h
theorem WF_rdsG (h : WF g) : keeps g (rdsG g) := keeps_itr h fun i x hi hx => WF_rdStep hx.1 (by rw [hx.2.2.1]; exact hi)
theorem WF_tkR (h : WF g) : keeps g (tkR g) := (WF_tkG h).tr (WF_rdsG (WF_tkG h).1)
theorem t228_13 {g1 : PG} {m0 : XM} {Q : XM → Prop} (w : WF g1) (f0 : rfr m m0) (h : ∀ m', rfr m m' → Q (smg m' (rdsG g1))) : VLU (D + 5) 228 13 [(0, vR 11 283), (1, vI (n32 0))] [] (smg m0 g1) Q E := by
  have a4 := w.ns
  unfold rdsG at h
  refine upm (C := fun i m' => VLU (D + 5) 228 13 [(0, vR 11 283), (1, vI (n32 i))] [] (smg m' (itr i rdStep g1)) Q E) (Inv := fun i m' => rfr m m') (n := nSt g1) ?_ ?_ 0 m0 (Nat.zero_le _) f0
  · intro i m1 hi f1 ih
    have kx : keeps g1 (itr i rdStep g1) := keeps_itr w fun j x hj hx => WF_rdStep hx.1 (by rw [hx.2.2.1]; omega)
    have e1 : itr (i + 1) rdStep g1 = rdStep i (itr i rdStep g1) := rfl
    rw [e1] at ih
    generalize itr i rdStep g1 = x at kx ih
    have h7 : x 7 = n32 (nSt g1) := by rw [kx.1.2.1.1, kx.2.2.1]
    refine w228_13 ?_
    simp (disch := omega) only [n32_mul, n32_add, Nat.add_zero, xin_t, ix_n32, smg_at, h7, le_f, false_implies, true_implies, not_false_eq_true, true_and]
    refine ⟨fun c => ?_, fun c => ?_⟩
    · refine s223 kx.1 (by rw [kx.2.2.1]; exact hi) ?_
      intro m2 f2
      by_cases hr : rdG x i = true
      · rw [if_pos hr]
        refine ⟨fun c => absurd c (by decide), fun _ => ?_⟩
        have e : rdStep i x = gup x (99 + 12 * i + 3) (x 9) := by unfold rdStep; rw [if_pos ⟨c, hr⟩]
        simp (disch := omega) only [ix_n32, smg_at, um_smg]
        rw [e] at ih
        exact ih m2 (f1.tr f2)
      · rw [if_neg hr]
        have e : rdStep i x = x := by unfold rdStep; rw [if_neg (fun h => hr h.2)]
        rw [e] at ih
        exact ⟨fun _ => ih m2 (f1.tr f2), fun c => absurd rfl c⟩
    · have e : rdStep i x = x := by unfold rdStep; rw [if_neg (fun h => c h.1)]
      rw [e] at ih
      exact ih m1 f1
  · intro m1 f1
    have kx : keeps g1 (itr (nSt g1) rdStep g1) := WF_rdsG w
    have h7 : itr (nSt g1) rdStep g1 7 = n32 (nSt g1) := by rw [kx.1.2.1.1, kx.2.2.1]
    refine w228_13 ?_
    simp (disch := omega) only [ix_n32, smg_at, h7]
    exact ⟨fun _ => h m1 f1, fun c => absurd (n32_rfl _) c⟩
theorem s228 {Q : XM → Prop} (w : WF g) (h : ∀ m', rfr m m' → Q (smg m' (tkR g))) : VU (D + 5) 228 [vR 11 283] (smg m g) Q E :=
  s228a w fun m0 f0 => t228_13 (WF_tkG w).1 f0 h
end RF
