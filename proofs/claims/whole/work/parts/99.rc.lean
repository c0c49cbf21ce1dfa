/-! The reference reads the lines of a text. -/
def RRES (m : XM) (Q : XM → Prop) (bf : BF) (n : Nat) (F : PRS) : Prop := (∀ e, F = Sum.inl e → ∀ m', MS m' bf n (Sum.inl e) → FP m m' → Q m') ∧ (∀ q, F = Sum.inr q → ∀ m', MS m' bf n (Sum.inr (tok bf n q.2.2.2.1)) → PX m' q.1 → FP m m' → Q m')
theorem letS_y {bf : BF} {n : Nat} {t : TK} (c : t.2.1 = 1 ∧ t.2.2.1 - t.1 = 1) : letS bf n (Sum.inr t) = Sum.inr (tok bf n t.2.2.1) := by
  unfold letS; dsimp only; rw [if_pos c]
theorem letS_n {bf : BF} {n : Nat} {t : TK} (c : ¬ (t.2.1 = 1 ∧ t.2.2.1 - t.1 = 1)) : letS bf n (Sum.inr t) = Sum.inl (1, t.1) := by
  unfold letS; dsimp only; rw [if_neg c]
theorem numS_y {bf : BF} {n : Nat} {lo hi : Int32} {t : TK} (c : numE lo hi t = 0) : numS bf n lo hi (Sum.inr t) = Sum.inr (tok bf n t.2.2.1) := by
  unfold numS; dsimp only; rw [if_pos c]
theorem numS_n {bf : BF} {n : Nat} {lo hi : Int32} {t : TK} (c : ¬ numE lo hi t = 0) : numS bf n lo hi (Sum.inr t) = Sum.inl (numE lo hi t, t.1) := by
  unfold numS; dsimp only; rw [if_neg c]
section S99c
variable {D : Nat} {m : XM} {g : PG} {E : Nat → XM → Prop} {bf : BF} {n : Nat} {s : RST}
theorem r196 {t1 : TK} {Q : XM → Prop} (hg : PG0 g) (hb : HR m bf n) (ms : MS m bf n (Sum.inr t1)) (px : PX m g) (h : RRES m Q bf n (if 12 ≤ nBr g then Sum.inl (4, t1.1) else bearerF bf n g t1)) : VU (D + 4) 196 [vR 11 283] m Q E := by
  have w := hg.1.w
  have a2 := w.nb
  have e6 : m 284 6 = n32 (nBr g) := (px 6 (by omega)).trans w.1.1
  refine w196_0 (r194 (by omega) (by omega) a2 e6 hb ms (fun c m1 ms1 f1 => ⟨fun _ => ?_, fun c => absurd rfl c⟩) (fun c m1 ms1 f1 => ⟨fun c => absurd c n01, fun _ => ?_⟩))
  · rw [if_pos c] at h
    exact h.1 _ rfl m1 ms1 f1.fp
  rw [if_neg c] at h
  have hb1 := hb.fp f1.fp
  have px1 := px.fe f1
  have e61 : m1 284 6 = n32 (nBr g) := (px1 6 (by omega)).trans w.1.1
  simp (disch := omega) only [ix_n32, e61, n32_mul, n32_add, Nat.add_zero, xin_t, true_and]
  refine r195 hb1 ms1 (fun x2 m2 ms2 v2 f2 => ?_)
  have hb2 := hb1.fp f2.fp
  refine r191 ((hb2.fp (FP_um _ _ _)).fp (FP_um _ _ _)) (MS_um (MS_um ms2)) (fun x3 m3 ms3 v3 f3 => ?_)
  have g3 := ((FP_um m2 (15 + 7 * nBr g + 6) x2).tr (FP_um _ (15 + 7 * nBr g) x2)).tr f3.fp
  refine r191 ((hb2.fp g3).fp (FP_um _ _ _)) (MS_um ms3) (fun x4 m4 ms4 v4 f4 => ?_)
  have g4 := (g3.tr (FP_um m3 (15 + 7 * nBr g + 2) x3)).tr f4.fp
  have p5 := PX_um (v := n32 100) (k := 15 + 7 * nBr g + 4) (PX_um (v := x4) (k := 15 + 7 * nBr g + 3) ((PX_um (v := x3) (k := 15 + 7 * nBr g + 2) ((PX_um (v := x2) (k := 15 + 7 * nBr g) (PX_um (v := x2) (k := 15 + 7 * nBr g + 6) (px1.fe f2))).fe f3)).fe f4))
  rintro _ rfl _ rfl
  have e0 := p5 0 (by omega)
  rw [gup_ne (by omega), gup_ne (by omega), gup_ne (by omega), gup_ne (by omega), gup_ne (by omega)] at e0
  rw [e0]
  have p6 := PX_um (v := -(g 0) * n32 (nBr g)) (k := 15 + 7 * nBr g + 1) p5
  have e66 := p6 6 (by omega)
  rw [gup_ne (by omega), gup_ne (by omega), gup_ne (by omega), gup_ne (by omega), gup_ne (by omega), gup_ne (by omega), show g 6 = n32 (nBr g) from w.1.1] at e66
  rw [e66, n32_add]
  have p7 := PX_um (v := n32 (nBr g + 1)) (k := 6) p6
  have ms7 := MS_um (k := 6) (v := n32 (nBr g + 1)) (MS_um (k := 15 + 7 * nBr g + 1) (v := -(g 0) * n32 (nBr g)) (MS_um (k := 15 + 7 * nBr g + 4) (v := n32 100) (MS_um (k := 15 + 7 * nBr g + 3) (v := x4) ms4)))
  have fp7 := (((((f1.fp.tr f2.fp).tr g4).tr (FP_um _ (15 + 7 * nBr g + 3) x4)).tr (FP_um _ (15 + 7 * nBr g + 4) (n32 100))).tr (FP_um _ (15 + 7 * nBr g + 1) (-(g 0) * n32 (nBr g)))).tr (FP_um _ 6 (n32 (nBr g + 1)))
  unfold bearerF at h
  generalize tok bf n t1.2.2.1 = t2 at h ms7 v2 v3 v4
  by_cases c1 : t2.2.1 = 1 ∧ t2.2.2.1 - t2.1 = 1
  · rw [if_pos c1] at h
    obtain rfl := v2 t2 rfl c1
    rw [letS_y c1] at ms7 v3 v4
    generalize tok bf n t2.2.2.1 = t3 at h ms7 v3 v4
    by_cases c2 : numE (n32 1) (n32 200) t3 = 0
    · rw [if_pos c2] at h
      obtain rfl := v3 t3 rfl c2
      rw [numS_y c2] at ms7 v4
      by_cases c3 : numE (n32 0) (n32 20) (tok bf n t3.2.2.1) = 0
      · rw [if_pos c3] at h
        obtain rfl := v4 _ rfl c3
        rw [numS_y c3] at ms7
        exact h.2 _ rfl _ ms7 p7 fp7
      · rw [if_neg c3] at h
        rw [numS_n c3] at ms7
        exact h.1 _ rfl _ ms7 fp7
    · rw [if_neg c2] at h
      rw [numS_n c2] at ms7
      exact h.1 _ rfl _ ms7 fp7
  · rw [if_neg c1] at h
    rw [letS_n c1] at ms7
    exact h.1 _ rfl _ ms7 fp7
theorem r198 {t1 : TK} {Q : XM → Prop} (hg : PG0 g) (hb : HR m bf n) (ms : MS m bf n (Sum.inr t1)) (px : PX m g) (h : RRES m Q bf n (if 12 ≤ nPl g then Sum.inl (4, t1.1) else planF bf n g t1)) : VU (D + 4) 198 [vR 11 283] m Q E := by
  have w := hg.1.w
  have a2 := w.nb
  have a6 := w.np
  have e8 : m 284 8 = n32 (nPl g) := (px 8 (by omega)).trans w.2.2.1.1
  refine w198_0 (r194 (by omega) (by omega) a6 e8 hb ms (fun c m1 ms1 f1 => ⟨fun _ => ?_, fun c => absurd rfl c⟩) (fun c m1 ms1 f1 => ⟨fun c => absurd c n01, fun _ => ?_⟩))
  · rw [if_pos c] at h
    exact h.1 _ rfl m1 ms1 f1.fp
  rw [if_neg c] at h
  have hb1 := hb.fp f1.fp
  have px1 := px.fe f1
  refine r191 hb1 ms1 (fun x2 m2 ms2 v2 f2 => ?_)
  have px2 := px1.fe f2
  have e62 : m2 284 6 = n32 (nBr g) := (px2 6 (by omega)).trans w.1.1
  rw [ix_n32 (show 6 < 2147483648 by omega), e62]
  refine r191 (hb1.fp f2.fp) ms2 (fun x3 m3 ms3 v3 f3 => ?_)
  have px3 := px2.fe f3
  have e83 : m3 284 8 = n32 (nPl g) := (px3 8 (by omega)).trans w.2.2.1.1
  simp (disch := omega) only [ix_n32, e83, n32_mul, n32_add, Nat.add_zero, xin_t, true_and]
  rintro _ rfl
  have p4 := PX_um (v := n32 0) (k := 171 + 3 * nPl g + 2) (PX_um (v := x3) (k := 171 + 3 * nPl g + 1) (PX_um (v := x2) (k := 171 + 3 * nPl g) px3))
  have e84 := p4 8 (by omega)
  rw [gup_ne (by omega), gup_ne (by omega), gup_ne (by omega), show g 8 = n32 (nPl g) from w.2.2.1.1] at e84
  rw [e84, n32_add]
  have p5 := PX_um (v := n32 (nPl g + 1)) (k := 8) p4
  have ms5 := MS_um (k := 8) (v := n32 (nPl g + 1)) (MS_um (k := 171 + 3 * nPl g + 2) (v := n32 0) (MS_um (k := 171 + 3 * nPl g + 1) (v := x3) (MS_um (k := 171 + 3 * nPl g) (v := x2) ms3)))
  have fp5 := ((((f1.fp.tr f2.fp).tr f3.fp).tr (FP_um _ (171 + 3 * nPl g) x2)).tr (FP_um _ (171 + 3 * nPl g + 1) x3)).tr ((FP_um _ (171 + 3 * nPl g + 2) (n32 0)).tr (FP_um _ 8 (n32 (nPl g + 1))))
  unfold planF at h
  generalize tok bf n t1.2.2.1 = t2 at h ms5 v2 v3
  by_cases c1 : numE (n32 1) (n32 5000) t2 = 0
  · rw [if_pos c1] at h
    obtain rfl := v2 t2 rfl c1
    rw [numS_y c1] at ms5 v3
    by_cases c2 : numE (n32 0) (n32 (nBr g) - n32 2) (tok bf n t2.2.2.1) = 0
    · rw [if_pos c2] at h
      obtain rfl := v3 _ rfl c2
      rw [numS_y c2] at ms5
      exact h.2 _ rfl _ ms5 p5 fp5
    · rw [if_neg c2] at h
      rw [numS_n c2] at ms5
      exact h.1 _ rfl _ ms5 fp5
  · rw [if_neg c1] at h
    rw [numS_n c1] at ms5
    exact h.1 _ rfl _ ms5 fp5
theorem t197 {t : TK} {G : PG} {Q : XM → Prop} (hn : nSt g < 6) (ck : t.2.1 = 1) (g7 : G 7 = n32 (nSt g)) : ∀ (r i : Nat) (m : XM), i + r = t.2.2.1 - t.1 → HR m bf n → MS m bf n (Sum.inr t) → PX m (wordG bf (nSt g) t.1 i G) → (∀ m', MS m' bf n (Sum.inr (tok bf n t.2.2.1)) → PX m' (gup (wordG bf (nSt g) t.1 (t.2.2.1 - t.1) G) 7 (n32 (nSt g + 1))) → FP m m' → Q m') → VLU (D + 5) 197 13 [(0, vR 11 283), (1, vI (n32 (nSt g))), (3, vI (n32 (t.1 + i)))] [] m Q E := by
  intro r
  induction r with
  | zero =>
    intro i m hi hb ms px h
    have ms0 := ms
    have h7 := hb.1
    obtain ⟨-, -, ⟨t1, t2, -, -⟩, w1, w2, w3, w4, w5⟩ := ms
    obtain ⟨l8, lL⟩ := w5 ck
    refine w197_13 ⟨fun _ => r186 hb ms0 (fun m1 ms1 f1 => ?_), fun c => ?_⟩
    · have p1 := px.fe f1
      rw [show i = t.2.2.1 - t.1 by omega] at p1
      have e7 : m1 284 7 = n32 (nSt g) := by rw [p1 7 (by omega), wordG_at _ (by omega)]; exact g7
      rw [ix_n32 (by omega), e7, n32_add]
      exact h _ (MS_um ms1) (PX_um p1) (f1.fp.tr (FP_um _ _ _))
    · rw [t2] at c
      exact absurd ((n32_le (by omega) (by omega)).mpr (by omega)) c
  | succ r ih =>
    intro i m hi hb ms px h
    have ms0 := ms
    have h7 := hb.1
    obtain ⟨-, -, ⟨t1, t2, -, -⟩, w1, w2, w3, w4, w5⟩ := ms
    obtain ⟨l8, lL⟩ := w5 ck
    have hl := (isL_iff _).mp (lL (t.1 + i) (by omega) (by omega))
    have ei : n32 99 + n32 12 * n32 (nSt g) + (n32 4 + n32 (t.1 + i) - m 283 14) = n32 (99 + 12 * nSt g + 4 + i) := by
      rw [t1, n32_add, n32_sub (by omega), n32_mul, n32_add, n32_add]; congr 1; omega
    refine w197_13 ⟨fun c => ?_, fun _ => ?_⟩
    · rw [t2] at c
      exact absurd ((n32_le (by omega) (by omega)).mp c) (by omega)
    · rw [ei, ix_n32 (show t.1 + i < 2147483648 by omega), BB_n (hb.2.2 (t.1 + i) (by omega)) (by omega), ix_n32 (show 99 + 12 * nSt g + 4 + i < 2147483648 by omega), n32_add]
      refine ⟨xin_n (by omega) (by omega), xin_n (by omega) (by omega), ?_⟩
      exact ih (i + 1) _ (by omega) (hb.fp (FP_um _ _ _)) (MS_um ms0) (PX_um px) (fun m' x1 x2 x3 => h m' x1 x2 ((FP_um _ _ _).tr x3))
theorem r197t {side : Int32} {Q : XM → Prop} (hg : PG0 g) (hn : nSt g < 6) (hb : HR m bf n) (ms : MS m bf n s) (px : PX m g) (hs : (∃ e, s = Sum.inl e ∧ ∀ m', MS m' bf n (Sum.inl e) → FP m m' → Q m') ∨ (∃ t2, s = Sum.inr (tok bf n t2.2.2.1) ∧ TWF bf n t2 ∧ RRES m Q bf n (placeF bf n g side t2))) : (xin (((n32 99) + ((n32 12) * (n32 (nSt g)))) + (n32 0)) 243 = true ∧ VI (D + 4) 191 [vR 11 (283), vI (n32 0), vI (n32 9999)] (um m (284) (ix (((n32 99) + ((n32 12) * (n32 (nSt g)))) + (n32 0))) side) (fun x27 m27 => (xin (((n32 99) + ((n32 12) * (n32 (nSt g)))) + (n32 1)) 243 = true ∧ (xin (((n32 99) + ((n32 12) * (n32 (nSt g)))) + (n32 3)) 243 = true ∧ (∀ μ28 : XM, μ28 = um (um m27 (284) (ix (((n32 99) + ((n32 12) * (n32 (nSt g)))) + (n32 1))) x27) (284) (ix (((n32 99) + ((n32 12) * (n32 (nSt g)))) + (n32 3))) (-(n32 1)) → (((μ28 283 10) = (n32 0) → (((μ28 283 15) = (n32 2) → (((μ28 283 10) ≤ (n32 0) → (xin (((n32 99) + ((n32 12) * (n32 (nSt g)))) + (n32 2)) 243 = true ∧ VLU (D + 5) 197 13 [(0, vR 11 (283)), (1, vI (n32 (nSt g))), (3, vI ((um μ28 (284) (ix (((n32 99) + ((n32 12) * (n32 (nSt g)))) + (n32 2))) ((μ28 283 13) - (μ28 283 14))) 283 14))] [] (um μ28 (284) (ix (((n32 99) + ((n32 12) * (n32 (nSt g)))) + (n32 2))) ((μ28 283 13) - (μ28 283 14))) Q E)) ∧ (¬ (μ28 283 10) ≤ (n32 0) → Q μ28))) ∧ (¬ (μ28 283 15) = (n32 2) → VU (D + 4) 187 [vR 11 (283), vI (n32 1)] μ28 (fun m30 => (((m30 283 10) ≤ (n32 0) → (xin (((n32 99) + ((n32 12) * (n32 (nSt g)))) + (n32 2)) 243 = true ∧ VLU (D + 5) 197 13 [(0, vR 11 (283)), (1, vI (n32 (nSt g))), (3, vI ((um m30 (284) (ix (((n32 99) + ((n32 12) * (n32 (nSt g)))) + (n32 2))) ((m30 283 13) - (m30 283 14))) 283 14))] [] (um m30 (284) (ix (((n32 99) + ((n32 12) * (n32 (nSt g)))) + (n32 2))) ((m30 283 13) - (m30 283 14))) Q E)) ∧ (¬ (m30 283 10) ≤ (n32 0) → Q m30))) E))) ∧ (¬ (μ28 283 10) = (n32 0) → VU (D + 4) 187 [vR 11 (283), vI (n32 1)] μ28 (fun m33 => (((m33 283 10) ≤ (n32 0) → (xin (((n32 99) + ((n32 12) * (n32 (nSt g)))) + (n32 2)) 243 = true ∧ VLU (D + 5) 197 13 [(0, vR 11 (283)), (1, vI (n32 (nSt g))), (3, vI ((um m33 (284) (ix (((n32 99) + ((n32 12) * (n32 (nSt g)))) + (n32 2))) ((m33 283 13) - (m33 283 14))) 283 14))] [] (um m33 (284) (ix (((n32 99) + ((n32 12) * (n32 (nSt g)))) + (n32 2))) ((m33 283 13) - (m33 283 14))) Q E)) ∧ (¬ (m33 283 10) ≤ (n32 0) → Q m33))) E)))))) E) := by
  have w := hg.1.w
  simp (disch := omega) only [ix_n32, n32_mul, n32_add, Nat.add_zero, xin_t, true_and]
  refine r191 (hb.fp (FP_um _ _ _)) (MS_um ms) (fun x6 m6 ms6 v6 f6 => ?_)
  have p7 := PX_um (v := -(n32 1)) (k := 99 + 12 * nSt g + 3) (PX_um (v := x6) (k := 99 + 12 * nSt g + 1) ((PX_um (v := side) (k := 99 + 12 * nSt g) px).fe f6))
  have ms7 := MS_um (v := -(n32 1)) (k := 99 + 12 * nSt g + 3) (MS_um (v := x6) (k := 99 + 12 * nSt g + 1) ms6)
  have fp7 := (((FP_um m (99 + 12 * nSt g) side).tr f6.fp).tr (FP_um _ (99 + 12 * nSt g + 1) x6)).tr (FP_um _ (99 + 12 * nSt g + 3) (-(n32 1)))
  rintro _ rfl
  generalize um (um m6 284 (99 + 12 * nSt g + 1) x6) 284 (99 + 12 * nSt g + 3) (-(n32 1)) = m7 at p7 ms7 fp7 ⊢
  rcases hs with ⟨e, rfl, hq⟩ | ⟨t2, rfl, tw, h⟩
  · exact ⟨fun c => absurd c (e10 (e := e) ms7).1, fun _ => r187 (by omega) (by omega) ms7 (fun m9 ms9 f9 => ⟨fun c => absurd c (e10 (e := e) ms9).2, fun _ => hq m9 ms9 (fp7.tr f9.fp)⟩)⟩
  · unfold placeF at h
    have tw3 := tok_TWF (bf := bf) tw.2.1
    generalize tok bf n t2.2.2.1 = t3 at h ms7 v6 tw3
    by_cases c1 : numE (n32 0) (n32 9999) t3 = 0
    · rw [if_pos c1] at h
      obtain rfl := v6 t3 rfl c1
      rw [numS_y c1] at ms7
      generalize tok bf n t3.2.2.1 = t4 at h ms7
      have ms0 := ms7
      have hb7 := hb.fp fp7
      have h7 := hb.1
      obtain ⟨-, -, ⟨y1, y2, y3, -⟩, w1, w2, w3, w4, w5⟩ := ms7
      obtain ⟨k1, k2, k3, k4, k5⟩ := kk_3 w3
      refine ⟨fun _ => ⟨fun c => ⟨fun _ => ?_, fun c => absurd (o10 ms0).2 c⟩, fun c => ?_⟩, fun c => absurd (o10 ms0).1 c⟩
      · rw [y3] at c
        have ck : t4.2.1 = 1 := k2.mp (n32_inj (by omega) (by omega) c)
        rw [if_pos ck] at h
        rw [y2, y1, n32_sub w1, um_a (by omega), y1]
        have p8 := PX_um (v := n32 (t4.2.2.1 - t4.1)) (k := 99 + 12 * nSt g + 2) p7
        have q7 : (gup (gup (gup (gup g (99 + 12 * nSt g) side) (99 + 12 * nSt g + 1) t3.2.2.2) (99 + 12 * nSt g + 3) (-(n32 1))) (99 + 12 * nSt g + 2) (n32 (t4.2.2.1 - t4.1))) 7 = n32 (nSt g) := by
          rw [gup_ne (by omega), gup_ne (by omega), gup_ne (by omega), gup_ne (by omega)]
          exact w.2.1.1
        exact t197 (t := t4) (g := g) (bf := bf) (n := n) hn ck q7 (t4.2.2.1 - t4.1) 0 _ (by omega) (hb7.fp (FP_um _ _ _)) (MS_um ms0) p8 (fun m' x1 x2 x3 => h.2 _ rfl m' x1 x2 ((fp7.tr (FP_um _ _ _)).tr x3))
      · rw [y3] at c
        have ck : ¬ t4.2.1 = 1 := fun e => c (by rw [k2.mpr e])
        rw [if_neg ck] at h
        exact r187 (by omega) (by omega) ms0 (fun m9 ms9 f9 => ⟨fun c => absurd c (e10 (e := (1, t4.1)) ms9).2, fun _ => h.1 _ rfl m9 ms9 (fp7.tr f9.fp)⟩)
    · rw [if_neg c1] at h
      rw [numS_n c1] at ms7
      exact ⟨fun c => absurd c (e10 ms7).1, fun _ => r187 (by omega) (by omega) ms7 (fun m9 ms9 f9 => ⟨fun c => absurd c (e10 (e := (numE (n32 0) (n32 9999) t3, t3.1)) ms9).2, fun _ => h.1 _ rfl m9 ms9 (fp7.tr f9.fp)⟩)⟩
theorem l8t : ∀ i, wPar.getD i 0 < 128 ∧ wBea.getD i 0 < 128 ∧ wSta.getD i 0 < 128 ∧ wRig.getD i 0 < 128 ∧ wLef.getD i 0 < 128 ∧ wPla.getD i 0 < 128 := by
  intro i
  match i with
  | 0 => decide
  | 1 => decide
  | 2 => decide
  | 3 => decide
  | 4 => decide
  | 5 => decide
  | (i + 6) => exact ⟨by show 0 < 128; omega, by show 0 < 128; omega, by show 0 < 128; omega, by show 0 < 128; omega, by show 0 < 128; omega, by show 0 < 128; omega⟩
theorem r197 {t1 : TK} {Q : XM → Prop} (hg : PG0 g) (hb : HR m bf n) (ms : MS m bf n (Sum.inr t1)) (px : PX m g) (h : RRES m Q bf n (if 6 ≤ nSt g then Sum.inl (4, t1.1) else standF bf n g t1)) : VU (D + 5) 197 [vR 11 283] m Q E := by
  have w := hg.1.w
  have a4 := w.ns
  have e7 : m 284 7 = n32 (nSt g) := (px 7 (by omega)).trans w.2.1.1
  refine w197_0 (r194 (by omega) (by omega) a4 e7 hb ms (fun c m1 ms1 f1 => ⟨fun _ => ?_, fun c => absurd rfl c⟩) (fun c m1 ms1 f1 => ⟨fun c => absurd c n01, fun _ => ?_⟩))
  · rw [if_pos c] at h
    exact h.1 _ rfl m1 ms1 f1.fp
  rw [if_neg c] at h
  have hb1 := hb.fp f1.fp
  have px1 := px.fe f1
  have e71 : m1 284 (ix (n32 7)) = n32 (nSt g) := (px1 7 (by omega)).trans w.2.1.1
  rw [e71]
  have tw2 : TWF bf n (tok bf n t1.2.2.1) := ms1.2.2.2
  unfold standF at h
  generalize tok bf n t1.2.2.1 = t2 at h ms1 tw2
  have sh : ∀ {F : PRS} {m' : XM}, RRES m Q bf n F → FP m m' → RRES m' Q bf n F := fun r f => ⟨fun e he m' a b => r.1 e he m' a (f.tr b), fun q hq m' a b c => r.2 q hq m' a b (f.tr c)⟩
  refine r189 STX_15 (by decide) (by decide) (fun i => (l8t i).2.2.2.1) hb1 ms1 ?_
  rw [show ([114, 105, 103, 104, 116] : List Nat) = wRig from rfl, show wrdS bf wRig (Sum.inr t2) = isW bf t2 wRig from rfl]
  by_cases cr : isW bf t2 wRig = true
  · rw [if_pos cr] at h ⊢
    refine ⟨fun c => absurd c n01, fun _ => r186 hb1 ms1 (fun m2 ms2 f2 => ?_)⟩
    exact r197t (s := nxtS bf n (Sum.inr t2)) hg (by omega) (hb1.fp f2.fp) ms2 (px1.fe f2) (Or.inr ⟨t2, rfl, tw2, sh h (f1.fp.tr f2.fp)⟩)
  · rw [if_neg cr] at h ⊢
    refine ⟨fun _ => ?_, fun c => absurd rfl c⟩
    refine r189 STX_16 (by decide) (by decide) (fun i => (l8t i).2.2.2.2.1) hb1 ms1 ?_
    rw [show ([108, 101, 102, 116] : List Nat) = wLef from rfl, show wrdS bf wLef (Sum.inr t2) = isW bf t2 wLef from rfl]
    by_cases cl : isW bf t2 wLef = true
    · rw [if_pos cl] at h ⊢
      refine ⟨fun c => absurd c n01, fun _ => r186 hb1 ms1 (fun m2 ms2 f2 => ?_)⟩
      exact r197t (s := nxtS bf n (Sum.inr t2)) hg (by omega) (hb1.fp f2.fp) ms2 (px1.fe f2) (Or.inr ⟨t2, rfl, tw2, sh h (f1.fp.tr f2.fp)⟩)
    · rw [if_neg cl] at h ⊢
      refine ⟨fun _ => r187 (by omega) (by omega) ms1 (fun m2 ms2 f2 => r186 (hb1.fp f2.fp) ms2 (fun m3 ms3 f3 => ?_)), fun c => absurd rfl c⟩
      exact r197t (s := Sum.inl (1, t2.1)) hg (by omega) ((hb1.fp f2.fp).fp f3.fp) ms3 ((px1.fe f2).fe f3) (Or.inl ⟨_, rfl, fun m' a b => h.1 _ rfl m' a (((f1.fp.tr f2.fp).tr f3.fp).tr b)⟩)
end S99c
