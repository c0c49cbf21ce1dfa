/-! The reference parses; both load. -/
def LRES (m : XM) (Q : XM → Prop) (bf : BF) (n : Nat) (F : PRS) : Prop := (∀ e, F = Sum.inl e → ∀ m', MS m' bf n (Sum.inl e) → FP m m' → Q m') ∧ (∀ q, F = Sum.inr q → ∀ m', m' 283 10 = n32 0 → m' 283 11 = -(n32 1) → PX m' q.1 → FP m m' → Q m')
theorem LRES.sh {m m' : XM} {Q : XM → Prop} {bf : BF} {n : Nat} {F : PRS} (r : LRES m Q bf n F) (f : FP m m') : LRES m' Q bf n F :=
  ⟨fun e he m1 a b => r.1 e he m1 a (f.tr b), fun q hq m1 a b c d => r.2 q hq m1 a b c (f.tr d)⟩
section S99d
variable {D : Nat} {m : XM} {g : PG} {E : Nat → XM → Prop} {bf : BF} {n : Nat} {s : RST}
theorem r200e {e : Nat × Nat} {Q : XM → Prop} (ms : MS m bf n (Sum.inl e)) (h : ∀ m', MS m' bf n (Sum.inl e) → FP m m' → Q m') : VLU (D + 6) 200 3 [(0, vR 11 283)] [] m Q E :=
  w200_3 ⟨fun c => absurd c (e10 ms).1, fun _ => r187 (by omega) (by omega) ms (fun m' a f => h m' a f.fp)⟩
theorem r200f {t : TK} {Q : XM → Prop} (ms : MS m bf n (Sum.inr t)) (px : PX m g) (c3 : ¬ t.2.1 = 3) (h : LRES m Q bf n (if t.2.1 = 0 then Sum.inr (g, t) else Sum.inl (1, t.1))) : VLU (D + 6) 200 3 [(0, vR 11 283)] [] m Q E := by
  have ms0 := ms
  obtain ⟨z1, z2, ⟨y1, y2, y3, -⟩, w1, w2, w3, w4, w5⟩ := ms
  obtain ⟨k1, k2, k3, k4, k5⟩ := kk_3 w3
  refine w200_3 ⟨fun _ => ⟨fun c => ?_, fun _ => ⟨fun c => ?_, fun c => ?_⟩⟩, fun c => absurd (o10 ms0).1 c⟩
  · rw [y3] at c
    exact absurd (k3.mp (n32_inj (by omega) (by omega) c)) c3
  · rw [y3] at c
    rw [if_pos (k4.mp (n32_inj (by omega) (by omega) c))] at h
    exact h.2 _ rfl m z1 z2 px (FP.rf m)
  · rw [y3] at c
    have : ¬ t.2.1 = 0 := fun e => c (by rw [k4.mpr e])
    rw [if_neg this] at h
    exact r187 (by omega) (by omega) ms0 (fun m' a f => h.1 _ rfl m' a f.fp)
theorem r200l {Q : XM → Prop} : ∀ (r : Nat) (g : PG) (m : XM) (t : TK), PG0 g → HR m bf n → MS m bf n (Sum.inr t) → PX m g → 700 ≤ t.1 + r → LRES m Q bf n (linesF bf n r g t) → VLU (D + 6) 200 3 [(0, vR 11 283)] [] m Q E := by
  intro r
  induction r with
  | zero =>
    intro g m t hg hb ms px hk h
    rw [linesF_0] at h
    have h7 := hb.1
    refine r200f ms px (fun e => ?_) h
    have := ms.2.2.2.2.2.2.1 (by omega)
    omega
  | succ r ih =>
    intro g m t hg hb ms px hk h
    rw [linesF_s] at h
    by_cases c3 : t.2.1 = 3
    · rw [if_pos c3] at h
      have ms0 := ms
      obtain ⟨z1, z2, ⟨y1, y2, y3, -⟩, w1, w2, w3, w4, w5⟩ := ms
      obtain ⟨k1, k2, k3, k4, k5⟩ := kk_3 w3
      have w4' := w4 (by omega)
      refine w200_3 ⟨fun _ => ⟨fun _ => ?_, fun c => absurd (by rw [y3, k3.mpr c3]) c⟩, fun c => absurd (o10 ms0).1 c⟩
      refine r186 hb ms0 (fun m1 ms1 f1 => ?_)
      have hb1 := hb.fp f1.fp
      have px1 := px.fe f1
      have tw1 := tok_TWF (bf := bf) w2
      have r1 := (tok_wf (bf := bf) w2).1
      have ms1 : MS m1 bf n (Sum.inr (tok bf n t.2.2.1)) := ms1
      generalize tok bf n t.2.2.1 = t1 at ms1 h tw1 r1
      have RR : RRES m1 (fun m' => VLU (D + 6) 200 3 [(0, vR 11 283)] [] m' Q E) bf n (wordF bf n g t1) := by
        refine ⟨fun e he m' a b => ?_, fun q hq m' a b c => ?_⟩
        · rw [he] at h
          exact r200e a (fun m2 x f => h.1 _ rfl m2 x ((f1.fp.tr b).tr f))
        · rw [hq] at h
          obtain ⟨x1, x2, x3⟩ := wordF_ok hg tw1 hq
          have := (tok_wf (bf := bf) x2.2.1).1
          have t11 := tw1.1
          exact ih q.1 m' _ x1 (hb1.fp c) a b (by omega) (h.sh (f1.fp.tr c))
      unfold wordF at RR
      refine r189 STX_13 (by decide) (by decide) (fun i => (l8t i).2.1) hb1 ms1 ?_
      rw [show ([98, 101, 97, 114, 101, 114] : List Nat) = wBea from rfl, show wrdS bf wBea (Sum.inr t1) = isW bf t1 wBea from rfl]
      by_cases c1 : isW bf t1 wBea = true
      · rw [if_pos c1] at RR ⊢
        exact ⟨fun c => absurd c n01, fun _ => r196 hg hb1 ms1 px1 RR⟩
      rw [if_neg c1] at RR ⊢
      refine ⟨fun _ => ?_, fun c => absurd rfl c⟩
      refine r189 STX_14 (by decide) (by decide) (fun i => (l8t i).2.2.1) hb1 ms1 ?_
      rw [show ([115, 116, 97, 110, 100] : List Nat) = wSta from rfl, show wrdS bf wSta (Sum.inr t1) = isW bf t1 wSta from rfl]
      by_cases c1 : isW bf t1 wSta = true
      · rw [if_pos c1] at RR ⊢
        exact ⟨fun c => absurd c n01, fun _ => r197 hg hb1 ms1 px1 RR⟩
      rw [if_neg c1] at RR ⊢
      refine ⟨fun _ => ?_, fun c => absurd rfl c⟩
      refine r189 STX_17 (by decide) (by decide) (fun i => (l8t i).2.2.2.2.2) hb1 ms1 ?_
      rw [show ([112, 108, 97, 110] : List Nat) = wPla from rfl, show wrdS bf wPla (Sum.inr t1) = isW bf t1 wPla from rfl]
      by_cases c1 : isW bf t1 wPla = true
      · rw [if_pos c1] at RR ⊢
        exact ⟨fun c => absurd c n01, fun _ => r198 hg hb1 ms1 px1 RR⟩
      rw [if_neg c1] at RR ⊢
      refine ⟨fun _ => ?_, fun c => absurd rfl c⟩
      exact r187 (by omega) (by omega) ms1 (fun m2 ms2 f2 => RR.1 _ rfl m2 ms2 f2.fp)
    · rw [if_neg c3] at h
      exact r200f ms px c3 h
theorem r200se {e : Nat × Nat} {Q : XM → Prop} : ∀ (r k : Nat) (m : XM), k + r = 6 → HR m bf n → MS m bf n (Sum.inl e) → (∀ m', MS m' bf n (Sum.inl e) → FP m m' → Q m') → VLU (D + 6) 200 1 [(0, vR 11 283), (1, vI (n32 k))] [] m Q E := by
  intro r
  induction r with
  | zero =>
    intro k m hk hb ms h
    have : k = 6 := by omega
    subst this
    exact w200_1 ⟨fun _ => r200e ms h, fun c => absurd (n32_rfl _) c⟩
  | succ r ih =>
    intro k m hk hb ms h
    refine w200_1 ⟨fun c => absurd ((n32_le (by omega) (by omega)).mp c) (by omega), fun _ => s192 (by omega) (s193 (by omega) (r191 hb ms (fun x m1 ms1 v1 f1 => ⟨xin_n (by omega) (by omega), ?_⟩)))⟩
    rw [n32_add]
    exact ih (k + 1) _ (by omega) (hb.fp (f1.fp.tr (FP_um _ _ _))) (MS_um ms1) (fun m' a f => h m' a ((f1.fp.tr (FP_um _ _ _)).tr f))
theorem r200s {Q : XM → Prop} : ∀ (r k : Nat) (g : PG) (m : XM) (tl : TK), k + r = 6 → HR m bf n → MS m bf n (Sum.inr (tok bf n tl.2.2.1)) → PX m g → (∀ e, setF bf n r k g tl = Sum.inl e → ∀ m', MS m' bf n (Sum.inl e) → FP m m' → Q m') → (∀ q, setF bf n r k g tl = Sum.inr q → ∀ m', MS m' bf n (Sum.inr (tok bf n q.2.2.2.1)) → PX m' q.1 → FP m m' → VLU (D + 6) 200 3 [(0, vR 11 283)] [] m' Q E) → VLU (D + 6) 200 1 [(0, vR 11 283), (1, vI (n32 k))] [] m Q E := by
  intro r
  induction r with
  | zero =>
    intro k g m tl hk hb ms px h1 h2
    have : k = 6 := by omega
    subst this
    exact w200_1 ⟨fun _ => h2 (g, tl) (by rw [setF]) m ms px (FP.rf m), fun c => absurd (n32_rfl _) c⟩
  | succ r ih =>
    intro k g m tl hk hb ms px h1 h2
    rw [setF_s] at h1 h2
    generalize tok bf n tl.2.2.1 = t at ms h1 h2
    refine w200_1 ⟨fun c => absurd ((n32_le (by omega) (by omega)).mp c) (by omega), fun _ => s192 (by omega) (s193 (by omega) (r191 hb ms (fun x m1 ms1 v1 f1 => ⟨xin_n (by omega) (by omega), ?_⟩)))⟩
    rw [n32_add, ix_n32 (by omega)]
    have fp := f1.fp.tr (FP_um m1 k x)
    by_cases ce : numE (n32 (setLo k)) (n32 (setHi k)) t = 0
    · rw [if_pos ce] at h1 h2
      rw [numS_y ce] at ms1
      obtain rfl := v1 t rfl ce
      exact ih (k + 1) _ _ t (by omega) (hb.fp fp) (MS_um ms1) (PX_um (px.fe f1)) (fun e he m' a f => h1 e he m' a (fp.tr f)) (fun q hq m' a b f => h2 q hq m' a b (fp.tr f))
    · rw [if_neg ce] at h1 h2
      rw [numS_n ce] at ms1
      exact r200se r (k + 1) _ (by omega) (hb.fp fp) (MS_um ms1) (fun m' a f => h1 _ rfl m' a (fp.tr f))
theorem r200 {g0 : PG} {Q : XM → Prop} (h0 : PS0 g0 0) (hb : HR m bf n) (c0 : m 283 10 = n32 0) (c1 : m 283 11 = -(n32 1)) (c3 : m 283 13 = n32 0) (px : PX m g0) (h : LRES m Q bf n (parF bf n g0)) : VU (D + 6) 200 [vR 11 283] m Q E := by
  have tw := tok_TWF (bf := bf) (Nat.zero_le n)
  unfold parF at h
  refine w200_0 (w186_0 ⟨fun _ => ?_, fun c => absurd (by rw [c0]; exact (n32_le (by omega) (by omega)).mpr (by omega)) c⟩)
  refine r2 (bf := bf) (n := n) (n - 0) 0 m rfl (Nat.zero_le _) hb c3 (fun m1 t1 f1 => ?_)
  have ms1 : MS m1 bf n (Sum.inr (tok bf n 0)) := ⟨by rw [f1 _ _ (by omega)]; exact c0, by rw [f1 _ _ (by omega)]; exact c1, t1, tw⟩
  have hb1 := hb.fp f1.fe.fp
  have px1 := px.fe f1.fe
  refine r190 STX_12 (by decide) (by decide) (fun i => (l8t i).1) hb1 ms1 (fun m2 ms2 f2 => ?_)
  rw [show ([112, 97, 114, 97, 100, 101] : List Nat) = wPar from rfl, show wrdS bf wPar (Sum.inr (tok bf n 0)) = isW bf (tok bf n 0) wPar from rfl] at ms2
  have hb2 := hb1.fp f2.fp
  have px2 := px1.fe f2
  have fp2 := f1.fe.fp.tr f2.fp
  by_cases c : isW bf (tok bf n 0) wPar = true
  · rw [if_pos c] at h ms2
    refine r200s 6 0 g0 m2 (tok bf n 0) (by omega) hb2 ms2 px2 (fun e he m' a f => ?_) (fun q hq m' a b f => ?_)
    · rw [he] at h
      exact h.1 _ rfl m' a (fp2.tr f)
    · rw [hq] at h
      obtain ⟨y1, y2⟩ := setF_wf 6 0 g0 _ q (by omega) h0 tw hq
      exact r200l 700 q.1 m' _ (PS0_all y1) (hb2.fp f) a b (by omega) (h.sh (fp2.tr f))
  · rw [if_neg c] at h ms2
    exact r200se 6 0 m2 (by omega) hb2 (e := (1, (tok bf n 0).1)) ms2 (fun m' a f => h.1 _ rfl m' a (fp2.tr f))
end S99d
