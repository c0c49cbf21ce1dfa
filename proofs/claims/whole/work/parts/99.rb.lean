/-! The reference's steps while it parses. -/
abbrev RST : Type := (Nat × Nat) ⊕ TK
/-- a fault was met, or the token at hand is t -/
def MS (m : XM) (bf : BF) (n : Nat) : RST → Prop
  | Sum.inl e => 1 ≤ e.1 ∧ e.1 ≤ 4 ∧ m 283 10 = n32 e.1 ∧ m 283 11 = n32 e.2
  | Sum.inr t => m 283 10 = n32 0 ∧ m 283 11 = -(n32 1) ∧ TR m t ∧ TWF bf n t
def fltS (v : Nat) : RST → RST
  | Sum.inl e => Sum.inl e
  | Sum.inr t => Sum.inl (v, t.1)
def nxtS (bf : BF) (n : Nat) : RST → RST
  | Sum.inl e => Sum.inl e
  | Sum.inr t => Sum.inr (tok bf n t.2.2.1)
def wrdS (bf : BF) (l : List Nat) : RST → Bool
  | Sum.inl _ => false
  | Sum.inr t => isW bf t l
def numS (bf : BF) (n : Nat) (lo hi : Int32) : RST → RST
  | Sum.inl e => Sum.inl e
  | Sum.inr t => if numE lo hi t = 0 then Sum.inr (tok bf n t.2.2.1) else Sum.inl (numE lo hi t, t.1)
def letS (bf : BF) (n : Nat) : RST → RST
  | Sum.inl e => Sum.inl e
  | Sum.inr t => if t.2.1 = 1 ∧ t.2.2.1 - t.1 = 1 then Sum.inr (tok bf n t.2.2.1) else Sum.inl (1, t.1)
/-- nothing changes but token and fault -/
def FE (m m' : XM) : Prop := ∀ b k, ¬ (b = 283 ∧ 10 ≤ k ∧ k ≤ 16 ∧ k ≠ 12) → m' b k = m b k
theorem FE.rf (m : XM) : FE m m := fun _ _ _ => rfl
theorem FE.tr {m1 m2 m3 : XM} (h1 : FE m1 m2) (h2 : FE m2 m3) : FE m1 m3 := fun b k c => (h2 b k c).trans (h1 b k c)
theorem FK.fe {m m' : XM} (h : FK m m') : FE m m' := fun b k c => h b k (by omega)
theorem FE_um {m : XM} {k : Nat} {v : Int32} (h : 10 ≤ k ∧ k ≤ 16 ∧ k ≠ 12) : FE m (um m 283 k v) := fun b j c => by
  unfold um; rw [if_neg]; rintro ⟨rfl, rfl⟩; exact c ⟨rfl, h⟩
/-- nothing changes but token, fault and picture -/
def FP (m m' : XM) : Prop := ∀ b k, b ≠ 284 → ¬ (b = 283 ∧ 10 ≤ k ∧ k ≤ 16 ∧ k ≠ 12) → m' b k = m b k
theorem FP.tr {m1 m2 m3 : XM} (h1 : FP m1 m2) (h2 : FP m2 m3) : FP m1 m3 := fun b k c d => (h2 b k c d).trans (h1 b k c d)
theorem FP.rf (m : XM) : FP m m := fun _ _ _ _ => rfl
theorem FE.fp {m m' : XM} (h : FE m m') : FP m m' := fun b k _ c => h b k c
theorem FP_um (m : XM) (k : Nat) (v : Int32) : FP m (um m 284 k v) := fun b j c _ => um_a c
theorem HR.fp {m m' : XM} {bf : BF} {n : Nat} (h : HR m bf n) (f : FP m m') : HR m' bf n :=
  ⟨h.1, by rw [f _ _ (by omega) (by omega)]; exact h.2.1, fun i hi => by rw [f _ _ (by omega) (by omega)]; exact h.2.2 i hi⟩
theorem MS_eq {m m' : XM} {bf : BF} {n : Nat} {s : RST} (h : MS m bf n s) (f : ∀ k, m' 283 k = m 283 k) : MS m' bf n s := by
  cases s with
  | inl e =>
    obtain ⟨a, b, c, d⟩ := h
    exact ⟨a, b, by rw [f]; exact c, by rw [f]; exact d⟩
  | inr t =>
    obtain ⟨a, b, ⟨c1, c2, c3, c4⟩, d⟩ := h
    exact ⟨by rw [f]; exact a, by rw [f]; exact b, ⟨by rw [f]; exact c1, by rw [f]; exact c2, by rw [f]; exact c3, fun e => by rw [f]; exact c4 e⟩, d⟩
theorem MS_um {m : XM} {bf : BF} {n k : Nat} {v : Int32} {s : RST} (h : MS m bf n s) : MS (um m 284 k v) bf n s := MS_eq h (fun j => um_a (by omega))
/-- the reference's picture is g -/
def PX (m : XM) (g : PG) : Prop := ∀ k, k < 243 → m 284 k = g k
theorem PX_um {m : XM} {g : PG} {k : Nat} {v : Int32} (h : PX m g) : PX (um m 284 k v) (gup g k v) := fun j hj => by
  by_cases e : j = k
  · subst e; rw [um_eq, gup_eq]
  · rw [um_k e, gup_ne e]; exact h j hj
theorem PX.fe {m m' : XM} {g : PG} (h : PX m g) (f : FE m m') : PX m' g := fun k hk => by rw [f _ _ (by omega)]; exact h k hk
theorem kk_3 {k : Nat} (h : k ≤ 4) : (kk k = 3 ↔ k = 2) ∧ (kk k = 2 ↔ k = 1) ∧ (kk k = 4 ↔ k = 3) ∧ (kk k = 1 ↔ k = 0) ∧ kk k < 6 := by
  unfold kk; split <;> omega
section S99b
variable {D : Nat} {m : XM} {g : PG} {E : Nat → XM → Prop} {bf : BF} {n : Nat} {s : RST}
theorem e10 {e : Nat × Nat} (h : MS m bf n (Sum.inl e)) : ¬ m 283 10 = n32 0 ∧ ¬ m 283 10 ≤ n32 0 := by
  obtain ⟨a, b, c, d⟩ := h
  rw [c]
  exact ⟨fun x => absurd (n32_inj (by omega) (by omega) x) (by omega), fun x => absurd ((n32_le (by omega) (by omega)).mp x) (by omega)⟩
theorem o10 {t : TK} (h : MS m bf n (Sum.inr t)) : m 283 10 = n32 0 ∧ m 283 10 ≤ n32 0 := by
  obtain ⟨a, b, c, d⟩ := h
  rw [a]
  exact ⟨rfl, (n32_le (by omega) (by omega)).mpr (by omega)⟩
theorem r187 {v : Nat} {Q : XM → Prop} (hv : 1 ≤ v) (hv4 : v ≤ 4) (ms : MS m bf n s) (h : ∀ m', MS m' bf n (fltS v s) → FE m m' → Q m') : VU D 187 [vR 11 283, vI (n32 v)] m Q E := by
  cases s with
  | inl e => exact w187_0 ⟨fun c => absurd c (e10 ms).2, fun _ => h m ms (FE.rf m)⟩
  | inr t =>
    refine w187_0 ⟨fun _ => ?_, fun c => absurd (o10 ms).2 c⟩
    obtain ⟨a, b, c, d⟩ := ms
    refine h _ ⟨hv, hv4, by rw [um_k (by omega), um_eq], ?_⟩ ((FE_um (by omega)).tr (FE_um (by omega)))
    rw [um_eq, um_k (by omega)]; exact c.1
theorem r186 {Q : XM → Prop} (hb : HR m bf n) (ms : MS m bf n s) (h : ∀ m', MS m' bf n (nxtS bf n s) → FE m m' → Q m') : VU (D + 2) 186 [vR 11 283] m Q E := by
  cases s with
  | inl e => exact w186_0 ⟨fun c => absurd c (e10 ms).2, fun _ => h m ms (FE.rf m)⟩
  | inr t =>
    refine w186_0 ⟨fun _ => ?_, fun c => absurd (o10 ms).2 c⟩
    obtain ⟨a, b, c, d⟩ := ms
    refine r2 (bf := bf) (n := n) (n - t.2.2.1) t.2.2.1 m rfl d.2.1 hb c.2.1 (fun m' x1 x2 => h m' ⟨?_, ?_, x1, tok_TWF d.2.1⟩ x2.fe)
    · rw [x2 _ _ (by omega)]; exact a
    · rw [x2 _ _ (by omega)]; exact b
theorem r189 {a : Nat} {l : List Nat} {Q : Int32 → XM → Prop} (hst : STX a l) (l0 : 1 ≤ l.length) (l8 : l.length ≤ 8) (lb : ∀ i, l.getD i 0 < 128) (hb : HR m bf n) (ms : MS m bf n s) (h : Q (if wrdS bf l s = true then n32 1 else n32 0) m) : VI (D + 4) 189 [vR 11 283, vR 30 a] m Q E := by
  cases s with
  | inl e =>
    refine w189_0 ⟨fun c => absurd c (e10 ms).1, fun _ => ?_⟩
    exact h
  | inr t =>
    have h7 := hb.1
    refine w189_0 ⟨fun _ => ?_, fun c => absurd (o10 ms).1 c⟩
    obtain ⟨-, -, ⟨t1, t2, t3, -⟩, w1, w2, w3, w4, w5⟩ := ms
    replace h : Q (if isW bf t l = true then n32 1 else n32 0) m := h
    unfold isW at h
    obtain ⟨k1, k2, k3, k4, k5⟩ := kk_3 w3
    rw [t3]
    refine ⟨fun c => hst.1 _ _ _ _ ?_, fun c => ?_⟩
    · have ck : t.2.1 = 1 := k2.mp (n32_inj (by omega) (by omega) c)
      rw [decide_eq_true ck, Bool.true_and] at h
      rw [t1, t2, n32_sub w1]
      refine ⟨fun c2 => ?_, fun c2 => ?_⟩
      · have cl : t.2.2.1 - t.1 = l.length := n32_inj (by omega) (by omega) c2
        rw [decide_eq_true cl, Bool.true_and] at h
        have key : ∀ r i, i + r = l.length → Q (if eqW bf t.1 l r i = true then n32 1 else n32 0) m → VLI (D + 4) 189 4 [(0, vR 11 283), (1, vR 30 a), (2, vI (n32 i))] [] m Q E := by
          intro r
          induction r with
          | zero =>
            intro i hi hq
            rw [eqW, if_pos rfl] at hq
            refine w189_4 (hst.1 _ _ _ _ ⟨fun _ => hq, fun c => absurd ((n32_le (by omega) (by omega)).mpr (by omega)) c⟩)
          | succ r ih =>
            intro i hi hq
            rw [eqW_s] at hq
            have b1 := hb.2.2 (t.1 + i) (by omega)
            have b2 := lb i
            refine w189_4 (hst.1 _ _ _ _ ⟨fun c => absurd ((n32_le (by omega) (by omega)).mp c) (by omega), fun _ => ?_⟩)
            rw [t1, n32_add, ix_n32 (by omega)]
            refine ⟨xin_n (by omega) (by omega), hst.2 _ _ _ _ i (by omega) ?_⟩
            rw [BB_eq b1 b2]
            by_cases ce : bf (t.1 + i) = l.getD i 0
            · rw [if_pos ce] at hq
              rw [n32_add]
              exact ⟨fun _ => ih (i + 1) (by omega) hq, fun c => absurd ce c⟩
            · rw [if_neg ce] at hq
              exact ⟨fun c => absurd c ce, fun _ => by simpa using hq⟩
        exact key l.length 0 (by omega) h
      · have cl : ¬ t.2.2.1 - t.1 = l.length := fun e => c2 (by rw [e])
        rw [decide_eq_false cl, Bool.false_and, if_neg (by decide)] at h
        exact h
    · have ck : ¬ t.2.1 = 1 := fun e => c (by rw [k2.mpr e])
      rw [decide_eq_false ck, Bool.false_and, Bool.false_and, if_neg (by decide)] at h
      exact h
theorem r190 {a : Nat} {l : List Nat} {Q : XM → Prop} (hst : STX a l) (l0 : 1 ≤ l.length) (l8 : l.length ≤ 8) (lb : ∀ i, l.getD i 0 < 128) (hb : HR m bf n) (ms : MS m bf n s) (h : ∀ m', MS m' bf n (nxtS bf n (if wrdS bf l s = true then s else fltS 1 s)) → FE m m' → Q m') : VU (D + 5) 190 [vR 11 283, vR 30 a] m Q E := by
  refine w190_0 (r189 hst l0 l8 lb hb ms ?_)
  by_cases c : wrdS bf l s = true
  · rw [if_pos c] at h ⊢
    exact ⟨fun c => absurd c n01, fun _ => r186 hb ms h⟩
  · rw [if_neg c] at h ⊢
    exact ⟨fun _ => r187 (by omega) (by omega) ms (fun m1 ms1 f1 => r186 (hb.fp f1.fp) ms1 (fun m2 ms2 f2 => h m2 ms2 (f1.tr f2))), fun c => absurd rfl c⟩
theorem r191 {lo hi : Int32} {Q : Int32 → XM → Prop} (hb : HR m bf n) (ms : MS m bf n s) (h : ∀ x m', MS m' bf n (numS bf n lo hi s) → (∀ t, s = Sum.inr t → numE lo hi t = 0 → x = t.2.2.2) → FE m m' → Q x m') : VI (D + 3) 191 [vR 11 283, vI lo, vI hi] m Q E := by
  cases s with
  | inl e =>
    have no : ∀ (x : Int32) (t : TK), (Sum.inl e : RST) = Sum.inr t → numE lo hi t = 0 → x = t.2.2.2 := fun x t c => by cases c
    refine w191_0 ⟨fun c => absurd c (e10 ms).1, fun _ => r187 (by omega) (by omega) ms (fun m1 ms1 f1 => r186 (hb.fp f1.fp) ms1 (fun m2 ms2 f2 => ⟨fun _ => h _ m2 ms2 (no _) (f1.tr f2), fun _ => h _ m2 ms2 (no _) (f1.tr f2)⟩))⟩
  | inr t =>
    have ms0 := ms
    obtain ⟨-, -, ⟨t1, t2, t3, t4⟩, w1, w2, w3, w4, w5⟩ := ms
    obtain ⟨k1, k2, k3, k4, k5⟩ := kk_3 w3
    have bad : ∀ v, 1 ≤ v → v ≤ 4 → numE lo hi t = v → VU (D + 2) 187 [vR 11 283, vI (n32 v)] m (fun m1 => VU (D + 2) 186 [vR 11 283] m1 (fun m2 => (((m2 283 10) ≤ (n32 0) → Q (m1 283 16) m2) ∧ (¬ (m2 283 10) ≤ (n32 0) → Q lo m2))) E) E := by
      intro v v1 v4 ev
      have e : numS bf n lo hi (Sum.inr t) = Sum.inl (v, t.1) := by
        unfold numS; dsimp only
        rw [ev, if_neg (by omega)]
      rw [e] at h
      have no : ∀ (x : Int32) (t' : TK), (Sum.inr t : RST) = Sum.inr t' → numE lo hi t' = 0 → x = t'.2.2.2 := fun x t' c c2 => by
        cases c; omega
      exact r187 v1 v4 ms0 (fun m1 ms1 f1 => r186 (hb.fp f1.fp) ms1 (fun m2 ms2 f2 => ⟨fun _ => h _ m2 ms2 (no _) (f1.tr f2), fun _ => h _ m2 ms2 (no _) (f1.tr f2)⟩))
    refine w191_0 ⟨fun _ => ⟨fun c => ?_, fun c => ?_⟩, fun c => absurd (o10 ms0).1 c⟩
    · rw [t3] at c
      have ck : t.2.1 = 2 := k1.mp (n32_inj (by omega) (by omega) c)
      have e6 := t4 ck
      have ne : numE lo hi t = (if t.2.2.2 < lo then 2 else if t.2.2.2 ≤ hi then 0 else 2) := by unfold numE; rw [if_pos ck]
      rw [e6]
      refine ⟨fun c1 => ?_, fun c1 => ⟨fun c2 => ?_, fun c2 => ?_⟩⟩
      · rw [if_pos c1] at ne
        exact bad 2 (by omega) (by omega) ne
      · rw [if_neg c1, if_neg (Int32.not_le.mpr c2)] at ne
        exact bad 2 (by omega) (by omega) ne
      · rw [if_neg c1, if_pos (Int32.not_lt.mp c2)] at ne
        have e : numS bf n lo hi (Sum.inr t) = nxtS bf n (Sum.inr t) := by
          unfold numS nxtS; dsimp only
          rw [ne, if_pos rfl]
        rw [e] at h
        exact r186 hb ms0 (fun m2 ms2 f2 => ⟨fun _ => h _ m2 ms2 (fun t' c _ => by cases c; rfl) f2, fun c => absurd (o10 (t := tok bf n t.2.2.1) ms2).2 c⟩)
    · rw [t3] at c
      have ck : ¬ t.2.1 = 2 := fun e => c (by rw [k1.mpr e])
      exact bad 1 (by omega) (by omega) (by unfold numE; rw [if_neg ck])
theorem r194 {j c M : Nat} {t : TK} {Q : Int32 → XM → Prop} (hj : j < 243) (hM : M < 2147483648) (hc : c ≤ M) (e : m 284 j = n32 c) (hb : HR m bf n) (ms : MS m bf n (Sum.inr t)) (h1 : M ≤ c → ∀ m', MS m' bf n (Sum.inl (4, t.1)) → FE m m' → Q (n32 0) m') (h2 : ¬ M ≤ c → ∀ m', MS m' bf n (Sum.inr (tok bf n t.2.2.1)) → FE m m' → Q (n32 1) m') : VI (D + 3) 194 [vR 11 283, vI (n32 j), vI (n32 M)] m Q E := by
  refine w194_0 ⟨xin_n hj (by omega), ?_⟩
  rw [ix_n32 (by omega), e]
  refine ⟨fun c' => ?_, fun c' => ?_⟩
  · have := n32_inj (by omega) (by omega) c'
    exact r187 (by omega) (by omega) ms (fun m1 ms1 f1 => r186 (hb.fp f1.fp) ms1 (fun m2 ms2 f2 => ⟨fun c => absurd c (e10 (e := (4, t.1)) ms2).1, fun _ => h1 (by omega) m2 ms2 (f1.tr f2)⟩))
  · have : ¬ M ≤ c := fun x => c' (by rw [show c = M by omega])
    exact r186 hb ms (fun m2 ms2 f2 => ⟨fun _ => h2 this m2 ms2 f2, fun c => absurd (o10 (t := tok bf n t.2.2.1) ms2).1 c⟩)
theorem r195 {Q : Int32 → XM → Prop} (hb : HR m bf n) (ms : MS m bf n s) (h : ∀ x m', MS m' bf n (letS bf n s) → (∀ t, s = Sum.inr t → t.2.1 = 1 ∧ t.2.2.1 - t.1 = 1 → x = n32 (bf t.1 - 96)) → FE m m' → Q x m') : VI (D + 3) 195 [vR 11 283] m Q E := by
  have h7 := hb.1
  have bad : ∀ e, letS bf n s = Sum.inl e → fltS 1 s = Sum.inl e → VU (D + 2) 187 [vR 11 283, vI (n32 1)] m (fun m4 => (((m4 283 10) ≤ (n32 0) → (xin (m4 283 14) 700 = true ∧ VU (D + 2) 186 [vR 11 283] m4 (fun m5 => Q (((m4 289 (ix (m4 283 14))) - (n32 97)) + (n32 1)) m5) E)) ∧ (¬ (m4 283 10) ≤ (n32 0) → VU (D + 2) 186 [vR 11 283] m4 (fun m6 => Q (n32 1) m6) E))) E := by
    intro e he hf
    rw [he] at h
    refine r187 (by omega) (by omega) ms (fun m1 ms1 f1 => ?_)
    rw [hf] at ms1
    refine ⟨fun c => absurd c (e10 ms1).2, fun _ => r186 (hb.fp f1.fp) ms1 (fun m2 ms2 f2 => h _ m2 ms2 (fun t c c2 => ?_) (f1.tr f2))⟩
    subst c
    unfold letS at he
    dsimp only at he
    rw [if_pos c2] at he
    cases he
  cases s with
  | inl e => exact w195_0 ⟨fun c => absurd c (e10 ms).1, fun _ => bad e rfl rfl⟩
  | inr t =>
    have ms0 := ms
    obtain ⟨-, -, ⟨t1, t2, t3, t4⟩, w1, w2, w3, w4, w5⟩ := ms
    obtain ⟨k1, k2, k3, k4, k5⟩ := kk_3 w3
    refine w195_0 ⟨fun _ => ⟨fun c => ?_, fun c => ?_⟩, fun c => absurd (o10 ms0).1 c⟩
    · rw [t3] at c
      have ck : t.2.1 = 1 := k2.mp (n32_inj (by omega) (by omega) c)
      rw [t1, t2, n32_sub w1]
      refine ⟨fun c2 => ⟨fun _ => ⟨xin_n (by omega) (by omega), ?_⟩, fun c => absurd (o10 ms0).2 c⟩, fun c2 => ?_⟩
      · have c2 := n32_inj (by omega) (by omega) c2
        have e : letS bf n (Sum.inr t) = nxtS bf n (Sum.inr t) := by
          unfold letS nxtS; dsimp only
          rw [if_pos ⟨ck, c2⟩]
        rw [e] at h
        have hl := (isL_iff _).mp ((w5 ck).2 t.1 (Nat.le_refl _) (by omega))
        rw [ix_n32 (by omega), BB_n (hb.2.2 t.1 (by omega)) (by omega), n32_sub (by omega), n32_add]
        refine r186 hb ms0 (fun m2 ms2 f2 => h _ m2 ms2 (fun t' c _ => ?_) f2)
        cases c
        congr 1
        omega
      · have c2 : ¬ t.2.2.1 - t.1 = 1 := fun e => c2 (by rw [e])
        exact bad (1, t.1) (by unfold letS; dsimp only; rw [if_neg (fun e => c2 e.2)]) rfl
    · rw [t3] at c
      have ck : ¬ t.2.1 = 1 := fun e => c (by rw [k2.mpr e])
      exact bad (1, t.1) (by unfold letS; dsimp only; rw [if_neg (fun e => ck e.1)]) rfl
end S99b
