/-! Tokens: the component reads them. -/
abbrev BF : Type := Nat → Nat
/-- a token: its first place, its kind, the place behind it, its number -/
abbrev TK : Type := Nat × Nat × Nat × Int32
def isL (x : Nat) : Bool := decide (97 ≤ x) && decide (x ≤ 122)
def isD (x : Nat) : Bool := decide (48 ≤ x) && decide (x ≤ 57)
def nmI (bf : BF) (s k : Nat) : Int32 := itr k (fun j v => v * n32 10 + n32 (bf (s + j)) - n32 48) (n32 0)
theorem nmI_succ (bf : BF) (s k : Nat) : nmI bf s (k + 1) = nmI bf s k * n32 10 + n32 (bf (s + k)) - n32 48 := rfl
def skp (bf : BF) (n p : Nat) : Nat := fps (fun i => decide (¬ bf i = 32)) (n - p) p
def wnd (bf : BF) (n p : Nat) : Nat := fps (fun i => !isL (bf i)) (n - p) p
def dnd (bf : BF) (n p : Nat) : Nat := fps (fun i => !isD (bf i)) (n - p) p
theorem fps_st {P : Nat → Bool} {n p : Nat} (h : p < n) : fps P (n - p) p = if P p = true then p else fps P (n - (p + 1)) (p + 1) := by
  rw [show n - p = (n - (p + 1)) + 1 by omega, fps_succ]
theorem fps_en {P : Nat → Bool} {n p : Nat} (h : n ≤ p) : fps P (n - p) p = p := by
  rw [show n - p = 0 by omega, fps]
theorem fps_rng (P : Nat → Bool) : ∀ r p, p ≤ fps P r p ∧ fps P r p ≤ p + r := by
  intro r
  induction r with
  | zero => intro p; rw [fps]; omega
  | succ r ih =>
    intro p
    rw [fps_succ]
    have := ih (p + 1)
    split <;> omega
theorem fps_in (P : Nat → Bool) : ∀ r p i, p ≤ i → i < fps P r p → P i = false := by
  intro r
  induction r with
  | zero => intro p i h1 h2; rw [fps] at h2; omega
  | succ r ih =>
    intro p i h1 h2
    rw [fps_succ] at h2
    split at h2
    · omega
    · rename_i c
      by_cases e : i = p
      · subst e
        cases h : P i with
        | true => exact absurd h c
        | false => rfl
      · exact ih (p + 1) i (by omega) h2
def tkS (bf : BF) (n s : Nat) : TK :=
  if n ≤ s then (s, 0, s, n32 0)
  else if isL (bf s) = true then (s, (if wnd bf n s - s ≤ 8 then 1 else 4), wnd bf n s, n32 0)
  else if isD (bf s) = true then (s, (if dnd bf n s - s ≤ 4 then 2 else 4), dnd bf n s, nmI bf s (dnd bf n s - s))
  else (s, (if bf s = 59 then 3 else 4), s + 1, n32 0)
def tok (bf : BF) (n p : Nat) : TK := tkS bf n (skp bf n p)
theorem tkS_wf {bf : BF} {n s : Nat} (hs : s ≤ n) : (tkS bf n s).1 = s ∧ s ≤ (tkS bf n s).2.2.1 ∧ (tkS bf n s).2.2.1 ≤ n ∧ (tkS bf n s).2.1 ≤ 4 ∧ (¬ (tkS bf n s).2.1 = 0 → s < n ∧ s < (tkS bf n s).2.2.1) ∧ ((tkS bf n s).2.1 = 1 → (tkS bf n s).2.2.1 - s ≤ 8 ∧ ∀ i, s ≤ i → i < (tkS bf n s).2.2.1 → isL (bf i) = true) := by
  unfold tkS
  have w1 := fps_rng (fun i => !isL (bf i)) (n - s) s
  have d1 := fps_rng (fun i => !isD (bf i)) (n - s) s
  have ew : wnd bf n s = fps (fun i => !isL (bf i)) (n - s) s := rfl
  have ed : dnd bf n s = fps (fun i => !isD (bf i)) (n - s) s := rfl
  by_cases c1 : n ≤ s
  · rw [if_pos c1]
    exact ⟨rfl, Nat.le_refl _, hs, Nat.zero_le 4, fun h => absurd rfl h, fun h => by cases h⟩
  · rw [if_neg c1]
    by_cases c2 : isL (bf s) = true
    · rw [if_pos c2]
      have wl : s < wnd bf n s := by
        rw [ew, fps_st (by omega), c2]
        simp only [Bool.not_true, Bool.false_eq_true, if_false]
        have := fps_rng (fun i => !isL (bf i)) (n - (s + 1)) (s + 1)
        omega
      refine ⟨rfl, by dsimp only; omega, by dsimp only; omega, by dsimp only; split <;> omega, fun _ => ⟨by omega, wl⟩, fun h => ?_⟩
      dsimp only at h ⊢
      have c8 : wnd bf n s - s ≤ 8 := by
        split at h
        · assumption
        · omega
      refine ⟨c8, fun i h1 h2 => ?_⟩
      have := fps_in (fun i => !isL (bf i)) (n - s) s i h1 h2
      cases h : isL (bf i) with
      | true => rfl
      | false => rw [h] at this; cases this
    · rw [if_neg c2]
      by_cases c3 : isD (bf s) = true
      · rw [if_pos c3]
        have dl : s < dnd bf n s := by
          rw [ed, fps_st (by omega), c3]
          simp only [Bool.not_true, Bool.false_eq_true, if_false]
          have := fps_rng (fun i => !isD (bf i)) (n - (s + 1)) (s + 1)
          omega
        refine ⟨rfl, by dsimp only; omega, by dsimp only; omega, by dsimp only; split <;> omega, fun _ => ⟨by omega, dl⟩, fun h => ?_⟩
        dsimp only at h
        split at h <;> omega
      · rw [if_neg c3]
        refine ⟨rfl, by dsimp only; omega, by dsimp only; omega, by dsimp only; split <;> omega, fun _ => ⟨by omega, by dsimp only; omega⟩, fun h => ?_⟩
        dsimp only at h
        split at h <;> omega
theorem skp_rng {bf : BF} {n p : Nat} (h : p ≤ n) : p ≤ skp bf n p ∧ skp bf n p ≤ n := by
  have := fps_rng (fun i => decide (¬ bf i = 32)) (n - p) p
  unfold skp; omega
theorem tok_wf {bf : BF} {n p : Nat} (hp : p ≤ n) : p ≤ (tok bf n p).1 ∧ (tok bf n p).1 ≤ (tok bf n p).2.2.1 ∧ (tok bf n p).2.2.1 ≤ n ∧ (tok bf n p).2.1 ≤ 4 ∧ (¬ (tok bf n p).2.1 = 0 → (tok bf n p).1 < n ∧ (tok bf n p).1 < (tok bf n p).2.2.1) ∧ ((tok bf n p).2.1 = 1 → (tok bf n p).2.2.1 - (tok bf n p).1 ≤ 8 ∧ ∀ i, (tok bf n p).1 ≤ i → i < (tok bf n p).2.2.1 → isL (bf i) = true) := by
  obtain ⟨s1, s2⟩ := skp_rng (bf := bf) hp
  obtain ⟨h1, h2, h3, h4, h5, h6⟩ := tkS_wf (bf := bf) s2
  unfold tok
  rw [h1]
  exact ⟨s1, h2, h3, h4, h5, h6⟩
/-- the component's bytes -/
def HB (m : XM) (bf : BF) (n : Nat) : Prop := n ≤ 700 ∧ m 2 2 = n32 n ∧ ∀ i, i < n → bf i < 256 ∧ m 3 i = n32 (bf i)
/-- nothing changes but the token -/
def FT (m m' : XM) : Prop := ∀ b k, ¬ (b = 2 ∧ 3 ≤ k ∧ k ≤ 6) → m' b k = m b k
theorem FT.rf (m : XM) : FT m m := fun _ _ _ => rfl
theorem FT.tr {m1 m2 m3 : XM} (h1 : FT m1 m2) (h2 : FT m2 m3) : FT m1 m3 := fun b k c => (h2 b k c).trans (h1 b k c)
theorem FT_um {m : XM} {k : Nat} {v : Int32} (h : 3 ≤ k ∧ k ≤ 6) : FT m (um m 2 k v) := fun b j c => by
  unfold um; rw [if_neg]; rintro ⟨rfl, rfl⟩; exact c ⟨rfl, h⟩
theorem HB.ft {m m' : XM} {bf : BF} {n : Nat} (h : HB m bf n) (f : FT m m') : HB m' bf n :=
  ⟨h.1, by rw [f _ _ (by omega)]; exact h.2.1, fun i hi => ⟨(h.2.2 i hi).1, by rw [f _ _ (by omega)]; exact (h.2.2 i hi).2⟩⟩
def TC (m : XM) (t : TK) : Prop := m 2 3 = n32 t.1 ∧ m 2 4 = n32 t.2.2.1 ∧ m 2 5 = n32 t.2.1 ∧ (t.2.1 = 2 → m 2 6 = t.2.2.2)
theorem isL_iff (x : Nat) : isL x = true ↔ 97 ≤ x ∧ x ≤ 122 := by unfold isL; rw [Bool.and_eq_true, decide_eq_true_eq, decide_eq_true_eq]
theorem isD_iff (x : Nat) : isD x = true ↔ 48 ≤ x ∧ x ≤ 57 := by unfold isD; rw [Bool.and_eq_true, decide_eq_true_eq, decide_eq_true_eq]
section S95
variable {D : Nat} {m : XM} {g : PG} {E : Nat → XM → Prop}
theorem VL_V1 {y k a : Nat} {Q : Value → XM → Prop} (h : V D y [vR k a] m Q E) : VL D y 0 [(0, vR k a)] [] m Q E := fun hl hs => h (fun v hv => by
  rcases List.mem_cons.mp hv with rfl | hv
  · exact hl _ List.mem_cons_self
  · cases hv) hl hs
theorem f85 {s q : Nat} {Q : XM → Prop} (e3 : m 2 3 = n32 s) (e4 : m 2 4 = n32 q) (hs : s ≤ q) (hq : q ≤ 700) (h : ∀ m', m' 2 3 = n32 s → m' 2 4 = n32 q → m' 2 5 = n32 (if q - s ≤ 8 then 1 else 4) → FT m m' → Q m') : ((n32 8) < ((m 2 4) - (m 2 3)) → Q (um m 2 5 (n32 4))) ∧ (¬ (n32 8) < ((m 2 4) - (m 2 3)) → Q (um m 2 5 (n32 1))) := by
  rw [e3, e4, n32_sub hs]
  refine ⟨fun c => ?_, fun c => ?_⟩
  · have := (n32_lt (by omega) (by omega)).mp c
    exact h _ (by rw [um_k (by omega)]; exact e3) (by rw [um_k (by omega)]; exact e4) (by rw [um_eq, if_neg (by omega)]) (FT_um (by omega))
  · have : ¬ 8 < q - s := fun e => c ((n32_lt (by omega) (by omega)).mpr e)
    exact h _ (by rw [um_k (by omega)]; exact e3) (by rw [um_k (by omega)]; exact e4) (by rw [um_eq, if_pos (by omega)]) (FT_um (by omega))
theorem s85 {bf : BF} {n s : Nat} {Q : XM → Prop} : ∀ (r q : Nat) (m : XM), n - q = r → q ≤ n → s ≤ q → HB m bf n → m 2 3 = n32 s → m 2 4 = n32 q → (∀ m', m' 2 3 = n32 s → m' 2 4 = n32 (wnd bf n q) → m' 2 5 = n32 (if wnd bf n q - s ≤ 8 then 1 else 4) → FT m m' → Q m') → VU D 85 [vR 9 2] m Q E := by
  intro r
  induction r with
  | zero =>
    intro q m hr hq hs hb e3 e4 h
    have e : wnd bf n q = q := fps_en (by omega)
    rw [e] at h
    have h7 := hb.1
    refine w85_0 ⟨fun _ => f85 e3 e4 hs (by omega) h, fun c => ?_⟩
    rw [hb.2.1, e4] at c
    exact absurd ((n32_le (by omega) (by omega)).mpr (by omega)) c
  | succ r ih =>
    intro q m hr hq hs hb e3 e4 h
    have h7 := hb.1
    obtain ⟨b1, b2⟩ := hb.2.2 q (by omega)
    have e2 := hb.2.1
    have b2' : m (2 + 1) q = n32 (bf q) := b2
    have ew : wnd bf n q = if (!isL (bf q)) = true then q else wnd bf n (q + 1) := fps_st (by omega)
    refine w85_0 ⟨fun c => ?_, fun _ => ?_⟩
    · rw [e2, e4] at c
      exact absurd ((n32_le (by omega) (by omega)).mp c) (by omega)
    · have no : ¬ isL (bf q) = true → ∀ m', m' 2 3 = n32 s → m' 2 4 = n32 q → m' 2 5 = n32 (if q - s ≤ 8 then 1 else 4) → FT m m' → Q m' := by
        intro hn
        have : wnd bf n q = q := by
          rw [ew, if_pos]
          cases hx : isL (bf q) with
          | true => exact absurd hx hn
          | false => rfl
        rw [this] at h
        exact h
      have e4x : ix (m 2 4) = q := by rw [e4, ix_n32 (by omega)]
      rw [e4x, b2']
      refine ⟨by rw [e4]; exact xin_n (by omega) (by omega), fun c => f85 e3 e4 hs (by omega) (no (fun hl => ?_)), fun c => ⟨fun c2 => f85 e3 e4 hs (by omega) (no (fun hl => ?_)), fun c2 => VL_V1 ?_⟩⟩
      · have := (n32_lt (by omega) (by omega)).mp c
        rw [isL_iff] at hl; omega
      · have := (n32_lt (by omega) (by omega)).mp c2
        rw [isL_iff] at hl; omega
      · have hl : isL (bf q) = true := by
          rw [isL_iff]
          have a1 : ¬ bf q < 97 := fun e => c ((n32_lt (by omega) (by omega)).mpr e)
          have a2 : ¬ 122 < bf q := fun e => c2 ((n32_lt (by omega) (by omega)).mpr e)
          omega
        rw [ew, hl] at h
        simp only [Bool.not_true, Bool.false_eq_true, if_false] at h
        rw [e4, n32_add]
        have f := FT_um (m := m) (k := 4) (v := n32 (q + 1)) (by omega)
        exact ih (q + 1) _ (by omega) (by omega) (by omega) (hb.ft f) (by rw [um_k (by omega)]; exact e3) (um_eq _ _ _ _) (fun m' x1 x2 x3 x4 => h m' x1 x2 x3 (f.tr x4))
theorem f86 {s q : Nat} {v : Int32} {Q : XM → Prop} (e3 : m 2 3 = n32 s) (e4 : m 2 4 = n32 q) (e6 : m 2 6 = v) (hs : s ≤ q) (hq : q ≤ 700) (h : ∀ m', m' 2 3 = n32 s → m' 2 4 = n32 q → m' 2 5 = n32 (if q - s ≤ 4 then 2 else 4) → m' 2 6 = v → FT m m' → Q m') : ((n32 4) < ((m 2 4) - (m 2 3)) → Q (um m 2 5 (n32 4))) ∧ (¬ (n32 4) < ((m 2 4) - (m 2 3)) → Q (um m 2 5 (n32 2))) := by
  rw [e3, e4, n32_sub hs]
  refine ⟨fun c => ?_, fun c => ?_⟩
  · have := (n32_lt (by omega) (by omega)).mp c
    exact h _ (by rw [um_k (by omega)]; exact e3) (by rw [um_k (by omega)]; exact e4) (by rw [um_eq, if_neg (by omega)]) (by rw [um_k (by omega)]; exact e6) (FT_um (by omega))
  · have : ¬ 4 < q - s := fun e => c ((n32_lt (by omega) (by omega)).mpr e)
    exact h _ (by rw [um_k (by omega)]; exact e3) (by rw [um_k (by omega)]; exact e4) (by rw [um_eq, if_pos (by omega)]) (by rw [um_k (by omega)]; exact e6) (FT_um (by omega))
theorem t86 {bf : BF} {n s : Nat} {Q : XM → Prop} : ∀ (r q : Nat) (m : XM), n - q = r → q ≤ n → s ≤ q → HB m bf n → m 2 3 = n32 s → m 2 4 = n32 q → m 2 6 = nmI bf s (q - s) → (∀ m', m' 2 3 = n32 s → m' 2 4 = n32 (dnd bf n q) → m' 2 5 = n32 (if dnd bf n q - s ≤ 4 then 2 else 4) → m' 2 6 = nmI bf s (dnd bf n q - s) → FT m m' → Q m') → VLU D 86 1 [(0, vR 9 2)] [] m Q E := by
  intro r
  induction r with
  | zero =>
    intro q m hr hq hs hb e3 e4 e6 h
    have e : dnd bf n q = q := fps_en (by omega)
    rw [e] at h
    have h7 := hb.1
    refine w86_1 ⟨fun _ => f86 e3 e4 e6 hs (by omega) h, fun c => ?_⟩
    rw [hb.2.1, e4] at c
    exact absurd ((n32_le (by omega) (by omega)).mpr (by omega)) c
  | succ r ih =>
    intro q m hr hq hs hb e3 e4 e6 h
    have h7 := hb.1
    obtain ⟨b1, b2⟩ := hb.2.2 q (by omega)
    have e2 := hb.2.1
    have b2' : m (2 + 1) q = n32 (bf q) := b2
    have ew : dnd bf n q = if (!isD (bf q)) = true then q else dnd bf n (q + 1) := fps_st (by omega)
    refine w86_1 ⟨fun c => ?_, fun _ => ?_⟩
    · rw [e2, e4] at c
      exact absurd ((n32_le (by omega) (by omega)).mp c) (by omega)
    · have no : ¬ isD (bf q) = true → ∀ m', m' 2 3 = n32 s → m' 2 4 = n32 q → m' 2 5 = n32 (if q - s ≤ 4 then 2 else 4) → m' 2 6 = nmI bf s (q - s) → FT m m' → Q m' := by
        intro hn
        have : dnd bf n q = q := by
          rw [ew, if_pos]
          cases hx : isD (bf q) with
          | true => exact absurd hx hn
          | false => rfl
        rw [this] at h
        exact h
      have e4x : ix (m 2 4) = q := by rw [e4, ix_n32 (by omega)]
      rw [e4x, b2']
      refine ⟨by rw [e4]; exact xin_n (by omega) (by omega), fun c => f86 e3 e4 e6 hs (by omega) (no (fun hl => ?_)), fun c => ⟨fun c2 => f86 e3 e4 e6 hs (by omega) (no (fun hl => ?_)), fun c2 => ?_⟩⟩
      · have := (n32_lt (by omega) (by omega)).mp c
        rw [isD_iff] at hl; omega
      · have := (n32_lt (by omega) (by omega)).mp c2
        rw [isD_iff] at hl; omega
      · have hl : isD (bf q) = true := by
          rw [isD_iff]
          have a1 : ¬ bf q < 48 := fun e => c ((n32_lt (by omega) (by omega)).mpr e)
          have a2 : ¬ 57 < bf q := fun e => c2 ((n32_lt (by omega) (by omega)).mpr e)
          omega
        rw [ew, hl] at h
        simp only [Bool.not_true, Bool.false_eq_true, if_false] at h
        rintro μ rfl
        have en : m 2 6 * n32 10 + n32 (bf q) - n32 48 = nmI bf s (q + 1 - s) := by
          rw [e6, show q + 1 - s = (q - s) + 1 by omega, nmI_succ, show s + (q - s) = q by omega]
        rw [en, um_k (show 4 ≠ 6 by omega), e4, n32_add]
        have f : FT m (um (um m 2 6 (nmI bf s (q + 1 - s))) 2 4 (n32 (q + 1))) := (FT_um (by omega)).tr (FT_um (by omega))
        refine ih (q + 1) _ (by omega) (by omega) (by omega) (hb.ft f) ?_ (um_eq _ _ _ _) ?_ (fun m' x1 x2 x3 x5 x4 => h m' x1 x2 x3 x5 (f.tr x4))
        · rw [um_k (by omega), um_k (by omega)]; exact e3
        · rw [um_k (by omega), um_eq]
theorem s86 {bf : BF} {n s : Nat} {Q : XM → Prop} (hs : s ≤ n) (hb : HB m bf n) (e3 : m 2 3 = n32 s) (e4 : m 2 4 = n32 s) (h : ∀ m', m' 2 3 = n32 s → m' 2 4 = n32 (dnd bf n s) → m' 2 5 = n32 (if dnd bf n s - s ≤ 4 then 2 else 4) → m' 2 6 = nmI bf s (dnd bf n s - s) → FT m m' → Q m') : VU D 86 [vR 9 2] m Q E := by
  have f : FT m (um m 2 6 (n32 0)) := FT_um (by omega)
  refine w86_0 (t86 (bf := bf) (n := n) (s := s) (n - s) s _ rfl hs (Nat.le_refl _) (hb.ft f) ?_ ?_ ?_ (fun m' x1 x2 x3 x5 x4 => h m' x1 x2 x3 x5 (f.tr x4)))
  · rw [um_k (by omega)]; exact e3
  · rw [um_k (by omega)]; exact e4
  · rw [um_eq, Nat.sub_self]; rfl
theorem g84 {bf : BF} {n s : Nat} {m1 : XM} {Q : XM → Prop} (hs : s ≤ n) (hb : HB m1 bf n) (e3 : m1 2 3 = n32 s) (e4 : m1 2 4 = n32 s) (h : ∀ m', TC m' (tkS bf n s) → FT m1 m' → Q m') : (((m1 2 3) < (m1 2 2) → (xin (m1 2 3) 700 = true ∧ (((m1 (2 + 1) (ix (m1 2 3))) < (n32 97) → (((m1 (2 + 1) (ix (m1 2 3))) < (n32 48) → (((m1 (2 + 1) (ix (m1 2 3))) = (n32 59) → Q (um (um m1 2 5 (n32 3)) 2 4 (((um m1 2 5 (n32 3)) 2 4) + (n32 1)))) ∧ (¬ (m1 (2 + 1) (ix (m1 2 3))) = (n32 59) → Q (um (um m1 2 5 (n32 4)) 2 4 (((um m1 2 5 (n32 4)) 2 4) + (n32 1)))))) ∧ (¬ (m1 (2 + 1) (ix (m1 2 3))) < (n32 48) → (((n32 57) < (m1 (2 + 1) (ix (m1 2 3))) → (((m1 (2 + 1) (ix (m1 2 3))) = (n32 59) → Q (um (um m1 2 5 (n32 3)) 2 4 (((um m1 2 5 (n32 3)) 2 4) + (n32 1)))) ∧ (¬ (m1 (2 + 1) (ix (m1 2 3))) = (n32 59) → Q (um (um m1 2 5 (n32 4)) 2 4 (((um m1 2 5 (n32 4)) 2 4) + (n32 1)))))) ∧ (¬ (n32 57) < (m1 (2 + 1) (ix (m1 2 3))) → VU D 86 [vR 9 2] m1 (fun m3 => Q m3) E))))) ∧ (¬ (m1 (2 + 1) (ix (m1 2 3))) < (n32 97) → (((n32 122) < (m1 (2 + 1) (ix (m1 2 3))) → (((m1 (2 + 1) (ix (m1 2 3))) < (n32 48) → (((m1 (2 + 1) (ix (m1 2 3))) = (n32 59) → Q (um (um m1 2 5 (n32 3)) 2 4 (((um m1 2 5 (n32 3)) 2 4) + (n32 1)))) ∧ (¬ (m1 (2 + 1) (ix (m1 2 3))) = (n32 59) → Q (um (um m1 2 5 (n32 4)) 2 4 (((um m1 2 5 (n32 4)) 2 4) + (n32 1)))))) ∧ (¬ (m1 (2 + 1) (ix (m1 2 3))) < (n32 48) → (((n32 57) < (m1 (2 + 1) (ix (m1 2 3))) → (((m1 (2 + 1) (ix (m1 2 3))) = (n32 59) → Q (um (um m1 2 5 (n32 3)) 2 4 (((um m1 2 5 (n32 3)) 2 4) + (n32 1)))) ∧ (¬ (m1 (2 + 1) (ix (m1 2 3))) = (n32 59) → Q (um (um m1 2 5 (n32 4)) 2 4 (((um m1 2 5 (n32 4)) 2 4) + (n32 1)))))) ∧ (¬ (n32 57) < (m1 (2 + 1) (ix (m1 2 3))) → VU D 86 [vR 9 2] m1 (fun m8 => Q m8) E))))) ∧ (¬ (n32 122) < (m1 (2 + 1) (ix (m1 2 3))) → VU D 85 [vR 9 2] m1 (fun m11 => Q m11) E)))))) ∧ (¬ (m1 2 3) < (m1 2 2) → Q (um m1 2 5 (n32 0)))) := by
  have h7 := hb.1
  have e2 := hb.2.1
  unfold tkS at h
  by_cases c1 : n ≤ s
  · rw [if_pos c1] at h
    refine ⟨fun c => ?_, fun _ => ?_⟩
    · rw [e3, e2] at c
      exact absurd ((n32_lt (by omega) (by omega)).mp c) (by omega)
    · refine h _ ⟨?_, ?_, um_eq _ _ _ _, fun e => by cases e⟩ (FT_um (by omega))
      · rw [um_k (by omega)]; exact e3
      · rw [um_k (by omega)]; exact e4
  · rw [if_neg c1] at h
    obtain ⟨b1, b2⟩ := hb.2.2 s (by omega)
    have b2' : m1 (2 + 1) s = n32 (bf s) := b2
    have e3x : ix (m1 2 3) = s := by rw [e3, ix_n32 (by omega)]
    rw [e3x, b2']
    -- a byte that starts neither word nor number
    have oth : ¬ isL (bf s) = true → ¬ isD (bf s) = true → ((n32 (bf s) = (n32 59) → Q (um (um m1 2 5 (n32 3)) 2 4 (((um m1 2 5 (n32 3)) 2 4) + (n32 1)))) ∧ (¬ n32 (bf s) = (n32 59) → Q (um (um m1 2 5 (n32 4)) 2 4 (((um m1 2 5 (n32 4)) 2 4) + (n32 1))))) := by
      intro x1 x2
      rw [if_neg x1, if_neg x2] at h
      refine ⟨fun c => ?_, fun c => ?_⟩
      · have c' := n32_inj (by omega) (by omega) c
        rw [if_pos c'] at h
        rw [um_k (show 4 ≠ 5 by omega), e4, n32_add]
        refine h _ ⟨?_, um_eq _ _ _ _, ?_, fun e => by cases e⟩ ((FT_um (by omega)).tr (FT_um (by omega)))
        · rw [um_k (by omega), um_k (by omega)]; exact e3
        · rw [um_k (by omega), um_eq]
      · have c' : ¬ bf s = 59 := fun e => c (by rw [e])
        rw [if_neg c'] at h
        rw [um_k (show 4 ≠ 5 by omega), e4, n32_add]
        refine h _ ⟨?_, um_eq _ _ _ _, ?_, fun e => by cases e⟩ ((FT_um (by omega)).tr (FT_um (by omega)))
        · rw [um_k (by omega), um_k (by omega)]; exact e3
        · rw [um_k (by omega), um_eq]
    have dig : ¬ isL (bf s) = true → isD (bf s) = true → VU D 86 [vR 9 2] m1 (fun m3 => Q m3) E := by
      intro x1 x2
      rw [if_neg x1, if_pos x2] at h
      exact s86 hs hb e3 e4 (fun m' y1 y2 y3 y4 y5 => h m' ⟨y1, y2, y3, fun _ => y4⟩ y5)
    refine ⟨fun _ => ⟨by rw [e3]; exact xin_n (by omega) (by omega), fun c => ?_, fun c => ⟨fun c2 => ?_, fun c2 => ?_⟩⟩, fun c => ?_⟩
    · have a1 := (n32_lt (by omega) (by omega)).mp c
      have nl : ¬ isL (bf s) = true := by rw [isL_iff]; omega
      refine ⟨fun c3 => oth nl ?_, fun c3 => ⟨fun c4 => oth nl ?_, fun c4 => dig nl ?_⟩⟩
      · have a2 := (n32_lt (by omega) (by omega)).mp c3
        rw [isD_iff]; omega
      · have a2 := (n32_lt (by omega) (by omega)).mp c4
        rw [isD_iff]; omega
      · have a2 : ¬ bf s < 48 := fun e => c3 ((n32_lt (by omega) (by omega)).mpr e)
        have a3 : ¬ 57 < bf s := fun e => c4 ((n32_lt (by omega) (by omega)).mpr e)
        rw [isD_iff]; omega
    · have a1 := (n32_lt (by omega) (by omega)).mp c2
      have nl : ¬ isL (bf s) = true := by rw [isL_iff]; omega
      refine ⟨fun c3 => oth nl ?_, fun c3 => ⟨fun c4 => oth nl ?_, fun c4 => dig nl ?_⟩⟩
      · have a2 := (n32_lt (by omega) (by omega)).mp c3
        rw [isD_iff]; omega
      · have a2 := (n32_lt (by omega) (by omega)).mp c4
        rw [isD_iff]; omega
      · have a2 : ¬ bf s < 48 := fun e => c3 ((n32_lt (by omega) (by omega)).mpr e)
        have a3 : ¬ 57 < bf s := fun e => c4 ((n32_lt (by omega) (by omega)).mpr e)
        rw [isD_iff]; omega
    · have a1 : ¬ bf s < 97 := fun e => c ((n32_lt (by omega) (by omega)).mpr e)
      have a2 : ¬ 122 < bf s := fun e => c2 ((n32_lt (by omega) (by omega)).mpr e)
      have hl : isL (bf s) = true := by rw [isL_iff]; omega
      rw [if_pos hl] at h
      exact s85 (bf := bf) (n := n) (s := s) (n - s) s m1 rfl hs (Nat.le_refl _) hb e3 e4 (fun m' y1 y2 y3 y4 => h m' ⟨y1, y2, y3, fun e => by dsimp only at e; split at e <;> cases e⟩ y4)
    · rw [e3, e2] at c
      exact absurd ((n32_lt (by omega) (by omega)).mpr (by omega)) c
theorem s84 {bf : BF} {n : Nat} {Q : XM → Prop} : ∀ (r p : Nat) (m : XM), n - p = r → p ≤ n → HB m bf n → m 2 4 = n32 p → (∀ m', TC m' (tok bf n p) → FT m m' → Q m') → VU (D + 1) 84 [vR 9 2] m Q E := by
  intro r
  induction r with
  | zero =>
    intro p m hr hp hb e4 h
    have h7 := hb.1
    have e2 := hb.2.1
    have e : skp bf n p = p := fps_en (by omega)
    unfold tok at h
    rw [e] at h
    have f : FT m (um m 2 3 (m 2 4)) := FT_um (by omega)
    refine w84_0 ⟨fun _ => ?_, fun c => ?_⟩
    · exact g84 (bf := bf) (n := n) (s := p) hp (hb.ft f) (by rw [um_eq]; exact e4) (by rw [um_k (by omega)]; exact e4) (fun m' x1 x2 => h m' x1 (f.tr x2))
    · rw [e2, e4] at c
      exact absurd ((n32_le (by omega) (by omega)).mpr (by omega)) c
  | succ r ih =>
    intro p m hr hp hb e4 h
    have h7 := hb.1
    have e2 := hb.2.1
    obtain ⟨b1, b2⟩ := hb.2.2 p (by omega)
    have b2' : m (2 + 1) p = n32 (bf p) := b2
    have ew : skp bf n p = if decide (¬ bf p = 32) = true then p else skp bf n (p + 1) := fps_st (by omega)
    refine w84_0 ⟨fun c => ?_, fun _ => ?_⟩
    · rw [e2, e4] at c
      exact absurd ((n32_le (by omega) (by omega)).mp c) (by omega)
    · have e4x : ix (m 2 4) = p := by rw [e4, ix_n32 (by omega)]
      refine ⟨by rw [e4]; exact xin_n (by omega) (by omega), fun c => VL_V1 ?_, fun c => ?_⟩
      · rw [e4x, b2'] at c
        have c' := n32_inj (by omega) (by omega) c
        unfold tok at h
        rw [ew, if_neg (by rw [decide_eq_true_eq]; exact fun e => e c')] at h
        rw [e4, n32_add]
        have f := FT_um (m := m) (k := 4) (v := n32 (p + 1)) (by omega)
        exact ih (p + 1) _ (by omega) (by omega) (hb.ft f) (um_eq _ _ _ _) (fun m' x1 x2 => h m' x1 (f.tr x2))
      · rw [e4x, b2'] at c
        have c' : ¬ bf p = 32 := fun e => c (by rw [e])
        unfold tok at h
        rw [ew, if_pos (decide_eq_true c')] at h
        have f : FT m (um m 2 3 (m 2 4)) := FT_um (by omega)
        exact g84 (bf := bf) (n := n) (s := p) hp (hb.ft f) (by rw [um_eq]; exact e4) (by rw [um_k (by omega)]; exact e4) (fun m' x1 x2 => h m' x1 (f.tr x2))
/-- the text at an address, for what asks its length and letters -/
def STX (a : Nat) (l : List Nat) : Prop := (∀ (D : Nat) (m : XM) (Q : Int32 → XM → Prop) (E : Nat → XM → Prop), Q (n32 l.length) m → VI (D + 1) 391 [vR 30 a] m Q E) ∧ (∀ (D : Nat) (m : XM) (Q : Int32 → XM → Prop) (E : Nat → XM → Prop) (i : Nat), i < l.length → Q (n32 (l.getD i 0)) m → VI (D + 3) 392 [vR 30 a, vI (n32 i)] m Q E)
theorem STX_1 : STX 1000011 [112, 97, 114, 97, 100, 101] := by
  refine ⟨fun D m Q E h => w391s1_0 ?_, fun D m Q E i hi h => ?_⟩
  · exact Eq.mp (congrArg (fun x => Q x m) (show n32 6 = (n32 6) >>> (0 &&& 31) by decide)) h
  · match i, hi with
    | 0, _ => exact w392s1_0 ⟨fun c => absurd c (by decide), fun _ => ⟨fun _ => ⟨by decide, by decide, by decide, Eq.mp (congrArg (fun x => Q x m) (show n32 112 = ((((([112, 97, 114, 97, 100, 101] : List Int32).getD (ix (n32 0)) 0) &&& (n32 255))).toUInt32 % 65536).toInt32 by decide)) h⟩, fun c => absurd (by decide) c⟩⟩
    | 1, _ => exact w392s1_0 ⟨fun c => absurd c (by decide), fun _ => ⟨fun _ => ⟨by decide, by decide, by decide, Eq.mp (congrArg (fun x => Q x m) (show n32 97 = ((((([112, 97, 114, 97, 100, 101] : List Int32).getD (ix (n32 1)) 0) &&& (n32 255))).toUInt32 % 65536).toInt32 by decide)) h⟩, fun c => absurd (by decide) c⟩⟩
    | 2, _ => exact w392s1_0 ⟨fun c => absurd c (by decide), fun _ => ⟨fun _ => ⟨by decide, by decide, by decide, Eq.mp (congrArg (fun x => Q x m) (show n32 114 = ((((([112, 97, 114, 97, 100, 101] : List Int32).getD (ix (n32 2)) 0) &&& (n32 255))).toUInt32 % 65536).toInt32 by decide)) h⟩, fun c => absurd (by decide) c⟩⟩
    | 3, _ => exact w392s1_0 ⟨fun c => absurd c (by decide), fun _ => ⟨fun _ => ⟨by decide, by decide, by decide, Eq.mp (congrArg (fun x => Q x m) (show n32 97 = ((((([112, 97, 114, 97, 100, 101] : List Int32).getD (ix (n32 3)) 0) &&& (n32 255))).toUInt32 % 65536).toInt32 by decide)) h⟩, fun c => absurd (by decide) c⟩⟩
    | 4, _ => exact w392s1_0 ⟨fun c => absurd c (by decide), fun _ => ⟨fun _ => ⟨by decide, by decide, by decide, Eq.mp (congrArg (fun x => Q x m) (show n32 100 = ((((([112, 97, 114, 97, 100, 101] : List Int32).getD (ix (n32 4)) 0) &&& (n32 255))).toUInt32 % 65536).toInt32 by decide)) h⟩, fun c => absurd (by decide) c⟩⟩
    | 5, _ => exact w392s1_0 ⟨fun c => absurd c (by decide), fun _ => ⟨fun _ => ⟨by decide, by decide, by decide, Eq.mp (congrArg (fun x => Q x m) (show n32 101 = ((((([112, 97, 114, 97, 100, 101] : List Int32).getD (ix (n32 5)) 0) &&& (n32 255))).toUInt32 % 65536).toInt32 by decide)) h⟩, fun c => absurd (by decide) c⟩⟩
theorem STX_2 : STX 1000012 [98, 101, 97, 114, 101, 114] := by
  refine ⟨fun D m Q E h => w391s2_0 ?_, fun D m Q E i hi h => ?_⟩
  · exact Eq.mp (congrArg (fun x => Q x m) (show n32 6 = (n32 6) >>> (0 &&& 31) by decide)) h
  · match i, hi with
    | 0, _ => exact w392s2_0 ⟨fun c => absurd c (by decide), fun _ => ⟨fun _ => ⟨by decide, by decide, by decide, Eq.mp (congrArg (fun x => Q x m) (show n32 98 = ((((([98, 101, 97, 114, 101, 114] : List Int32).getD (ix (n32 0)) 0) &&& (n32 255))).toUInt32 % 65536).toInt32 by decide)) h⟩, fun c => absurd (by decide) c⟩⟩
    | 1, _ => exact w392s2_0 ⟨fun c => absurd c (by decide), fun _ => ⟨fun _ => ⟨by decide, by decide, by decide, Eq.mp (congrArg (fun x => Q x m) (show n32 101 = ((((([98, 101, 97, 114, 101, 114] : List Int32).getD (ix (n32 1)) 0) &&& (n32 255))).toUInt32 % 65536).toInt32 by decide)) h⟩, fun c => absurd (by decide) c⟩⟩
    | 2, _ => exact w392s2_0 ⟨fun c => absurd c (by decide), fun _ => ⟨fun _ => ⟨by decide, by decide, by decide, Eq.mp (congrArg (fun x => Q x m) (show n32 97 = ((((([98, 101, 97, 114, 101, 114] : List Int32).getD (ix (n32 2)) 0) &&& (n32 255))).toUInt32 % 65536).toInt32 by decide)) h⟩, fun c => absurd (by decide) c⟩⟩
    | 3, _ => exact w392s2_0 ⟨fun c => absurd c (by decide), fun _ => ⟨fun _ => ⟨by decide, by decide, by decide, Eq.mp (congrArg (fun x => Q x m) (show n32 114 = ((((([98, 101, 97, 114, 101, 114] : List Int32).getD (ix (n32 3)) 0) &&& (n32 255))).toUInt32 % 65536).toInt32 by decide)) h⟩, fun c => absurd (by decide) c⟩⟩
    | 4, _ => exact w392s2_0 ⟨fun c => absurd c (by decide), fun _ => ⟨fun _ => ⟨by decide, by decide, by decide, Eq.mp (congrArg (fun x => Q x m) (show n32 101 = ((((([98, 101, 97, 114, 101, 114] : List Int32).getD (ix (n32 4)) 0) &&& (n32 255))).toUInt32 % 65536).toInt32 by decide)) h⟩, fun c => absurd (by decide) c⟩⟩
    | 5, _ => exact w392s2_0 ⟨fun c => absurd c (by decide), fun _ => ⟨fun _ => ⟨by decide, by decide, by decide, Eq.mp (congrArg (fun x => Q x m) (show n32 114 = ((((([98, 101, 97, 114, 101, 114] : List Int32).getD (ix (n32 5)) 0) &&& (n32 255))).toUInt32 % 65536).toInt32 by decide)) h⟩, fun c => absurd (by decide) c⟩⟩
theorem STX_3 : STX 1000013 [115, 116, 97, 110, 100] := by
  refine ⟨fun D m Q E h => w391s3_0 ?_, fun D m Q E i hi h => ?_⟩
  · exact Eq.mp (congrArg (fun x => Q x m) (show n32 5 = (n32 5) >>> (0 &&& 31) by decide)) h
  · match i, hi with
    | 0, _ => exact w392s3_0 ⟨fun c => absurd c (by decide), fun _ => ⟨fun _ => ⟨by decide, by decide, by decide, Eq.mp (congrArg (fun x => Q x m) (show n32 115 = ((((([115, 116, 97, 110, 100] : List Int32).getD (ix (n32 0)) 0) &&& (n32 255))).toUInt32 % 65536).toInt32 by decide)) h⟩, fun c => absurd (by decide) c⟩⟩
    | 1, _ => exact w392s3_0 ⟨fun c => absurd c (by decide), fun _ => ⟨fun _ => ⟨by decide, by decide, by decide, Eq.mp (congrArg (fun x => Q x m) (show n32 116 = ((((([115, 116, 97, 110, 100] : List Int32).getD (ix (n32 1)) 0) &&& (n32 255))).toUInt32 % 65536).toInt32 by decide)) h⟩, fun c => absurd (by decide) c⟩⟩
    | 2, _ => exact w392s3_0 ⟨fun c => absurd c (by decide), fun _ => ⟨fun _ => ⟨by decide, by decide, by decide, Eq.mp (congrArg (fun x => Q x m) (show n32 97 = ((((([115, 116, 97, 110, 100] : List Int32).getD (ix (n32 2)) 0) &&& (n32 255))).toUInt32 % 65536).toInt32 by decide)) h⟩, fun c => absurd (by decide) c⟩⟩
    | 3, _ => exact w392s3_0 ⟨fun c => absurd c (by decide), fun _ => ⟨fun _ => ⟨by decide, by decide, by decide, Eq.mp (congrArg (fun x => Q x m) (show n32 110 = ((((([115, 116, 97, 110, 100] : List Int32).getD (ix (n32 3)) 0) &&& (n32 255))).toUInt32 % 65536).toInt32 by decide)) h⟩, fun c => absurd (by decide) c⟩⟩
    | 4, _ => exact w392s3_0 ⟨fun c => absurd c (by decide), fun _ => ⟨fun _ => ⟨by decide, by decide, by decide, Eq.mp (congrArg (fun x => Q x m) (show n32 100 = ((((([115, 116, 97, 110, 100] : List Int32).getD (ix (n32 4)) 0) &&& (n32 255))).toUInt32 % 65536).toInt32 by decide)) h⟩, fun c => absurd (by decide) c⟩⟩
theorem STX_4 : STX 1000014 [114, 105, 103, 104, 116] := by
  refine ⟨fun D m Q E h => w391s4_0 ?_, fun D m Q E i hi h => ?_⟩
  · exact Eq.mp (congrArg (fun x => Q x m) (show n32 5 = (n32 5) >>> (0 &&& 31) by decide)) h
  · match i, hi with
    | 0, _ => exact w392s4_0 ⟨fun c => absurd c (by decide), fun _ => ⟨fun _ => ⟨by decide, by decide, by decide, Eq.mp (congrArg (fun x => Q x m) (show n32 114 = ((((([114, 105, 103, 104, 116] : List Int32).getD (ix (n32 0)) 0) &&& (n32 255))).toUInt32 % 65536).toInt32 by decide)) h⟩, fun c => absurd (by decide) c⟩⟩
    | 1, _ => exact w392s4_0 ⟨fun c => absurd c (by decide), fun _ => ⟨fun _ => ⟨by decide, by decide, by decide, Eq.mp (congrArg (fun x => Q x m) (show n32 105 = ((((([114, 105, 103, 104, 116] : List Int32).getD (ix (n32 1)) 0) &&& (n32 255))).toUInt32 % 65536).toInt32 by decide)) h⟩, fun c => absurd (by decide) c⟩⟩
    | 2, _ => exact w392s4_0 ⟨fun c => absurd c (by decide), fun _ => ⟨fun _ => ⟨by decide, by decide, by decide, Eq.mp (congrArg (fun x => Q x m) (show n32 103 = ((((([114, 105, 103, 104, 116] : List Int32).getD (ix (n32 2)) 0) &&& (n32 255))).toUInt32 % 65536).toInt32 by decide)) h⟩, fun c => absurd (by decide) c⟩⟩
    | 3, _ => exact w392s4_0 ⟨fun c => absurd c (by decide), fun _ => ⟨fun _ => ⟨by decide, by decide, by decide, Eq.mp (congrArg (fun x => Q x m) (show n32 104 = ((((([114, 105, 103, 104, 116] : List Int32).getD (ix (n32 3)) 0) &&& (n32 255))).toUInt32 % 65536).toInt32 by decide)) h⟩, fun c => absurd (by decide) c⟩⟩
    | 4, _ => exact w392s4_0 ⟨fun c => absurd c (by decide), fun _ => ⟨fun _ => ⟨by decide, by decide, by decide, Eq.mp (congrArg (fun x => Q x m) (show n32 116 = ((((([114, 105, 103, 104, 116] : List Int32).getD (ix (n32 4)) 0) &&& (n32 255))).toUInt32 % 65536).toInt32 by decide)) h⟩, fun c => absurd (by decide) c⟩⟩
theorem STX_5 : STX 1000015 [108, 101, 102, 116] := by
  refine ⟨fun D m Q E h => w391s5_0 ?_, fun D m Q E i hi h => ?_⟩
  · exact Eq.mp (congrArg (fun x => Q x m) (show n32 4 = (n32 4) >>> (0 &&& 31) by decide)) h
  · match i, hi with
    | 0, _ => exact w392s5_0 ⟨fun c => absurd c (by decide), fun _ => ⟨fun _ => ⟨by decide, by decide, by decide, Eq.mp (congrArg (fun x => Q x m) (show n32 108 = ((((([108, 101, 102, 116] : List Int32).getD (ix (n32 0)) 0) &&& (n32 255))).toUInt32 % 65536).toInt32 by decide)) h⟩, fun c => absurd (by decide) c⟩⟩
    | 1, _ => exact w392s5_0 ⟨fun c => absurd c (by decide), fun _ => ⟨fun _ => ⟨by decide, by decide, by decide, Eq.mp (congrArg (fun x => Q x m) (show n32 101 = ((((([108, 101, 102, 116] : List Int32).getD (ix (n32 1)) 0) &&& (n32 255))).toUInt32 % 65536).toInt32 by decide)) h⟩, fun c => absurd (by decide) c⟩⟩
    | 2, _ => exact w392s5_0 ⟨fun c => absurd c (by decide), fun _ => ⟨fun _ => ⟨by decide, by decide, by decide, Eq.mp (congrArg (fun x => Q x m) (show n32 102 = ((((([108, 101, 102, 116] : List Int32).getD (ix (n32 2)) 0) &&& (n32 255))).toUInt32 % 65536).toInt32 by decide)) h⟩, fun c => absurd (by decide) c⟩⟩
    | 3, _ => exact w392s5_0 ⟨fun c => absurd c (by decide), fun _ => ⟨fun _ => ⟨by decide, by decide, by decide, Eq.mp (congrArg (fun x => Q x m) (show n32 116 = ((((([108, 101, 102, 116] : List Int32).getD (ix (n32 3)) 0) &&& (n32 255))).toUInt32 % 65536).toInt32 by decide)) h⟩, fun c => absurd (by decide) c⟩⟩
theorem STX_6 : STX 1000016 [112, 108, 97, 110] := by
  refine ⟨fun D m Q E h => w391s6_0 ?_, fun D m Q E i hi h => ?_⟩
  · exact Eq.mp (congrArg (fun x => Q x m) (show n32 4 = (n32 4) >>> (0 &&& 31) by decide)) h
  · match i, hi with
    | 0, _ => exact w392s6_0 ⟨fun c => absurd c (by decide), fun _ => ⟨fun _ => ⟨by decide, by decide, by decide, Eq.mp (congrArg (fun x => Q x m) (show n32 112 = ((((([112, 108, 97, 110] : List Int32).getD (ix (n32 0)) 0) &&& (n32 255))).toUInt32 % 65536).toInt32 by decide)) h⟩, fun c => absurd (by decide) c⟩⟩
    | 1, _ => exact w392s6_0 ⟨fun c => absurd c (by decide), fun _ => ⟨fun _ => ⟨by decide, by decide, by decide, Eq.mp (congrArg (fun x => Q x m) (show n32 108 = ((((([112, 108, 97, 110] : List Int32).getD (ix (n32 1)) 0) &&& (n32 255))).toUInt32 % 65536).toInt32 by decide)) h⟩, fun c => absurd (by decide) c⟩⟩
    | 2, _ => exact w392s6_0 ⟨fun c => absurd c (by decide), fun _ => ⟨fun _ => ⟨by decide, by decide, by decide, Eq.mp (congrArg (fun x => Q x m) (show n32 97 = ((((([112, 108, 97, 110] : List Int32).getD (ix (n32 2)) 0) &&& (n32 255))).toUInt32 % 65536).toInt32 by decide)) h⟩, fun c => absurd (by decide) c⟩⟩
    | 3, _ => exact w392s6_0 ⟨fun c => absurd c (by decide), fun _ => ⟨fun _ => ⟨by decide, by decide, by decide, Eq.mp (congrArg (fun x => Q x m) (show n32 110 = ((((([112, 108, 97, 110] : List Int32).getD (ix (n32 3)) 0) &&& (n32 255))).toUInt32 % 65536).toInt32 by decide)) h⟩, fun c => absurd (by decide) c⟩⟩
/-- are the r bytes from the i-th on those of the text? -/
def eqW (bf : BF) (s : Nat) (l : List Nat) : Nat → Nat → Bool
  | 0, _ => true
  | r + 1, i => if bf (s + i) = l.getD i 0 then eqW bf s l r (i + 1) else false
theorem eqW_s (bf : BF) (s : Nat) (l : List Nat) (r i : Nat) : eqW bf s l (r + 1) i = if bf (s + i) = l.getD i 0 then eqW bf s l r (i + 1) else false := by rw [eqW]
def isW (bf : BF) (t : TK) (l : List Nat) : Bool := decide (t.2.1 = 1) && decide (t.2.2.1 - t.1 = l.length) && eqW bf t.1 l l.length 0
def TWF (bf : BF) (n : Nat) (t : TK) : Prop := t.1 ≤ t.2.2.1 ∧ t.2.2.1 ≤ n ∧ t.2.1 ≤ 4 ∧ (¬ t.2.1 = 0 → t.1 < n ∧ t.1 < t.2.2.1) ∧ (t.2.1 = 1 → t.2.2.1 - t.1 ≤ 8 ∧ ∀ i, t.1 ≤ i → i < t.2.2.1 → isL (bf i) = true)
theorem tok_TWF {bf : BF} {n p : Nat} (hp : p ≤ n) : TWF bf n (tok bf n p) := (tok_wf hp).2
theorem s88 {bf : BF} {n i : Nat} {t : TK} {Q : Int32 → XM → Prop} (hb : HB m bf n) (tc : TC m t) (tw : TWF bf n t) (hi : t.1 + i < t.2.2.1) (h : Q (n32 (bf (t.1 + i))) m) : VI D 88 [vR 9 2, vI (n32 i)] m Q E := by
  have h7 := hb.1
  have w2 := tw.2.1
  have b2 : m (2 + 1) (t.1 + i) = n32 (bf (t.1 + i)) := (hb.2.2 (t.1 + i) (by omega)).2
  refine w88_0 ⟨fun c => absurd ((n32_lt (by omega) (by omega)).mp c) (by omega), fun _ => ?_⟩
  rw [tc.1, tc.2.1, n32_add, ix_n32 (by omega), b2]
  exact ⟨fun c => absurd ((n32_lt (by omega) (by omega)).mp c) (by omega), fun _ => ⟨fun c => absurd ((n32_le (by omega) (by omega)).mp c) (by omega), fun _ => ⟨fun c => absurd ((n32_le (by omega) (by omega)).mp c) (by omega), fun _ => ⟨xin_n (by omega) (by omega), h⟩⟩⟩⟩
theorem s89 {bf : BF} {n a : Nat} {t : TK} {l : List Nat} {Q : Int32 → XM → Prop} (hst : STX a l) (l0 : 1 ≤ l.length) (l8 : l.length ≤ 8) (lb : ∀ i, l.getD i 0 < 256) (hb : HB m bf n) (tc : TC m t) (tw : TWF bf n t) (h : Q (if isW bf t l = true then n32 1 else n32 0) m) : VI (D + 4) 89 [vR 9 2, vR 30 a] m Q E := by
  have h7 := hb.1
  obtain ⟨w1, w2, w3, w4, w5⟩ := tw
  unfold isW at h
  refine w89_0 ⟨fun c => hst.1 _ _ _ _ ?_, fun c => hst.1 _ _ _ _ ?_⟩
  · rw [tc.2.2.1] at c
    have ck : t.2.1 = 1 := n32_inj (by omega) (by omega) c
    rw [decide_eq_true ck, Bool.true_and] at h
    rw [tc.1, tc.2.1, n32_sub w1]
    refine ⟨fun c2 => ?_, fun c2 => ?_⟩
    · have cl : t.2.2.1 - t.1 = l.length := n32_inj (by omega) (by omega) c2
      rw [decide_eq_true cl, Bool.true_and] at h
      have key : ∀ r i, i + r = l.length → Q (if eqW bf t.1 l r i = true then n32 1 else n32 0) m → VLI (D + 4) 89 3 [(0, vR 9 2), (1, vR 30 a), (2, vI (n32 i))] [] m Q E := by
        intro r
        induction r with
        | zero =>
          intro i hi hq
          rw [eqW, if_pos rfl] at hq
          refine w89_3 (hst.1 _ _ _ _ ⟨fun _ => hq, fun c => absurd ((n32_le (by omega) (by omega)).mpr (by omega)) c⟩)
        | succ r ih =>
          intro i hi hq
          rw [eqW_s] at hq
          refine w89_3 (hst.1 _ _ _ _ ⟨fun c => absurd ((n32_le (by omega) (by omega)).mp c) (by omega), fun _ => ?_⟩)
          refine s88 hb tc ⟨w1, w2, w3, w4, w5⟩ (by omega) ?_
          refine hst.2 _ _ _ _ i (by omega) ?_
          have b1 := (hb.2.2 (t.1 + i) (by omega)).1
          have b2 := lb i
          by_cases ce : bf (t.1 + i) = l.getD i 0
          · rw [if_pos ce] at hq
            rw [ce, n32_add]
            exact ⟨fun _ => ih (i + 1) (by omega) hq, fun c => absurd rfl c⟩
          · rw [if_neg ce] at hq
            exact ⟨fun c => absurd (n32_inj (by omega) (by omega) c) ce, fun _ => by simpa using hq⟩
      exact key l.length 0 (by omega) h
    · have cl : ¬ t.2.2.1 - t.1 = l.length := fun e => c2 (by rw [e])
      rw [decide_eq_false cl, Bool.false_and, if_neg (by decide)] at h
      exact h
  · rw [tc.2.2.1] at c
    have ck : ¬ t.2.1 = 1 := fun e => c (by rw [e])
    rw [decide_eq_false ck, Bool.false_and, Bool.false_and, if_neg (by decide)] at h
    exact ⟨fun c2 => absurd (n32_inj (by omega) (by omega) c2) (by omega), fun _ => h⟩
end S95

