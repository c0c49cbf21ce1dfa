/-! The reference reads tokens. -/
/-- a byte, and as the reference sees it -/
def BB (b : Nat) (y : Int32) : Prop := (b < 128 ∧ y = n32 b) ∨ (128 ≤ b ∧ b < 256 ∧ y.toInt < 0)
theorem BB_lt {b c : Nat} {y : Int32} (h : BB b y) (hc : c ≤ 128) : y < n32 c ↔ (b < c ∨ 128 ≤ b) := by
  rcases h with ⟨h1, rfl⟩ | ⟨h1, h2, h3⟩
  · rw [n32_lt (by omega) (by omega)]; omega
  · rw [Int32.lt_iff_toInt_lt, n32_toInt (by omega)]; omega
theorem BB_gt {b c : Nat} {y : Int32} (h : BB b y) (hc : c ≤ 128) : n32 c < y ↔ (c < b ∧ b < 128) := by
  rcases h with ⟨h1, rfl⟩ | ⟨h1, h2, h3⟩
  · rw [n32_lt (by omega) (by omega)]; omega
  · rw [Int32.lt_iff_toInt_lt, n32_toInt (by omega)]; omega
theorem BB_eq {b c : Nat} {y : Int32} (h : BB b y) (hc : c < 128) : y = n32 c ↔ b = c := by
  rcases h with ⟨h1, rfl⟩ | ⟨h1, h2, h3⟩
  · exact ⟨fun e => n32_inj (by omega) (by omega) e, fun e => by rw [e]⟩
  · refine ⟨fun e => ?_, fun e => by omega⟩
    rw [e, n32_toInt (by omega)] at h3; omega
theorem BB_n {b : Nat} {y : Int32} (h : BB b y) (hb : b < 128) : y = n32 b := by
  rcases h with ⟨h1, rfl⟩ | ⟨h1, h2, h3⟩
  · rfl
  · omega
def HR (m : XM) (bf : BF) (n : Nat) : Prop := n ≤ 700 ∧ m 283 12 = n32 n ∧ ∀ i, i < n → BB (bf i) (m 289 i)
/-- nothing changes but the token -/
def FK (m m' : XM) : Prop := ∀ b k, ¬ (b = 283 ∧ 13 ≤ k ∧ k ≤ 16) → m' b k = m b k
theorem FK.rf (m : XM) : FK m m := fun _ _ _ => rfl
theorem FK.tr {m1 m2 m3 : XM} (h1 : FK m1 m2) (h2 : FK m2 m3) : FK m1 m3 := fun b k c => (h2 b k c).trans (h1 b k c)
theorem FK_um {m : XM} {k : Nat} {v : Int32} (h : 13 ≤ k ∧ k ≤ 16) : FK m (um m 283 k v) := fun b j c => by
  unfold um; rw [if_neg]; rintro ⟨rfl, rfl⟩; exact c ⟨rfl, h⟩
theorem HR.fk {m m' : XM} {bf : BF} {n : Nat} (h : HR m bf n) (f : FK m m') : HR m' bf n :=
  ⟨h.1, by rw [f _ _ (by omega)]; exact h.2.1, fun i hi => by rw [f _ _ (by omega)]; exact h.2.2 i hi⟩
def kk (k : Nat) : Nat := if k = 4 then 0 else k + 1
def TR (m : XM) (t : TK) : Prop := m 283 14 = n32 t.1 ∧ m 283 13 = n32 t.2.2.1 ∧ m 283 15 = n32 (kk t.2.1) ∧ (t.2.1 = 2 → m 283 16 = t.2.2.2)
section S99
variable {D : Nat} {m : XM} {g : PG} {E : Nat → XM → Prop}
theorem r184 {bf : BF} {n i : Nat} {Q : Int32 → XM → Prop} (hb : HR m bf n) (hi : i ≤ n) (h1 : i < n → isL (bf i) = true → Q (n32 1) m) (h0 : (i < n → ¬ isL (bf i) = true) → Q (n32 0) m) : VI (D + 1) 184 [vR 11 283, vI (n32 i)] m Q E := by
  have h7 := hb.1
  refine w184_0 ⟨fun c => h0 (fun h => ?_), fun c => ?_⟩
  · rw [hb.2.1] at c
    have := (n32_le (by omega) (by omega)).mp c; omega
  · rw [hb.2.1] at c
    have hn : i < n := by
      by_cases e : i < n
      · exact e
      · exact absurd ((n32_le (by omega) (by omega)).mpr (by omega)) c
    have b := hb.2.2 i hn
    refine ⟨xin_n (by omega) (by omega), ?_⟩
    rw [ix_n32 (by omega), BB_lt b (by omega), BB_gt b (by omega)]
    rw [isL_iff] at h1 h0
    exact ⟨fun c => h0 (fun _ => by omega), fun c => ⟨fun c2 => h0 (fun _ => by omega), fun c2 => h1 hn (by omega)⟩⟩
theorem r185 {bf : BF} {n i : Nat} {Q : Int32 → XM → Prop} (hb : HR m bf n) (hi : i ≤ n) (h1 : i < n → isD (bf i) = true → Q (n32 1) m) (h0 : (i < n → ¬ isD (bf i) = true) → Q (n32 0) m) : VI (D + 1) 185 [vR 11 283, vI (n32 i)] m Q E := by
  have h7 := hb.1
  refine w185_0 ⟨fun c => h0 (fun h => ?_), fun c => ?_⟩
  · rw [hb.2.1] at c
    have := (n32_le (by omega) (by omega)).mp c; omega
  · rw [hb.2.1] at c
    have hn : i < n := by
      by_cases e : i < n
      · exact e
      · exact absurd ((n32_le (by omega) (by omega)).mpr (by omega)) c
    have b := hb.2.2 i hn
    refine ⟨xin_n (by omega) (by omega), ?_⟩
    rw [ix_n32 (by omega), BB_lt b (by omega), BB_gt b (by omega)]
    rw [isD_iff] at h1 h0
    exact ⟨fun c => h0 (fun _ => by omega), fun c => ⟨fun c2 => h0 (fun _ => by omega), fun c2 => h1 hn (by omega)⟩⟩
theorem r11 {bf : BF} {n s : Nat} {Q : XM → Prop} : ∀ (r q : Nat) (m : XM), n - q = r → q ≤ n → s ≤ q → HR m bf n → m 283 14 = n32 s → m 283 13 = n32 q → (∀ m', m' 283 14 = n32 s → m' 283 13 = n32 (wnd bf n q) → m' 283 15 = n32 (if wnd bf n q - s ≤ 8 then 2 else 0) → FK m m' → Q m') → VLU (D + 2) 186 11 [(0, vR 11 283)] [] m Q E := by
  intro r
  induction r with
  | zero =>
    intro q m hr hq hs hb e4 e3 h
    have e : wnd bf n q = q := fps_en (by omega)
    rw [e] at h
    have h7 := hb.1
    refine w186_11 ?_
    rw [e3]
    refine r184 hb hq (fun c => absurd c (by omega)) (fun _ => ⟨fun _ => ?_, fun c => absurd rfl c⟩)
    rw [e3, e4, n32_sub hs]
    refine ⟨fun c => ?_, fun c => ?_⟩
    · have := (n32_lt (by omega) (by omega)).mp c
      exact h _ (by rw [um_k (by omega)]; exact e4) (by rw [um_k (by omega)]; exact e3) (by rw [um_eq, if_neg (by omega)]) (FK_um (by omega))
    · have : ¬ 8 < q - s := fun e => c ((n32_lt (by omega) (by omega)).mpr e)
      exact h _ (by rw [um_k (by omega)]; exact e4) (by rw [um_k (by omega)]; exact e3) (by rw [um_eq, if_pos (by omega)]) (FK_um (by omega))
  | succ r ih =>
    intro q m hr hq hs hb e4 e3 h
    have h7 := hb.1
    have ew : wnd bf n q = if (!isL (bf q)) = true then q else wnd bf n (q + 1) := fps_st (by omega)
    refine w186_11 ?_
    rw [e3]
    refine r184 hb hq (fun _ hl => ⟨fun c => absurd c n01, fun _ => ?_⟩) (fun hl => ⟨fun _ => ?_, fun c => absurd rfl c⟩)
    · rw [ew, hl] at h
      simp only [Bool.not_true, Bool.false_eq_true, if_false] at h
      rw [e3, n32_add]
      have f := FK_um (m := m) (k := 13) (v := n32 (q + 1)) (by omega)
      exact ih (q + 1) _ (by omega) (by omega) (by omega) (hb.fk f) (by rw [um_k (by omega)]; exact e4) (um_eq _ _ _ _) (fun m' x1 x2 x3 x4 => h m' x1 x2 x3 (f.tr x4))
    · have hl := hl (by omega)
      have e : wnd bf n q = q := by
        rw [ew, if_pos]
        cases hx : isL (bf q) with
        | true => exact absurd hx hl
        | false => rfl
      rw [e] at h
      rw [e3, e4, n32_sub hs]
      refine ⟨fun c => ?_, fun c => ?_⟩
      · have := (n32_lt (by omega) (by omega)).mp c
        exact h _ (by rw [um_k (by omega)]; exact e4) (by rw [um_k (by omega)]; exact e3) (by rw [um_eq, if_neg (by omega)]) (FK_um (by omega))
      · have : ¬ 8 < q - s := fun e => c ((n32_lt (by omega) (by omega)).mpr e)
        exact h _ (by rw [um_k (by omega)]; exact e4) (by rw [um_k (by omega)]; exact e3) (by rw [um_eq, if_pos (by omega)]) (FK_um (by omega))
theorem r19f {bf : BF} {s q : Nat} {Q : XM → Prop} (hs : s ≤ q) (hq : q ≤ 700) (e4 : m 283 14 = n32 s) (e3 : m 283 13 = n32 q) (e6 : q - s ≤ 4 → m 283 16 = nmI bf s (q - s)) (h : ∀ m', m' 283 14 = n32 s → m' 283 13 = n32 q → m' 283 15 = n32 (if q - s ≤ 4 then 3 else 0) → (q - s ≤ 4 → m' 283 16 = nmI bf s (q - s)) → FK m m' → Q m') : ((n32 4) < ((m 283 13) - (m 283 14)) → Q (um m 283 15 (n32 0))) ∧ (¬ (n32 4) < ((m 283 13) - (m 283 14)) → Q (um m 283 15 (n32 3))) := by
  rw [e3, e4, n32_sub hs]
  refine ⟨fun c => ?_, fun c => ?_⟩
  · have := (n32_lt (by omega) (by omega)).mp c
    exact h _ (by rw [um_k (by omega)]; exact e4) (by rw [um_k (by omega)]; exact e3) (by rw [um_eq, if_neg (by omega)]) (fun e => by rw [um_k (by omega)]; exact e6 e) (FK_um (by omega))
  · have : ¬ 4 < q - s := fun e => c ((n32_lt (by omega) (by omega)).mpr e)
    exact h _ (by rw [um_k (by omega)]; exact e4) (by rw [um_k (by omega)]; exact e3) (by rw [um_eq, if_pos (by omega)]) (fun e => by rw [um_k (by omega)]; exact e6 e) (FK_um (by omega))
theorem r19 {bf : BF} {n s : Nat} {Q : XM → Prop} : ∀ (r q : Nat) (m : XM), n - q = r → q ≤ n → s ≤ q → HR m bf n → m 283 14 = n32 s → m 283 13 = n32 q → (q - s ≤ 4 → m 283 16 = nmI bf s (q - s)) → (∀ m', m' 283 14 = n32 s → m' 283 13 = n32 (dnd bf n q) → m' 283 15 = n32 (if dnd bf n q - s ≤ 4 then 3 else 0) → (dnd bf n q - s ≤ 4 → m' 283 16 = nmI bf s (dnd bf n q - s)) → FK m m' → Q m') → VLU (D + 2) 186 19 [(0, vR 11 283)] [] m Q E := by
  intro r
  induction r with
  | zero =>
    intro q m hr hq hs hb e4 e3 e6 h
    have e : dnd bf n q = q := fps_en (by omega)
    rw [e] at h
    have h7 := hb.1
    refine w186_19 ?_
    rw [e3]
    refine r185 hb hq (fun c => absurd c (by omega)) (fun _ => ⟨fun _ => ?_, fun c => absurd rfl c⟩)
    exact r19f hs (by omega) e4 e3 e6 h
  | succ r ih =>
    intro q m hr hq hs hb e4 e3 e6 h
    have h7 := hb.1
    have ew : dnd bf n q = if (!isD (bf q)) = true then q else dnd bf n (q + 1) := fps_st (by omega)
    refine w186_19 ?_
    rw [e3]
    refine r185 hb hq (fun _ hl => ⟨fun c => absurd c n01, fun _ => ?_⟩) (fun hl => ⟨fun _ => ?_, fun c => absurd rfl c⟩)
    · rw [ew, hl] at h
      simp only [Bool.not_true, Bool.false_eq_true, if_false] at h
      have hd := (isD_iff _).mp hl
      have b : m 289 q = n32 (bf q) := BB_n (hb.2.2 q (by omega)) (by omega)
      rw [e3, e4, n32_sub hs]
      refine ⟨fun c => ?_, fun c => ⟨xin_n (by omega) (by omega), ?_⟩⟩
      · have := (n32_le (by omega) (by omega)).mp c
        rw [n32_add]
        have f := FK_um (m := m) (k := 13) (v := n32 (q + 1)) (by omega)
        exact ih (q + 1) _ (by omega) (by omega) (by omega) (hb.fk f) (by rw [um_k (by omega)]; exact e4) (um_eq _ _ _ _) (fun e => absurd e (by omega)) (fun m' x1 x2 x3 x4 x5 => h m' x1 x2 x3 x4 (f.tr x5))
      · have c' : q - s < 4 := by
          by_cases e : q - s < 4
          · exact e
          · exact absurd ((n32_le (by omega) (by omega)).mpr (by omega)) c
        rintro μ rfl
        rw [um_k (by omega), e3, n32_add, ix_n32 (by omega), b, e6 (by omega)]
        have f := (FK_um (m := m) (k := 16) (v := ((n32 10) * nmI bf s (q - s) + n32 (bf q)) - n32 48) (by omega)).tr (FK_um (k := 13) (v := n32 (q + 1)) (by omega))
        refine ih (q + 1) _ (by omega) (by omega) (by omega) (hb.fk f) (by rw [um_k (by omega), um_k (by omega)]; exact e4) (um_eq _ _ _ _) (fun e => ?_) (fun m' x1 x2 x3 x4 x5 => h m' x1 x2 x3 x4 (f.tr x5))
        rw [um_k (by omega), um_eq, show q + 1 - s = (q - s) + 1 by omega, nmI_succ, Int32.mul_comm, show s + (q - s) = q by omega]
    · have hl := hl (by omega)
      have e : dnd bf n q = q := by
        rw [ew, if_pos]
        cases hx : isD (bf q) with
        | true => exact absurd hx hl
        | false => rfl
      rw [e] at h
      exact r19f hs (by omega) e4 e3 e6 h
theorem r2 {bf : BF} {n : Nat} {Q : XM → Prop} : ∀ (r p : Nat) (m : XM), n - p = r → p ≤ n → HR m bf n → m 283 13 = n32 p → (∀ m', TR m' (tok bf n p) → FK m m' → Q m') → VLU (D + 2) 186 2 [(0, vR 11 283)] [] m Q E := by
  intro r
  induction r with
  | zero =>
    intro p m hr hp hb e3 h
    have h7 := hb.1
    have e2 := hb.2.1
    have e : skp bf n p = p := fps_en (by omega)
    have en : n = p := by omega
    have et : tok bf n p = (p, 0, p, n32 0) := by
      unfold tok tkS
      rw [e, if_pos (by omega)]
    rw [et] at h
    have f : FK m (um (um m 283 14 (m 283 13)) 283 15 (n32 1)) := (FK_um (by omega)).tr (FK_um (by omega))
    refine w186_2 ⟨fun _ => ⟨fun _ => ⟨fun _ => ?_, fun c => absurd (um_eq _ _ _ _) c⟩, fun c => absurd ?_ c⟩, fun c => absurd ?_ c⟩
    · refine h _ ⟨?_, ?_, ?_, fun e => by cases e⟩ f
      · rw [um_k (by omega), um_eq]; exact e3
      · rw [um_k (by omega), um_k (by omega)]; exact e3
      · rw [um_eq]; rfl
    · rw [um_k (by omega), um_k (by omega), e3, e2, en]
    · rw [e3, e2]; exact (n32_le (by omega) (by omega)).mpr (by omega)
  | succ r ih =>
    intro p m hr hp hb e3 h
    have h7 := hb.1
    have e2 := hb.2.1
    have b := hb.2.2 p (by omega)
    have ew : skp bf n p = if decide (¬ bf p = 32) = true then p else skp bf n (p + 1) := fps_st (by omega)
    refine w186_2 ⟨fun c => absurd c ?_, fun _ => ⟨by rw [e3]; exact xin_n (by omega) (by omega), fun c => ?_, fun c => ⟨fun c => absurd c ?_, fun _ => ⟨fun c => absurd c ?_, fun _ => ?_⟩⟩⟩⟩
    · rw [e3, e2]; exact fun c => absurd ((n32_le (by omega) (by omega)).mp c) (by omega)
    · rw [e3, ix_n32 (by omega), BB_eq b (by omega)] at c
      unfold tok at h
      rw [ew, if_neg (by rw [decide_eq_true_eq]; exact fun e => e c)] at h
      rw [e3, n32_add]
      have f := FK_um (m := m) (k := 13) (v := n32 (p + 1)) (by omega)
      exact ih (p + 1) _ (by omega) (by omega) (hb.fk f) (um_eq _ _ _ _) (fun m' x1 x2 => h m' x1 (f.tr x2))
    · rw [um_k (by omega), um_k (by omega), e3, e2]
      exact fun c => absurd (n32_inj (by omega) (by omega) c) (by omega)
    · rw [um_eq]; exact fun c => absurd c.symm n01
    · rw [e3, ix_n32 (by omega), BB_eq b (by omega)] at c
      unfold tok at h
      rw [ew, if_pos (decide_eq_true c)] at h
      unfold tkS at h
      rw [if_neg (show ¬ n ≤ p by omega)] at h
      have f : FK m (um (um m 283 14 (m 283 13)) 283 15 (n32 0)) := (FK_um (by omega)).tr (FK_um (by omega))
      have y4 : um (um m 283 14 (m 283 13)) 283 15 (n32 0) 283 14 = n32 p := by rw [um_k (by omega), um_eq]; exact e3
      have y3 : um (um m 283 14 (m 283 13)) 283 15 (n32 0) 283 13 = n32 p := by rw [um_k (by omega), um_k (by omega)]; exact e3
      have y5 : um (um m 283 14 (m 283 13)) 283 15 (n32 0) 283 15 = n32 0 := um_eq _ _ _ _
      rw [y3]
      generalize um (um m 283 14 (m 283 13)) 283 15 (n32 0) = m1 at f y4 y3 y5
      have hb1 := hb.fk f
      refine r184 hb1 hp (fun _ hl => ⟨fun c => absurd c n01, fun _ => ?_⟩) (fun hl => ⟨fun _ => ?_, fun c => absurd rfl c⟩)
      · rw [if_pos hl] at h
        refine r11 (bf := bf) (n := n) (s := p) (n - p) p m1 rfl hp (Nat.le_refl _) hb1 y4 y3 (fun m' x1 x2 x3 x4 => h m' ⟨x1, x2, ?_, fun e => by dsimp only at e; split at e <;> cases e⟩ (f.tr x4))
        rw [x3]; dsimp only
        split <;> rfl
      · have hl := hl (by omega)
        rw [if_neg hl] at h
        rw [y3]
        refine r185 hb1 hp (fun _ hd => ⟨fun c => absurd c n01, fun _ => ?_⟩) (fun hd => ⟨fun _ => ?_, fun c => absurd rfl c⟩)
        · rw [if_pos hd] at h
          have f2 := FK_um (m := m1) (k := 16) (v := n32 0) (by omega)
          refine r19 (bf := bf) (n := n) (s := p) (n - p) p _ rfl hp (Nat.le_refl _) (hb1.fk f2) (by rw [um_k (by omega)]; exact y4) (by rw [um_k (by omega)]; exact y3) (fun _ => by rw [um_eq, Nat.sub_self]; rfl) (fun m' x1 x2 x3 x4 x5 => h m' ⟨x1, x2, ?_, fun e => ?_⟩ ((f.tr f2).tr x5))
          · rw [x3]; dsimp only
            split <;> rfl
          · dsimp only at e ⊢
            split at e
            · rename_i e'; exact x4 e'
            · cases e
        · have hd := hd (by omega)
          rw [if_neg hd] at h
          have b1 := hb1.2.2 p (by omega)
          rw [y3, ix_n32 (by omega), BB_eq b1 (by omega)]
          refine ⟨xin_n (by omega) (by omega), fun c => ?_, fun c => ?_⟩
          · rw [if_pos c] at h
            rw [um_k (by omega), y3, n32_add]
            exact h _ ⟨by rw [um_k (by omega), um_k (by omega)]; exact y4, um_eq _ _ _ _, by rw [um_k (by omega), um_eq]; rfl, fun e => by cases e⟩ (f.tr ((FK_um (by omega)).tr (FK_um (by omega))))
          · rw [if_neg c] at h
            rw [n32_add]
            exact h _ ⟨by rw [um_k (by omega)]; exact y4, um_eq _ _ _ _, by rw [um_k (by omega)]; exact y5, fun e => by cases e⟩ (f.tr (FK_um (by omega)))
end S99
