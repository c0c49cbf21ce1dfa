/-! Numbers written; pairs: writePlaces, append. -/
theorem n32_div {a b : Nat} (ha : a < 2147483648) (hb : b < 2147483648) : n32 a / n32 b = n32 (a / b) := (Int32.ofNat_div ha hb).symm
theorem n32_mod10 {a : Nat} (ha : a < 2147483648) : n32 a - n32 a / n32 10 * n32 10 = n32 (a % 10) := by
  rw [n32_div ha (by omega), n32_mul, n32_sub (by omega)]
  congr 1; omega
/-- how many digits a number has, below 10 to the f + 1 -/
def ndf : Nat → Nat → Nat
  | 0, _ => 1
  | f + 1, n => if n < 10 then 1 else ndf f (n / 10) + 1
theorem ndf_0 (n : Nat) : ndf 0 n = 1 := by rw [ndf]
theorem ndf_s (f n : Nat) : ndf (f + 1) n = if n < 10 then 1 else ndf f (n / 10) + 1 := by rw [ndf]
theorem ndf_pos (f n : Nat) : 1 ≤ ndf f n := by
  cases f with
  | zero => rw [ndf_0]; exact Nat.le_refl _
  | succ f => rw [ndf_s]; split <;> omega
theorem ndf_le (f : Nat) : ∀ n, ndf f n ≤ f + 1 := by
  induction f with
  | zero => intro n; rw [ndf_0]; omega
  | succ f ih => intro n; rw [ndf_s]; have := ih (n / 10); split <;> omega
/-- a number behind a page -/
def pgn : Nat → PGE → Nat → PGE
  | 0, t, n => pgb t (n32 (48 + n % 10))
  | f + 1, t, n => if n < 10 then pgb t (n32 (48 + n % 10)) else pgb (pgn f t (n / 10)) (n32 (48 + n % 10))
theorem pgn_0 (t : PGE) (n : Nat) : pgn 0 t n = pgb t (n32 (48 + n % 10)) := by rw [pgn]
theorem pgn_s (f : Nat) (t : PGE) (n : Nat) : pgn (f + 1) t n = if n < 10 then pgb t (n32 (48 + n % 10)) else pgb (pgn f t (n / 10)) (n32 (48 + n % 10)) := by rw [pgn]
theorem pgn_len (f : Nat) : ∀ (t : PGE) (n : Nat), (pgn f t n).1 = t.1 + ndf f n := by
  induction f with
  | zero => intro t n; rw [pgn_0, ndf_0]; rfl
  | succ f ih =>
    intro t n
    rw [pgn_s, ndf_s]
    by_cases c : n < 10
    · rw [if_pos c, if_pos c]; rfl
    · rw [if_neg c, if_neg c]
      show (pgn f t (n / 10)).1 + 1 = _
      rw [ih]; omega
theorem pgb_lo {t : PGE} {v : Int32} {j : Nat} (h : j < t.1) : (pgb t v).2 j = t.2 j := by
  show (if j = t.1 then v else t.2 j) = _
  rw [if_neg (by omega)]
theorem pgb_hi {t : PGE} {v : Int32} : (pgb t v).2 t.1 = v := by
  show (if t.1 = t.1 then v else t.2 t.1) = _
  rw [if_pos rfl]
theorem pgn_lo (f : Nat) : ∀ (t : PGE) (n j : Nat), j < t.1 → (pgn f t n).2 j = t.2 j := by
  induction f with
  | zero => intro t n j h; rw [pgn_0, pgb_lo h]
  | succ f ih =>
    intro t n j h
    rw [pgn_s]
    split
    · rw [pgb_lo h]
    · rw [pgb_lo (by rw [pgn_len]; omega), ih _ _ _ h]
theorem pgn_at (f : Nat) : ∀ (t : PGE) (n i : Nat), n < 10 ^ (f + 1) → i < ndf f n → (pgn f t n).2 (t.1 + ndf f n - 1 - i) = n32 (48 + n / 10 ^ i % 10) := by
  induction f with
  | zero =>
    intro t n i hn hi
    rw [ndf_0] at hi ⊢
    have : i = 0 := by omega
    subst this
    rw [pgn_0, show t.1 + 1 - 1 - 0 = t.1 by omega, pgb_hi, Nat.pow_zero, Nat.div_one]
  | succ f ih =>
    intro t n i hn hi
    rw [pgn_s]
    rw [ndf_s] at hi ⊢
    by_cases c : n < 10
    · rw [if_pos c] at hi ⊢
      rw [if_pos c]
      have : i = 0 := by omega
      subst this
      rw [show t.1 + 1 - 1 - 0 = t.1 by omega, pgb_hi, Nat.pow_zero, Nat.div_one]
    · rw [if_neg c] at hi ⊢
      rw [if_neg c]
      have el := pgn_len f t (n / 10)
      have np := ndf_pos f (n / 10)
      cases i with
      | zero =>
        rw [show t.1 + (ndf f (n / 10) + 1) - 1 - 0 = (pgn f t (n / 10)).1 by omega, pgb_hi, Nat.pow_zero, Nat.div_one]
      | succ i =>
        have e10 : n / 10 < 10 ^ (f + 1) := by
          have : 10 ^ (f + 1 + 1) = 10 ^ (f + 1) * 10 := Nat.pow_succ ..
          omega
        have := ih t (n / 10) i e10 (by omega)
        rw [show t.1 + (ndf f (n / 10) + 1) - 1 - (i + 1) = t.1 + ndf f (n / 10) - 1 - i by omega, pgb_lo (by omega), this]
        congr 3
        rw [Nat.pow_succ, Nat.mul_comm, Nat.div_div_eq_div_mul]
/-- the digits of a number stop at its length -/
theorem dig_end (f : Nat) : ∀ n, n < 10 ^ (f + 1) → n / 10 ^ ndf f n = 0 := by
  induction f with
  | zero => intro n hn; rw [ndf_0]; exact Nat.div_eq_of_lt hn
  | succ f ih =>
    intro n hn
    rw [ndf_s]
    split
    · rw [Nat.pow_one]; omega
    · have e10 : n / 10 < 10 ^ (f + 1) := by
        have : 10 ^ (f + 1 + 1) = 10 ^ (f + 1) * 10 := Nat.pow_succ ..
        omega
      rw [Nat.pow_succ, Nat.mul_comm, ← Nat.div_div_eq_div_mul]
      exact ih _ e10
section S94
variable {D : Nat} {m : XM} {g : PG} {E : Nat → XM → Prop}
theorem dig8 {n : Nat} (h : n < 10) : (n32 (48 + n)).toInt8.toInt32.toInt8.toInt32 = n32 (48 + n) := byt2 ⟨48 + n, by omega, by omega, rfl⟩
theorem s304 : ∀ (f n : Nat) (t : PGE) (m : XM) (Q : XM → Prop), n < 10 ^ (f + 1) → n < 10000000 → t.1 + ndf f n ≤ 120 → WM m t → (∀ m', WM m' (pgn f t n) → FP2 m m' → Q m') → VU (D + f + 9) 304 [vR 11 283, vI (n32 n)] m Q E := by
  intro f
  induction f with
  | zero =>
    intro n t m Q hn h7 hl c h
    rw [ndf_0] at hl
    have e2 := c.1
    obtain ⟨c2, f2⟩ := WM_b (v := n32 (48 + n % 10)) c
    refine w304_0 ⟨fun _ => ?_, fun c' => absurd ((n32_le (by omega) (by omega)).mpr (by omega)) c'⟩
    rw [n32_mod10 (by omega), n32_add, dig8 (Nat.mod_lt _ (by omega)), e2]
    refine ⟨xin_n (by omega) (by omega), ?_⟩
    rintro μ rfl
    simp (disch := omega) only [um_a, e2, n32_add, ix_n32]
    exact h _ (by rw [pgn_0]; exact c2) f2
  | succ f ih =>
    intro n t m Q hn h7 hl c h
    rw [ndf_s] at hl
    rw [pgn_s] at h
    have e2 := c.1
    by_cases cn : n < 10
    · rw [if_pos cn] at hl h
      obtain ⟨c2, f2⟩ := WM_b (v := n32 (48 + n % 10)) c
      refine w304_0 ⟨fun _ => ?_, fun c' => absurd ((n32_le (by omega) (by omega)).mpr (by omega)) c'⟩
      rw [n32_mod10 (by omega), n32_add, dig8 (Nat.mod_lt _ (by omega)), e2]
      refine ⟨xin_n (by omega) (by omega), ?_⟩
      rintro μ rfl
      simp (disch := omega) only [um_a, e2, n32_add, ix_n32]
      exact h _ c2 f2
    · rw [if_neg cn] at hl h
      have e10 : n / 10 < 10 ^ (f + 1) := by
        have : 10 ^ (f + 1 + 1) = 10 ^ (f + 1) * 10 := Nat.pow_succ ..
        omega
      have el := pgn_len f t (n / 10)
      refine w304_0 ⟨fun c' => absurd ((n32_le (by omega) (by omega)).mp c') (by omega), fun _ => ?_⟩
      rw [n32_mod10 (by omega), n32_add, dig8 (Nat.mod_lt _ (by omega)), n32_div (by omega) (by omega)]
      refine ih (n / 10) t m _ e10 (by omega) (by omega) c ?_
      intro m1 c1 f1
      have e3 := c1.1
      obtain ⟨c2, f2⟩ := WM_b (v := n32 (48 + n % 10)) c1
      rw [e3]
      refine ⟨xin_n (by omega) (by omega), ?_⟩
      rintro μ rfl
      simp (disch := omega) only [um_a, e3, n32_add, ix_n32]
      exact h _ c2 (f1.tr f2)
/-- the component counts the digits -/
theorem t2_3 : ∀ (f q c : Nat) (Q : XM → Prop) (x : Int32), q < 10 ^ (f + 1) → q < 10000000 → c + ndf f q ≤ 9 → ((((m 281 0) + n32 (c + ndf f q)) ≤ (n32 128) → VLU (D + 1) 2 9 [(0, vR 0 281), (2, vI x), (4, vI ((m 281 0) + n32 (c + ndf f q))), (5, vI (((m 281 0) + n32 (c + ndf f q)) - (n32 1)))] [] m Q E) ∧ (¬ ((m 281 0) + n32 (c + ndf f q)) ≤ (n32 128) → Q m)) → VLU (D + 1) 2 3 [(0, vR 0 281), (2, vI x), (3, vI (n32 (c + 1))), (4, vI (n32 (q / 10)))] [] m Q E := by
  intro f
  induction f with
  | zero =>
    intro q c Q x hq h7 hc h
    rw [ndf_0] at h
    have : q / 10 = 0 := by omega
    rw [this]
    exact w2_3 ⟨fun _ => h, fun c' => absurd (n32_rfl 0) c'⟩
  | succ f ih =>
    intro q c Q x hq h7 hc h
    rw [ndf_s] at h hc
    by_cases cq : q < 10
    · rw [if_pos cq] at h
      have : q / 10 = 0 := by omega
      rw [this]
      exact w2_3 ⟨fun _ => h, fun c' => absurd (n32_rfl 0) c'⟩
    · rw [if_neg cq] at h hc
      have e10 : q / 10 < 10 ^ (f + 1) := by
        have : 10 ^ (f + 1 + 1) = 10 ^ (f + 1) * 10 := Nat.pow_succ ..
        omega
      have np := ndf_pos f (q / 10)
      refine w2_3 ⟨fun c' => absurd ((n32_le (by omega) (by omega)).mp c') (by omega), fun _ => ⟨fun c' => absurd ((n32_le (by omega) (by omega)).mp c') (by omega), fun _ => ?_⟩⟩
      rw [n32_add, n32_div (by omega) (by omega)]
      refine ih (q / 10) (c + 1) Q x e10 (by omega) (by omega) ?_
      rw [show c + 1 + ndf f (q / 10) = c + (ndf f (q / 10) + 1) by omega]
      exact h
theorem pred_lt (n : Nat) (hn : n < 1000) : n32 n - n32 1 < n32 n := by
  by_cases c : n = 0
  · subst c; decide
  · rw [n32_sub (by omega), n32_lt (by omega) (by omega)]; omega
/-- the component writes the digits from the last one on -/
theorem t2_9 {t : PGE} {n : Nat} {Q : XM → Prop} (h7 : n < 10000000) (hl : t.1 + ndf 6 n ≤ 128) (c0 : WC m t) (h : ∀ m', WC m' (pgn 6 t n) → FB m m' → Q m') : VLU (D + 1) 2 9 [(0, vR 0 281), (2, vI (n32 n)), (4, vI (n32 (t.1 + ndf 6 n))), (5, vI (n32 (t.1 + ndf 6 n) - n32 1))] [] m Q E := by
  have np := ndf_pos 6 n
  have nl := ndf_le 6 n
  have go : VLU (D + 1) 2 9 [(0, vR 0 281), (2, vI (n32 (n / 10 ^ 0))), (4, vI (n32 (t.1 + ndf 6 n))), (5, vI (n32 (t.1 + ndf 6 n - 0) - n32 1))] [] m Q E := by
    refine upm (C := fun k m' => VLU (D + 1) 2 9 [(0, vR 0 281), (2, vI (n32 (n / 10 ^ k))), (4, vI (n32 (t.1 + ndf 6 n))), (5, vI (n32 (t.1 + ndf 6 n - k) - n32 1))] [] m' Q E) (Inv := fun k m' => m' 281 0 = n32 t.1 ∧ (∀ j, j < t.1 → m' 282 j = t.2 j) ∧ (∀ i, i < k → m' 282 (t.1 + ndf 6 n - 1 - i) = n32 (48 + n / 10 ^ i % 10)) ∧ FB m m') (n := ndf 6 n) ?_ ?_ 0 m (Nat.zero_le _) ⟨c0.1, c0.2, fun i hi => absurd hi (Nat.not_lt_zero i), fun _ _ _ _ => rfl⟩
    · intro k m1 hk hI ih
      obtain ⟨e1, e2, e3, f1⟩ := hI
      have q7 : n / 10 ^ k < 10000000 := Nat.lt_of_le_of_lt (Nat.div_le_self _ _) h7
      refine w2_9 ?_
      rw [n32_sub (by omega), e1]
      refine ⟨fun c => absurd ((n32_lt (by omega) (by omega)).mp c) (by omega), fun _ => ⟨xin_n (by omega) (by omega), ?_⟩⟩
      rw [n32_mod10 (by omega), n32_add, n32_div (by omega) (by omega), ix_n32 (by omega), ← Int32.sub_eq_add_neg]
      have ed : n / 10 ^ k / 10 = n / 10 ^ (k + 1) := by rw [Nat.div_div_eq_div_mul, Nat.pow_succ]
      rw [ed, show t.1 + ndf 6 n - k - 1 = t.1 + ndf 6 n - (k + 1) by omega]
      refine ih _ ⟨?_, ?_, ?_, ?_⟩
      · rw [um_a (by omega)]; exact e1
      · intro j hj
        rw [um_k (by omega)]; exact e2 j hj
      · intro i hi
        by_cases ei : i = k
        · subst ei
          rw [show t.1 + ndf 6 n - 1 - i = t.1 + ndf 6 n - (i + 1) by omega, um_eq]
        · rw [um_k (by omega)]; exact e3 i (by omega)
      · exact f1.tr (fun b q _ c2 => um_a (by omega))
    · intro m1 hI
      obtain ⟨e1, e2, e3, f1⟩ := hI
      rw [show t.1 + ndf 6 n - ndf 6 n = t.1 by omega]
      refine w2_9 ?_
      rw [e1]
      refine ⟨fun _ => ?_, fun c => absurd (pred_lt _ (by omega)) c⟩
      refine h _ ⟨?_, ?_⟩ (f1.tr (fun b q c1 _ => um_a c1))
      · rw [um_eq, pgn_len]
      · intro j hj
        rw [pgn_len] at hj
        rw [um_a (by omega)]
        by_cases cj : j < t.1
        · rw [pgn_lo _ _ _ _ cj]; exact e2 j cj
        · have hi : t.1 + ndf 6 n - 1 - j < ndf 6 n := by omega
          have a1 := e3 _ hi
          have a2 := pgn_at 6 t n _ (by omega) hi
          rw [show t.1 + ndf 6 n - 1 - (t.1 + ndf 6 n - 1 - j) = j by omega] at a1 a2
          rw [a1, a2]
  rw [Nat.pow_zero, Nat.div_one, Nat.sub_zero] at go
  exact go
/-- a number with its sign behind a page -/
def pgs (t : PGE) (v : Int32) : PGE := if n32 0 ≤ v then pgn 6 t (ix (iabs v)) else pgn 6 (pgb t (n32 45)) (ix (iabs v))
theorem pgs_le (t : PGE) (v : Int32) : (pgs t v).1 ≤ t.1 + 8 := by
  have h := ndf_le 6 (ix (iabs v))
  unfold pgs
  split
  · rw [pgn_len]; omega
  · rw [pgn_len]
    show t.1 + 1 + _ ≤ _
    omega
theorem iabs_ix {v : Int32} (h1 : -11000 ≤ v.toInt) (h2 : v.toInt ≤ 1000000) : iabs v = n32 (ix (iabs v)) ∧ ix (iabs v) ≤ 1000000 := by
  have key : ∃ n, n ≤ 1000000 ∧ iabs v = n32 n := by
    unfold iabs
    split
    · rename_i c
      rw [le_n32] at c
      refine ⟨v.toInt.toNat, by omega, ?_⟩
      apply Int32.toInt_inj.mp
      rw [n32_toInt (by omega)]; omega
    · rename_i c
      rw [le_n32] at c
      refine ⟨(-v.toInt).toNat, by omega, ?_⟩
      apply Int32.toInt_inj.mp
      rw [n32_toInt (by omega), Int32.toInt_neg, Int.bmod_def]
      split <;> omega
  obtain ⟨n, n1, n2⟩ := key
  rw [n2, ix_n32 (by omega)]
  exact ⟨rfl, n1⟩
theorem s2 {t : PGE} {v : Int32} {Q : XM → Prop} (h1 : -11000 ≤ v.toInt) (h2 : v.toInt ≤ 1000000) (hl : t.1 + 8 ≤ 128) (c : WC m t) (h : ∀ m', WC m' (pgs t v) → FB m m' → Q m') : VU (D + 1) 2 [vR 0 281, vI v] m Q E := by
  obtain ⟨i1, i2⟩ := iabs_ix h1 h2
  have e := c.1
  unfold pgs at h
  generalize hn : ix (iabs v) = n at i1 i2 h
  have nl := ndf_le 6 n
  have go : ∀ (t' : PGE) (m' : XM), t'.1 + 7 ≤ 128 → WC m' t' → (∀ m2, WC m2 (pgn 6 t' n) → FB m' m2 → Q m2) → VLU (D + 1) 2 3 [(0, vR 0 281), (2, vI (n32 n)), (3, vI (n32 1)), (4, vI (n32 n / n32 10))] [] m' Q E := by
    intro t' m' hl' c' h'
    rw [n32_div (by omega) (by omega)]
    refine t2_3 6 n 0 Q (n32 n) (by omega) (by omega) (by omega) ?_
    rw [c'.1, Nat.zero_add, n32_add]
    exact ⟨fun _ => t2_9 (by omega) (by omega) c' h', fun c2 => absurd ((n32_le (by omega) (by omega)).mpr (by omega)) c2⟩
  refine w2_0 ⟨fun c1 => ?_, fun c1 => ⟨fun c2 => ?_, fun _ => ?_⟩⟩
  · rw [if_pos c1] at h
    refine s384 ?_
    rw [i1]
    exact go t m (by omega) c h
  · rw [e] at c2
    exact absurd ((n32_le (by omega) (by omega)).mp c2) (by omega)
  · rw [if_neg c1] at h
    obtain ⟨cb, fb⟩ := WC_b (v := n32 45) c
    rw [e]
    refine ⟨xin_n (by omega) (by omega), s384 ?_⟩
    rw [i1]
    simp (disch := omega) only [um_a, e, n32_add, ix_n32]
    refine go (pgb t (n32 45)) _ (by show t.1 + 1 + 7 ≤ 128; omega) cb ?_
    exact fun m2 c2 f2 => h m2 c2 (fb.tr f2)
/-- the places, with commas -/
def plaP (g : PG) : Nat → PGE
  | 0 => (0, fun _ => 0)
  | n + 1 => pgs (if n = 0 then plaP g n else pgb (plaP g n) (n32 44)) (g (15 + 7 * n + 1))
theorem plaP_s (g : PG) (n : Nat) : plaP g (n + 1) = pgs (if n = 0 then plaP g n else pgb (plaP g n) (n32 44)) (g (15 + 7 * n + 1)) := by rw [plaP]
theorem plaP_le (g : PG) : ∀ n, (plaP g n).1 ≤ 9 * n := by
  intro n
  induction n with
  | zero => exact Nat.le_refl _
  | succ n ih =>
    rw [plaP_s]
    have := pgs_le (if n = 0 then plaP g n else pgb (plaP g n) (n32 44)) (g (15 + 7 * n + 1))
    have e : (if n = 0 then plaP g n else pgb (plaP g n) (n32 44)).1 ≤ (plaP g n).1 + 1 := by
      split
      · exact Nat.le_succ _
      · exact Nat.le_refl _
    omega
theorem t140 {T X : Nat} {Q : Int32 → XM → Prop} (si : SI g T X) (hT : T ≤ 5000) (r : RS m 29 g) (h : ∀ m', WC m' (plaP g (nBr g)) → FB m m' → Q (n32 (plaP g (nBr g)).1) m') : VLI (D + 2) 140 1 [(0, vR 10 0), (1, vI (n32 0))] [] (um m 281 0 (n32 0)) Q E := by
  have w := si.w
  have a2 := w.nb
  refine upm (C := fun i m' => VLI (D + 2) 140 1 [(0, vR 10 0), (1, vI (n32 i))] [] m' Q E) (Inv := fun i m' => WC m' (plaP g i) ∧ FB m m') (n := nBr g) ?_ ?_ 0 _ (Nat.zero_le _) ⟨WC_0 m _, FB_0 m⟩
  · intro i m1 hi hI ih
    obtain ⟨c1, f1⟩ := hI
    have pl := plaP_le g i
    have hx := si.2.2.2.2.1 i hi
    have e0 : m1 (29 + 3) 0 = n32 (nBr g) := by rw [f1 _ _ (by omega) (by omega), r.nb]; exact w.1.1
    have e1 : m1 (29 + 3 + 6) i = g (15 + 7 * i + 1) := by rw [f1 _ _ (by omega) (by omega)]; exact r.pla hi
    have e2 : m1 281 0 = n32 (plaP g i).1 := c1.1
    rw [plaP_s] at ih
    refine w140_1 ?_
    rw [e0]
    refine ⟨fun c => absurd ((n32_le (by omega) (by omega)).mp c) (by omega), fun _ => ⟨fun c => ?_, fun c => ⟨fun c3 => ?_, fun _ => ?_⟩⟩⟩
    · have i0 : i = 0 := by
        have := (n32_le (by omega) (by omega)).mp c
        omega
      rw [if_pos i0] at ih
      rw [ix_n32 (by omega), e1]
      refine ⟨xin_n (by omega) (by omega), s2 (by omega) (by omega) (by omega) c1 ?_⟩
      intro m2 c2 f2
      rw [n32_add]
      exact ih m2 ⟨c2, f1.tr f2⟩
    · rw [e2] at c3
      exact absurd ((n32_le (by omega) (by omega)).mp c3) (by omega)
    · have i0 : ¬ i = 0 := by
        intro e; rw [e] at c; exact c (n32_rfl 0)
      rw [if_neg i0] at ih
      obtain ⟨cb, fb⟩ := WC_b (v := n32 44) c1
      rw [e2]
      refine ⟨xin_n (by omega) (by omega), xin_n (by omega) (by omega), ?_⟩
      simp (disch := omega) only [um_a, e2, n32_add, ix_n32]
      rw [e1]
      refine s2 (by omega) (by omega) (by show (plaP g i).1 + 1 + 8 ≤ 128; omega) cb ?_
      intro m2 c2 f2
      exact ih m2 ⟨c2, (f1.tr fb).tr f2⟩
  · intro m1 hI
    obtain ⟨c1, f1⟩ := hI
    have e0 : m1 (29 + 3) 0 = n32 (nBr g) := by rw [f1 _ _ (by omega) (by omega), r.nb]; exact w.1.1
    have e2 : m1 281 0 = n32 (plaP g (nBr g)).1 := c1.1
    refine w140_1 ?_
    rw [e0, e2]
    exact ⟨fun _ => h m1 c1 f1, fun c => absurd (n32_rfl _) c⟩
theorem s304p {t : PGE} {v : Int32} {m0 : XM} {Q : XM → Prop} (h1 : -11000 ≤ v.toInt) (h2 : v.toInt ≤ 1000000) (hl : t.1 + 7 ≤ 120) (c : WM m0 t) (h : ∀ m', WM m' (pgn 6 t (ix (iabs v))) → FP2 m0 m' → Q m') : VI (D + 15) 384 [vI v] m0 (fun x m1 => VU (D + 15) 304 [vR 11 283, vI x] m1 Q E) E := by
  obtain ⟨i1, i2⟩ := iabs_ix h1 h2
  refine s384 ?_
  rw [i1]
  have nl := ndf_le 6 (ix (iabs v))
  exact s304 6 _ t m0 Q (by omega) (by omega) (by omega) c h
theorem t307 {T X : Nat} {Q : Int32 → XM → Prop} (si : SI g T X) (hT : T ≤ 5000) (hg : m 284 = g) (h : ∀ m', WM m' (plaP g (nBr g)) → FP2 m m' → Q (n32 (plaP g (nBr g)).1) m') : VLI (D + 16) 307 3 [(0, vR 11 283), (1, vI (n32 0))] [] (um m 283 21 (n32 0)) Q E := by
  have w := si.w
  have a2 := w.nb
  have h6 := w.1.1
  have b45 : (n32 45).toInt8.toInt32.toInt8.toInt32 = n32 45 := by decide
  have b44 : (n32 44).toInt8.toInt32.toInt8.toInt32 = n32 44 := by decide
  refine upm (C := fun i m' => VLI (D + 16) 307 3 [(0, vR 11 283), (1, vI (n32 i))] [] m' Q E) (Inv := fun i m' => WM m' (plaP g i) ∧ FP2 m m') (n := nBr g) ?_ ?_ 0 _ (Nat.zero_le _) ⟨WM_0 m _, FP_0 m⟩
  · intro i m1 hi hI ih
    obtain ⟨c1, f1⟩ := hI
    have pl := plaP_le g i
    have hx := si.2.2.2.2.1 i hi
    have e0 : m1 284 = g := funext fun j => by rw [f1 _ _ (by omega) (by omega), hg]
    have e2 : m1 283 21 = n32 (plaP g i).1 := c1.1
    rw [plaP_s] at ih
    -- the number itself, behind a page
    have num : ∀ (t : PGE) (m2 : XM), t.1 + 8 ≤ 120 → WM m2 t → m2 284 = g → (∀ m', WM m' (pgs t (g (15 + 7 * i + 1))) → FP2 m2 m' → VLI (D + 16) 307 3 [(0, vR 11 283), (1, vI (n32 (i + 1)))] [] m' Q E) →
        ((n32 0 ≤ g (15 + 7 * i + 1) → VI (D + 15) 384 [vI (g (15 + 7 * i + 1))] m2 (fun x1 m1 => VU (D + 15) 304 [vR 11 (283), vI x1] m1 (fun m2 => VLI (D + 16) 307 3 [(0, vR 11 (283)), (1, vI (n32 (i + 1)))] [] m2 Q E) E) E) ∧ (¬ n32 0 ≤ g (15 + 7 * i + 1) → (xin (m2 283 21) 120 = true ∧ (∀ μ3 : XM, μ3 = um (um m2 (292) (ix (m2 283 21)) (((((n32 45)).toInt8.toInt32)).toInt8.toInt32)) (283) 21 (((um m2 (292) (ix (m2 283 21)) (((((n32 45)).toInt8.toInt32)).toInt8.toInt32)) 283 21) + (n32 1)) → VI (D + 15) 384 [vI (μ3 284 (15 + 7 * i + 1))] μ3 (fun x4 m4 => VU (D + 15) 304 [vR 11 (283), vI x4] m4 (fun m5 => VLI (D + 16) 307 3 [(0, vR 11 (283)), (1, vI (n32 (i + 1)))] [] m5 Q E) E) E)))) := by
      intro t m2 hl c2 eg h'
      unfold pgs at h'
      refine ⟨fun c => ?_, fun c => ?_⟩
      · rw [if_pos c] at h'
        exact s304p (by omega) (by omega) (by omega) c2 h'
      · rw [if_neg c] at h'
        have e3 := c2.1
        obtain ⟨cb, fb⟩ := WM_b (v := n32 45) c2
        rw [e3, b45]
        refine ⟨xin_n (by omega) (by omega), ?_⟩
        rintro μ rfl
        simp (disch := omega) only [um_a, e3, n32_add, ix_n32]
        rw [eg]
        exact s304p (by omega) (by omega) (by show t.1 + 1 + 7 ≤ 120; omega) cb (fun m' c' f' => h' m' c' (fb.tr f'))
    refine w307_3 ?_
    rw [e0, ix_n32 (show 6 < 2147483648 by omega), h6, n32_mul, n32_add, n32_add, n32_add, ix_n32 (show 15 + 7 * i + 1 < 2147483648 by omega)]
    refine ⟨fun c => absurd ((n32_le (by omega) (by omega)).mp c) (by omega), fun _ => ⟨fun c => ⟨xin_n (by omega) (by omega), ?_⟩, fun c => ?_⟩⟩
    · have i0 : i = 0 := by
        have := (n32_le (by omega) (by omega)).mp c
        omega
      rw [if_pos i0] at ih
      exact num _ m1 (by omega) c1 e0 (fun m' c' f' => ih m' ⟨c', f1.tr f'⟩)
    · have i0 : ¬ i = 0 := by
        intro e; rw [e] at c; exact c (n32_rfl 0)
      rw [if_neg i0] at ih
      obtain ⟨cb, fb⟩ := WM_b (v := n32 44) c1
      rw [e2, b44]
      refine ⟨xin_n (by omega) (by omega), ?_⟩
      rintro μ rfl
      rw [um_a (show 283 ≠ 292 by omega), e2, n32_add, ix_n32 (show (plaP g i).1 < 2147483648 by omega)]
      have eg : um (um m1 292 (plaP g i).1 (n32 44)) 283 21 (n32 ((plaP g i).1 + 1)) 284 = g := by rw [← e0]; exact funext fun j => by rw [um_a (by omega), um_a (by omega)]
      have := num _ _ (by show (plaP g i).1 + 1 + 8 ≤ 120; omega) cb eg (fun m' c' f' => ih m' ⟨c', (f1.tr fb).tr f'⟩)
      refine ⟨xin_n (by omega) (by omega), ?_⟩
      rw [eg]
      exact this
  · intro m1 hI
    obtain ⟨c1, f1⟩ := hI
    have e0 : m1 284 = g := funext fun j => by rw [f1 _ _ (by omega) (by omega), hg]
    have e2 : m1 283 21 = n32 (plaP g (nBr g)).1 := c1.1
    refine w307_3 ?_
    rw [e0, ix_n32 (by omega), h6, e2]
    exact ⟨fun _ => h m1 c1 f1, fun c => absurd (n32_rfl _) c⟩
theorem p_writePlaces {N : Nat} (h : CPL m N) : PRI (D + 20) 140 307 [vR 10 0] [vR 11 283] mpSA m N := by
  unfold PRI
  rcases h.ld with ⟨h1, h2⟩ | ⟨h1, h2, r1, r2, r3, T, hT, si⟩
  · refine w140_0 ⟨fun _ => ?_, fun c => absurd h1 c⟩
    refine w307_0 (s275 ?_)
    rw [h2]
    exact ⟨fun _ => ⟨⟨um_eq _ _ _ _, by decide, by decide⟩, CPL_th h⟩, fun c => absurd rfl c⟩
  · have w := si.w
    have a2 := w.nb
    have a4 := w.ns
    obtain ⟨x1, x2⟩ := fin1 h (show m 284 = m 284 from rfl)
    refine w140_0 ⟨fun c => absurd (h1.symm.trans c) n01, fun _ => ?_⟩
    refine t140 si hT r1 ?_
    intro m2 c2 f2
    have ff : ∀ b k, RELP b k → m2 b k = m b k := fun b k hb => by
      unfold RELP at hb
      exact f2 b k hb.2.1 hb.2.2.1
    have hg2 : m2 284 = m 284 := funext fun k => ff _ _ (by unfold RELP REL; omega)
    have h22 : m2 283 6 = n32 1 := by rw [ff _ _ (by unfold RELP REL; omega)]; exact h2
    refine w307_0 (s275 ?_)
    rw [h22, code0]
    refine ⟨fun c => absurd c n01, fun _ => ?_⟩
    refine t307 si hT (show um m2 283 0 (n32 0) 284 = m 284 by rw [← hg2]; exact funext fun k => um_a (by omega)) ?_
    intro m4 c4 f4
    have pl := plaP_le (m 284) (nBr (m 284))
    have g3 : ∀ b k, RELP b k → m4 b k = m2 b k := fun b k hb => by
      unfold RELP REL at hb
      rw [f4 b k hb.2.2.2.1 hb.2.2.2.2]
      unfold um
      rw [if_neg (by omega)]
    refine ⟨⟨rfl, ?_⟩, page_fin (m1 := m2) (m2 := m4) (t := plaP (m 284) (nBr (m 284))) h (by omega) ff c2 g3 (fun b k hb => ?_) c4 rfl⟩
    · rw [f4 _ _ (by omega) (by omega), um_eq]
    · rw [f4 _ _ (by omega) (by omega), um_a (by omega)]

/-- a byte of a word, in both ways -/
theorem byte_of (v : Int32) (k : Nat) (hk : k < 4) : ∃ n, n < 256 ∧ (v.toUInt32 >>> ((n32 (8 * k)).toUInt32 &&& Int32.toUInt32 31)).toInt32 &&& n32 255 = n32 n ∧ ((v >>> (n32 (8 * k) &&& 31)).toInt8.toInt32).toInt8.toInt32 = (n32 n).toInt8.toInt32 := by
  have hv : v.toInt = (v.toUInt32.toNat : Int) ∨ v.toInt = (v.toUInt32.toNat : Int) - 4294967296 := by
    have e : v.toInt = v.toBitVec.toInt := rfl
    have e2 : v.toUInt32.toNat = v.toBitVec.toNat := rfl
    rw [e, e2, BitVec.toInt_eq_toNat_cond]
    split
    · exact Or.inl rfl
    · exact Or.inr rfl
  have hl : v.toUInt32.toNat < 4294967296 := v.toUInt32.toNat_lt
  have a1 : ∀ k, k < 4 → ((n32 (8 * k)).toUInt32 &&& Int32.toUInt32 31).toNat % 32 = 8 * k := by decide
  have a2 : ∀ k, k < 4 → ((n32 (8 * k) &&& 31 : Int32).toBitVec.smod 32).toNat = 8 * k := by decide
  have u : ((v.toUInt32 >>> ((n32 (8 * k)).toUInt32 &&& Int32.toUInt32 31)).toInt32 &&& n32 255).toBitVec.toNat = v.toUInt32.toNat / 2 ^ (8 * k) % 256 := by
    have e : ((v.toUInt32 >>> ((n32 (8 * k)).toUInt32 &&& Int32.toUInt32 31)).toInt32 &&& n32 255).toBitVec.toNat = (v.toUInt32 >>> ((n32 (8 * k)).toUInt32 &&& Int32.toUInt32 31)).toNat &&& 255 := rfl
    rw [e, UInt32.toNat_shiftRight, a1 k hk, Nat.shiftRight_eq_div_pow]
    exact Nat.and_two_pow_sub_one_eq_mod _ 8
  have s : (v >>> (n32 (8 * k) &&& 31)).toInt = v.toInt / 2 ^ (8 * k) := by
    have e : (v >>> (n32 (8 * k) &&& 31)).toInt = (v.toBitVec.sshiftRight ((n32 (8 * k) &&& 31 : Int32).toBitVec.smod 32).toNat).toInt := rfl
    rw [e, a2 k hk, BitVec.toInt_sshiftRight, Int.shiftRight_eq_div_pow]
    rfl
  generalize v.toUInt32.toNat = U at hv hl u
  refine ⟨U / 2 ^ (8 * k) % 256, Nat.mod_lt _ (by omega), ?_, ?_⟩
  · apply Int32.toBitVec_inj.mp
    apply BitVec.eq_of_toNat_eq
    rw [u]
    have : (n32 (U / 2 ^ (8 * k) % 256)).toBitVec.toNat = U / 2 ^ (8 * k) % 256 % 2 ^ 32 := rfl
    rw [this]
    omega
  · apply Int32.toInt_inj.mp
    have e1 : ∀ x : Int32, x.toInt8.toInt32.toInt = x.toInt.bmod 256 := fun x => by
      rw [Int8.toInt_toInt32, Int32.toInt_toInt8]
    rw [e1, e1, e1, Int.bmod_bmod, s, n32_toInt (by omega)]
    rw [Int.bmod_def, Int.bmod_def]
    have key : v.toInt / 2 ^ (8 * k) % 256 = ((U / 2 ^ (8 * k) % 256 : Nat) : Int) % 256 := by
      match k, hk with
      | 0, _ => rcases hv with hv | hv <;> omega
      | 1, _ => rcases hv with hv | hv <;> omega
      | 2, _ => rcases hv with hv | hv <;> omega
      | 3, _ => rcases hv with hv | hv <;> omega
    rw [show ((256 : Nat) : Int) = 256 from rfl, key]
/-- the buffers hold the same l bytes -/
def BUF (m1 m2 : XM) (l : Nat) : Prop := m1 2 1 = n32 l ∧ m2 283 9 = n32 l ∧ ∀ i, i < l → BY (m1 3 i) (m2 289 i)
def FA1 (m m' : XM) : Prop := ∀ b k, ¬ (b = 2 ∧ k = 1) → b ≠ 3 → m' b k = m b k
def FA2 (m m' : XM) : Prop := ∀ b k, ¬ (b = 283 ∧ k = 9) → b ≠ 289 → m' b k = m b k
theorem FA1.tr {m1 m2 m3 : XM} (h1 : FA1 m1 m2) (h2 : FA1 m2 m3) : FA1 m1 m3 := fun b k c1 c2 => (h2 b k c1 c2).trans (h1 b k c1 c2)
theorem FA2.tr {m1 m2 m3 : XM} (h1 : FA2 m1 m2) (h2 : FA2 m2 m3) : FA2 m1 m3 := fun b k c1 c2 => (h2 b k c1 c2).trans (h1 b k c1 c2)
/-- the bytes of a word, the first one first -/
def wb (v : Int32) (k : Nat) : Int32 := (v.toUInt32 >>> ((n32 (8 * (3 - k))).toUInt32 &&& Int32.toUInt32 31)).toInt32 &&& n32 255
def wr (v : Int32) (k : Nat) : Int32 := ((v >>> (n32 (8 * (3 - k)) &&& 31)).toInt8.toInt32).toInt8.toInt32
theorem wb_wr (v : Int32) {k : Nat} (hk : k < 4) : BY (wb v k) (wr v k) := by
  obtain ⟨n, h1, h2, h3⟩ := byte_of v (3 - k) (by omega)
  exact ⟨n, h1, h2, h3⟩
theorem s82 {v : Int32} {l : Nat} {Q : XM → Prop} (hl : l + 4 ≤ 700) (e : m 2 1 = n32 l) (h : ∀ m', m' 2 1 = n32 (l + 4) → (∀ i, i < l → m' 3 i = m 3 i) → (∀ k, k < 4 → m' 3 (l + k) = wb v k) → FA1 m m' → Q m') : VU D 82 [vR 9 2, vI v] m Q E := by
  have nx : ∀ k, k < 4 → n32 (32 - 8 * k) - n32 8 = if k < 4 then n32 (32 - 8 * k) - n32 8 else n32 0 := fun k hk => by rw [if_pos hk]
  have go : VLU D 82 1 [(0, vR 9 2), (1, vI v), (2, vI (n32 (32 - 8 * 0) - n32 8))] [] m Q E := by
    refine upm (C := fun k m' => VLU D 82 1 [(0, vR 9 2), (1, vI v), (2, vI (n32 (32 - 8 * k) - n32 8))] [] m' Q E) (Inv := fun k m' => m' 2 1 = n32 (l + k) ∧ (∀ i, i < l → m' 3 i = m 3 i) ∧ (∀ j, j < k → m' 3 (l + j) = wb v j) ∧ FA1 m m') (n := 4) ?_ ?_ 0 m (Nat.zero_le _) ⟨e, fun _ _ => rfl, fun j hj => absurd hj (Nat.not_lt_zero j), fun _ _ _ _ => rfl⟩
    · intro k m1 hk hI ih
      obtain ⟨i1, i2, i3, i4⟩ := hI
      refine w82_1 ?_
      rw [n32_sub (by omega), i1, ix_n32 (show l + k < 2147483648 by omega)]
      refine ⟨fun c => absurd ((n32_lt (by omega) (by omega)).mp c) (by omega), fun _ => ⟨fun c => absurd ((n32_le (by omega) (by omega)).mp c) (by omega), fun _ => ⟨xin_n (by omega) (by omega), ?_⟩⟩⟩
      rintro μ rfl
      have e21 : ∀ x : Int32, um m1 (2 + 1) (l + k) x 2 1 = n32 (l + k) := fun x => by rw [um_a (by omega)]; exact i1
      rw [e21, n32_add, ← Int32.sub_eq_add_neg, show 32 - 8 * k - 8 = 32 - 8 * (k + 1) by omega]
      have ew : (v.toUInt32 >>> ((n32 (32 - 8 * (k + 1))).toUInt32 &&& Int32.toUInt32 31)).toInt32 &&& n32 255 = wb v k := by
        unfold wb
        rw [show 32 - 8 * (k + 1) = 8 * (3 - k) by omega]
      rw [ew]
      refine ih _ ⟨um_eq _ _ _ _, ?_, ?_, ?_⟩
      · intro i hi
        rw [um_a (by omega), um_k (by omega)]; exact i2 i hi
      · intro j hj
        rw [um_a (by omega)]
        by_cases ej : j = k
        · subst ej; rw [um_eq]
        · rw [um_k (by omega)]; exact i3 j (by omega)
      · refine i4.tr (fun b q c1 c2 => ?_)
        unfold um
        rw [if_neg c1, if_neg (fun e => c2 e.1)]
    · intro m1 hI
      obtain ⟨i1, i2, i3, i4⟩ := hI
      refine w82_1 ⟨fun _ => h m1 i1 i2 i3 i4, fun c => absurd ?_ c⟩
      decide
  exact w82_0 go
theorem s180 {v : Int32} {l : Nat} {Q : XM → Prop} (hl : l + 4 ≤ 700) (e : m 283 9 = n32 l) (h : ∀ m', m' 283 9 = n32 (l + 4) → (∀ i, i < l → m' 289 i = m 289 i) → (∀ k, k < 4 → m' 289 (l + k) = wr v k) → FA2 m m' → Q m') : VU D 180 [vR 11 283, vI v] m Q E := by
  have go : VLU D 180 1 [(0, vR 11 283), (1, vI v), (2, vI (n32 (4 - 0) - n32 1))] [] m Q E := by
    refine upm (C := fun k m' => VLU D 180 1 [(0, vR 11 283), (1, vI v), (2, vI (n32 (4 - k) - n32 1))] [] m' Q E) (Inv := fun k m' => m' 283 9 = n32 (l + k) ∧ (∀ i, i < l → m' 289 i = m 289 i) ∧ (∀ j, j < k → m' 289 (l + j) = wr v j) ∧ FA2 m m') (n := 4) ?_ ?_ 0 m (Nat.zero_le _) ⟨e, fun _ _ => rfl, fun j hj => absurd hj (Nat.not_lt_zero j), fun _ _ _ _ => rfl⟩
    · intro k m1 hk hI ih
      obtain ⟨i1, i2, i3, i4⟩ := hI
      refine w180_1 ?_
      rw [n32_sub (by omega), i1, ix_n32 (show l + k < 2147483648 by omega)]
      refine ⟨fun c => absurd ((n32_lt (by omega) (by omega)).mp c) (by omega), fun _ => ⟨xin_n (by omega) (by omega), ?_⟩⟩
      rintro μ rfl
      have e21 : ∀ x : Int32, um m1 289 (l + k) x 283 9 = n32 (l + k) := fun x => by rw [um_a (by omega)]; exact i1
      rw [e21, n32_add, ← Int32.sub_eq_add_neg, n32_mul, show 4 - k - 1 = 4 - (k + 1) by omega]
      have ew : ((v >>> (n32 (8 * (4 - (k + 1))) &&& 31)).toInt8.toInt32).toInt8.toInt32 = wr v k := by
        unfold wr
        rw [show 4 - (k + 1) = 3 - k by omega]
      rw [ew]
      refine ih _ ⟨um_eq _ _ _ _, ?_, ?_, ?_⟩
      · intro i hi
        rw [um_a (by omega), um_k (by omega)]; exact i2 i hi
      · intro j hj
        rw [um_a (by omega)]
        by_cases ej : j = k
        · subst ej; rw [um_eq]
        · rw [um_k (by omega)]; exact i3 j (by omega)
      · refine i4.tr (fun b q c1 c2 => ?_)
        unfold um
        rw [if_neg c1, if_neg (fun e => c2 e.1)]
    · intro m1 hI
      obtain ⟨i1, i2, i3, i4⟩ := hI
      refine w180_1 ⟨fun _ => h m1 i1 i2 i3 i4, fun c => absurd ?_ c⟩
      decide
  exact w180_0 go
/-- behind an append: the coupling of what was not touched -/
theorem CPL_buf {m m' : XM} {N l : Nat} (h : CPL m N) (f : ∀ b k, REL b k → b ≠ 3 → b ≠ 289 → ¬ (b = 2 ∧ k = 1) → ¬ (b = 283 ∧ k = 9) → m' b k = m b k) (l7 : l ≤ 700) (hb : BUF m' m' l) : CPL m' N := by
  have fx : ∀ b k, REL b k → b ≠ 3 → b ≠ 289 → ¬ (b = 2 ∧ k = 1) → ¬ (b = 283 ∧ k = 9) → m' b k = m b k := f
  let m0 : XM := fun b k => if b = 3 ∨ b = 289 ∨ (b = 2 ∧ k = 1) ∨ (b = 283 ∧ k = 9) then m b k else m' b k
  have e0 : ∀ b k, ¬ (b = 3 ∨ b = 289 ∨ (b = 2 ∧ k = 1) ∨ (b = 283 ∧ k = 9)) → m0 b k = m' b k := fun b k hn => if_neg hn
  have h0 : CPL m0 N := CPL_fr h (Nat.le_refl _) (fun b k hr => by
    show (if _ then _ else _) = _
    split
    · rfl
    · rename_i hn
      exact fx b k hr (fun e => hn (Or.inl e)) (fun e => hn (Or.inr (Or.inl e))) (fun e => hn (Or.inr (Or.inr (Or.inl e)))) (fun e => hn (Or.inr (Or.inr (Or.inr e)))))
  obtain ⟨⟨a1, a2⟩, a3, ⟨o, k, b1, b2, b3, b4, b5, b6, b7⟩, c1, -, ⟨e1, e2⟩, p, p1, p2, p3, p4⟩ := h0
  have z : ∀ b k, b ≠ 3 → b ≠ 289 → b ≠ 2 → ¬ (b = 283 ∧ k = 9) → m' b k = m0 b k := fun b k z1 z2 z3 z4 => (e0 b k (by omega)).symm
  have zg : m' 284 = m0 284 := funext fun k => z _ _ (by omega) (by omega) (by omega) (by omega)
  have zs : ∀ b j, (b = 286 ∨ b = 287) → slG m' b j = slG m0 b j := fun b j hb => funext fun i => z _ _ (by omega) (by omega) (by omega) (by omega)
  have fR : ∀ d k, d < 5 → m' (69 + d) k = m0 (69 + d) k := fun d k hd => z _ _ (by omega) (by omega) (by omega) (by omega)
  have fS : ∀ a, 29 ≤ a → a + 20 ≤ 278 → ∀ d k, d < 20 → d ≠ 10 → m' (a + d) k = m0 (a + d) k := fun a ha ha2 d k hd _ => z _ _ (by omega) (by omega) (by omega) (by omega)
  have z07 := z 0 7 (by omega) (by omega) (by omega) (by omega)
  refine ⟨⟨?_, ?_⟩, ?_, ⟨o, k, ?_, b2, ?_, b4, ?_, ?_, ?_⟩, ?_, ⟨l, l7, hb.1, hb.2.1, hb.2.2⟩, ⟨?_, ?_⟩, p, p1, ?_, ?_, ?_⟩
  · rw [z07, z 283 6 (by omega) (by omega) (by omega) (by omega)]; exact a1
  · rw [z07]; exact a2
  · rw [z07]; intro h; exact SS_eq (a3 h) (Nat.le_refl _) zg (fS 29 (by omega) (by omega)) fR
  · rw [z 74 0 (by omega) (by omega) (by omega) (by omega)]; exact b1
  · rw [z 74 1 (by omega) (by omega) (by omega) (by omega)]; exact b3
  · rw [z 283 7 (by omega) (by omega) (by omega) (by omega)]; exact b5
  · rw [z07]; exact b6
  · intro j hj
    have : (o + j) % 8 < 8 := Nat.mod_lt _ (by omega)
    exact SS_eq (b7 j hj) (Nat.le_refl _) (zs _ _ (Or.inl rfl)) (fS _ (by omega) (by omega)) fR
  · intro s hs
    obtain ⟨q1, q2⟩ := c1 s hs
    rw [z 77 s (by omega) (by omega) (by omega) (by omega), z 288 s (by omega) (by omega) (by omega) (by omega), z07]
    refine ⟨q1, ?_⟩
    rcases q2 with q2 | ⟨q2, q3, q4⟩
    · exact Or.inl q2
    · exact Or.inr ⟨q2, q3, SS_eq q4 (Nat.le_refl _) (zs _ _ (Or.inr rfl)) (fS _ (by omega) (by omega)) fR⟩
  · rw [z 1 3 (by omega) (by omega) (by omega) (by omega), z 283 10 (by omega) (by omega) (by omega) (by omega)]; exact e1
  · rw [z 1 4 (by omega) (by omega) (by omega) (by omega), z 283 11 (by omega) (by omega) (by omega) (by omega)]; exact e2
  · rw [z 281 0 (by omega) (by omega) (by omega) (by omega)]; exact p2
  · rw [z 283 21 (by omega) (by omega) (by omega) (by omega)]; exact p3
  · intro i hi
    rw [z 282 i (by omega) (by omega) (by omega) (by omega), z 292 i (by omega) (by omega) (by omega) (by omega)]; exact p4 i hi
theorem by_next {m1 m1' m2 m2' : XM} {v : Int32} {l : Nat} (h : ∀ i, i < l → BY (m1 3 i) (m2 289 i)) (a1 : ∀ i, i < l → m1' 3 i = m1 3 i) (a2 : ∀ k, k < 4 → m1' 3 (l + k) = wb v k) (b1 : ∀ i, i < l → m2' 289 i = m2 289 i) (b2 : ∀ k, k < 4 → m2' 289 (l + k) = wr v k) : ∀ i, i < l + 4 → BY (m1' 3 i) (m2' 289 i) := by
  intro i hi
  by_cases c : i < l
  · rw [a1 i c, b1 i c]; exact h i c
  · have e : i = l + (i - l) := by omega
    rw [e, a2 _ (by omega), b2 _ (by omega)]
    exact wb_wr v (by omega)
theorem p_append {v1 v2 v3 v4 v5 : Int32} {N : Nat} (h : CPL m N) : PRI (D + 12) 91 179 [vR 10 0, vI v1, vI v2, vI v3, vI v4, vI v5] [vR 11 283, vI v1, vI v2, vI v3, vI v4, vI v5] mpSA m N := by
  unfold PRI
  obtain ⟨-, -, -, -, ⟨l, d1, d2, d3, d4⟩, -⟩ := id h
  refine w91_0 (w81_0 ?_)
  have d2' : m (1 + 1) 1 = n32 l := d2
  have u9 : um m 283 0 (n32 0) 283 9 = n32 l := by rw [um_k (by omega)]; exact d3
  rw [d2', n32_add]
  by_cases c : l + 20 ≤ 700
  · refine ⟨fun _ => ?_, fun c' => absurd ((n32_le (by omega) (by omega)).mpr c) c'⟩
    refine s82 (l := l) (by omega) d2' ?_
    intro m1 e1 a1 b1 f1
    refine s82 (l := l + 4) (by omega) e1 ?_
    intro m2 e2 a2 b2 f2
    refine s82 (l := l + 4 + 4) (by omega) e2 ?_
    intro m3 e3 a3 b3 f3
    refine s82 (l := l + 4 + 4 + 4) (by omega) e3 ?_
    intro m4 e4 a4 b4 f4
    refine s82 (l := l + 4 + 4 + 4 + 4) (by omega) e4 ?_
    intro m5 e5 a5 b5 f5
    have fc := (((f1.tr f2).tr f3).tr f4).tr f5
    have e5' : m5 (1 + 1) 1 = n32 (l + 4 + 4 + 4 + 4 + 4) := e5
    rw [e5']
    have v9 : um m5 283 0 (n32 0) 283 9 = n32 l := by rw [um_k (by omega), fc _ _ (by omega) (by omega)]; exact d3
    refine w179_0 ⟨fun _ => ?_, fun c' => absurd (by rw [v9]; exact (n32_le (by omega) (by omega)).mpr (by omega)) c'⟩
    refine s180 (l := l) (by omega) v9 ?_
    intro n1 g1 x1 y1 k1
    refine s180 (l := l + 4) (by omega) g1 ?_
    intro n2 g2 x2 y2 k2
    refine s180 (l := l + 4 + 4) (by omega) g2 ?_
    intro n3 g3 x3 y3 k3
    refine s180 (l := l + 4 + 4 + 4) (by omega) g3 ?_
    intro n4 g4 x4 y4 k4
    refine s180 (l := l + 4 + 4 + 4 + 4) (by omega) g4 ?_
    intro n5 g5 x5 y5 k5
    have kc := (((k1.tr k2).tr k3).tr k4).tr k5
    have z0 : ∀ i, i < l → BY (m 3 i) (um m5 283 0 (n32 0) 289 i) := fun i hi => by rw [um_a (by omega), fc _ _ (by omega) (by omega)]; exact d4 i hi
    have z1 := by_next z0 a1 b1 x1 y1
    have z2 := by_next z1 a2 b2 x2 y2
    have z3 := by_next z2 a3 b3 x3 y3
    have z4 := by_next z3 a4 b4 x4 y4
    have z5 := by_next z4 a5 b5 x5 y5
    have fin : ∀ b k, b ≠ 289 → ¬ (b = 283 ∧ k = 9) → ¬ (b = 283 ∧ k = 0) → n5 b k = m5 b k := fun b k q1 q2 q3 => by
      rw [kc b k q2 q1]
      unfold um; rw [if_neg q3]
    rw [g5]
    refine ⟨⟨rfl, by rw [kc _ _ (by omega) (by omega), um_eq]⟩, CPL_buf (l := l + 4 + 4 + 4 + 4 + 4) h ?_ (by omega) ⟨?_, g5, ?_⟩⟩
    · intro b k hr q1 q2 q3 q4
      unfold REL at hr
      rw [fin b k q2 q4 (by omega)]
      exact fc b k q3 q1
    · rw [fin _ _ (by omega) (by omega) (by omega)]; exact e5
    · intro i hi
      rw [fin 3 i (by omega) (by omega) (by omega)]
      exact z5 i hi
  · refine ⟨fun c' => absurd ((n32_le (by omega) (by omega)).mp c') c, fun _ => ?_⟩
    refine w179_0 ⟨fun c' => ?_, fun _ => ⟨⟨rfl, um_eq _ _ _ _⟩, CPL_th h⟩⟩
    rw [u9] at c'
    exact absurd ((n32_le (by omega) (by omega)).mp c') (by omega)
end S94
