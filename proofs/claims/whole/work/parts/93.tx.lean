/-! Texts that are written; pairs: writeStand, writeRow, writePlaces, textByte. -/
def RELP (b k : Nat) : Prop := REL b k ∧ b ≠ 281 ∧ b ≠ 282 ∧ b ≠ 292 ∧ ¬ (b = 283 ∧ k = 21)
theorem CPL_pg {m m' : XM} {N N' p : Nat} (h : CPL m N) (hN : N ≤ N') (f : ∀ b k, RELP b k → m' b k = m b k) (p1 : p ≤ 120) (p2 : m' 281 0 = n32 p) (p3 : m' 283 21 = n32 p) (p4 : ∀ i, i < p → m' 282 i = m' 292 i) : CPL m' N' := by
  obtain ⟨⟨a1, a2⟩, a3, ⟨o, k, b1, b2, b3, b4, b5, b6, b7⟩, c1, ⟨l, d1, d2, d3, d4⟩, ⟨e1, e2⟩, -⟩ := h
  have f07 : m' 0 7 = m 0 7 := f _ _ (by unfold RELP REL; omega)
  have fR : ∀ d k, d < 5 → m' (69 + d) k = m (69 + d) k := fun d k hd => f _ _ (by unfold RELP REL; omega)
  have fS : ∀ a, (a = 29 ∨ (78 ≤ a ∧ a + 20 ≤ 278)) → ∀ d k, d < 20 → d ≠ 10 → m' (a + d) k = m (a + d) k := fun a ha d k hd _ => f _ _ (by unfold RELP REL; omega)
  have fg : m' 284 = m 284 := funext fun k => f _ _ (by unfold RELP REL; omega)
  have fu : ∀ b j, (b = 286 ∨ b = 287) → slG m' b j = slG m b j := fun b j hb => funext fun i => f _ _ (by unfold RELP REL; omega)
  refine ⟨⟨?_, ?_⟩, ?_, ⟨o, k, ?_, b2, ?_, b4, ?_, ?_, ?_⟩, ?_, ⟨l, d1, ?_, ?_, ?_⟩, ⟨?_, ?_⟩, p, p1, p2, p3, p4⟩
  · rw [f07, f 283 6 (by unfold RELP REL; omega)]; exact a1
  · rw [f07]; exact a2
  · rw [f07]; intro h; exact SS_eq (a3 h) hN fg (fS 29 (Or.inl rfl)) fR
  · rw [f 74 0 (by unfold RELP REL; omega)]; exact b1
  · rw [f 74 1 (by unfold RELP REL; omega)]; exact b3
  · rw [f 283 7 (by unfold RELP REL; omega)]; exact b5
  · rw [f07]; exact b6
  · intro j hj
    have : (o + j) % 8 < 8 := Nat.mod_lt _ (by omega)
    exact SS_eq (b7 j hj) hN (fu _ _ (Or.inl rfl)) (fS _ (Or.inr (by omega))) fR
  · intro s hs
    obtain ⟨q1, q2⟩ := c1 s hs
    rw [f 77 s (by unfold RELP REL; omega), f 288 s (by unfold RELP REL; omega), f07]
    refine ⟨q1, ?_⟩
    rcases q2 with q2 | ⟨q2, q3, q4⟩
    · exact Or.inl q2
    · exact Or.inr ⟨q2, q3, SS_eq q4 hN (fu _ _ (Or.inr rfl)) (fS _ (Or.inr (by omega))) fR⟩
  · rw [f 2 1 (by unfold RELP REL; omega)]; exact d2
  · rw [f 283 9 (by unfold RELP REL; omega)]; exact d3
  · intro i hi
    rw [f 3 i (by unfold RELP REL; omega), f 289 i (by unfold RELP REL; omega)]; exact d4 i hi
  · rw [f 1 3 (by unfold RELP REL; omega), f 283 10 (by unfold RELP REL; omega)]; exact e1
  · rw [f 1 4 (by unfold RELP REL; omega), f 283 11 (by unfold RELP REL; omega)]; exact e2
abbrev PGE : Type := Nat × (Nat → Int32)
def pgb (t : PGE) (v : Int32) : PGE := (t.1 + 1, fun j => if j = t.1 then v else t.2 j)
def WC (m : XM) (t : PGE) : Prop := m 281 0 = n32 t.1 ∧ ∀ j, j < t.1 → m 282 j = t.2 j
def WM (m : XM) (t : PGE) : Prop := m 283 21 = n32 t.1 ∧ ∀ j, j < t.1 → m 292 j = t.2 j
def FB (m m' : XM) : Prop := ∀ b k, b ≠ 281 → b ≠ 282 → m' b k = m b k
def FP2 (m m' : XM) : Prop := ∀ b k, b ≠ 292 → ¬ (b = 283 ∧ k = 21) → m' b k = m b k
theorem FB.tr {m1 m2 m3 : XM} (h1 : FB m1 m2) (h2 : FB m2 m3) : FB m1 m3 := fun b k c1 c2 => (h2 b k c1 c2).trans (h1 b k c1 c2)
theorem FP2.tr {m1 m2 m3 : XM} (h1 : FP2 m1 m2) (h2 : FP2 m2 m3) : FP2 m1 m3 := fun b k c1 c2 => (h2 b k c1 c2).trans (h1 b k c1 c2)
theorem WC_b {m : XM} {t : PGE} {v : Int32} (h : WC m t) : WC (um (um m 282 t.1 v) 281 0 (n32 (t.1 + 1))) (pgb t v) ∧ FB m (um (um m 282 t.1 v) 281 0 (n32 (t.1 + 1))) := by
  refine ⟨⟨um_eq _ _ _ _, fun j hj => ?_⟩, fun b k c1 c2 => by rw [um_a c1, um_a c2]⟩
  unfold pgb at hj ⊢
  dsimp only at hj ⊢
  rw [um_a (by omega)]
  by_cases e : j = t.1
  · subst e; rw [um_eq, if_pos rfl]
  · rw [um_k e, if_neg e]; exact h.2 j (by omega)
theorem WM_b {m : XM} {t : PGE} {v : Int32} (h : WM m t) : WM (um (um m 292 t.1 v) 283 21 (n32 (t.1 + 1))) (pgb t v) ∧ FP2 m (um (um m 292 t.1 v) 283 21 (n32 (t.1 + 1))) := by
  refine ⟨⟨um_eq _ _ _ _, fun j hj => ?_⟩, fun b k c1 c2 => by unfold um; rw [if_neg c2, if_neg (fun e => c1 e.1)]⟩
  unfold pgb at hj ⊢
  dsimp only at hj ⊢
  rw [um_a (by omega)]
  by_cases e : j = t.1
  · subst e; rw [um_eq, if_pos rfl]
  · rw [um_k e, if_neg e]; exact h.2 j (by omega)
theorem byt : ∀ n, n < 128 → (n32 n).toInt8.toInt32 = n32 n := by decide +kernel
theorem byt2 {v : Int32} (h : inR v 0 127) : v.toInt8.toInt32.toInt8.toInt32 = v := by
  obtain ⟨n, -, h2, rfl⟩ := h
  rw [byt n (by omega), byt n (by omega)]
/-- the bytes of a text are blanks and letters -/
def txvG (t : TX) : Prop := ∀ j, j < t.1 → inR (t.2.2.1 j) 0 127
theorem txv_1 {t : TX} {v : Int32} {b : Nat} (h : txvG t) (hv : inR v 0 127) : txvG (tx1 t v b) := by
  intro j hj
  unfold tx1 at hj ⊢
  dsimp only at hj ⊢
  split
  · exact hv
  · exact h j (by omega)
theorem txv_0 {t : TX} (h : txvG t) : txvG (tx0 t) := by
  intro j hj
  unfold tx0 at hj ⊢
  dsimp only at hj ⊢
  split
  · exact ⟨32, by omega, by omega, rfl⟩
  · exact h j (by omega)
theorem txv_G {g : PG} (w : WF g) (s : Nat) : ∀ k, k ≤ nBr g → txvG (txG g s k) := by
  intro k
  induction k with
  | zero => intro _ j hj; exact absurd hj (Nat.not_lt_zero j)
  | succ k ih =>
    intro hk
    have e : txG g s (k + 1) = txStep g s k (txG g s k) := rfl
    have ih := ih (by omega)
    rw [e]
    generalize txG g s k = t at ih
    have hv : inR (n32 96 + g (15 + 7 * ordG g s k)) 0 127 := by
      obtain ⟨n, h1, h2, h3⟩ := w.b0 (ordG_lt (s := s) (show k < nBr g by omega))
      exact ⟨96 + n, by omega, by omega, by rw [h3, n32_add]⟩
    unfold txStep
    split
    · split
      · exact txv_1 (txv_0 ih) hv
      · exact txv_1 ih hv
    · exact ih
/-- both pages are the same behind a pair -/
theorem page_fin {m m1 m2 mf : XM} {N : Nat} {t : PGE} (h : CPL m N) (hp : t.1 ≤ 120) (f1 : ∀ b k, RELP b k → m1 b k = m b k) (c1 : WC m1 t) (f2 : ∀ b k, RELP b k → m2 b k = m1 b k) (e2 : ∀ b k, b = 281 ∨ b = 282 → m2 b k = m1 b k) (c2 : WM m2 t) (hf : mf = m2) : CPL mf N := by
  subst hf
  refine CPL_pg (p := t.1) h (Nat.le_refl _) (fun b k hb => (f2 b k hb).trans (f1 b k hb)) hp (by rw [e2 _ _ (Or.inl rfl)]; exact c1.1) c2.1 (fun i hi => ?_)
  rw [e2 _ _ (Or.inr rfl), c1.2 i hi, c2.2 i hi]
def mpPB (_ : Nat) : Nat := 1
theorem pidx_cases (v : Int32) {n : Nat} (hn : n ≤ 120) : v < n32 0 ∨ (¬ v < n32 0 ∧ n32 n ≤ v ∧ n32 n - n32 1 < v) ∨ ∃ i, i < n ∧ v = n32 i := by
  by_cases c1 : v < n32 0
  · exact Or.inl c1
  · right
    have e : (n32 n - n32 1).toInt = (n : Int) - 1 := by
      have : ∀ n, n < 121 → (n32 n - n32 1).toInt = (n : Int) - 1 := by decide
      exact this n (by omega)
    by_cases c2 : n32 n ≤ v
    · refine Or.inl ⟨c1, c2, ?_⟩
      rw [Int32.lt_iff_toInt_lt, e]
      rw [Int32.le_iff_toInt_le, n32_toInt (by omega)] at c2
      omega
    · right
      rw [Int32.lt_iff_toInt_lt, n32_toInt (by omega)] at c1
      rw [Int32.le_iff_toInt_le, n32_toInt (by omega)] at c2
      refine ⟨v.toInt.toNat, by omega, ?_⟩
      apply Int32.toInt_inj.mp
      rw [n32_toInt (by omega)]; omega
section S93
variable {D : Nat} {m : XM} {g : PG} {E : Nat → XM → Prop}
theorem WC_0 (m : XM) (f : Nat → Int32) : WC (um m 281 0 (n32 0)) (0, f) := ⟨um_eq _ _ _ _, fun j hj => absurd hj (Nat.not_lt_zero j)⟩
theorem WM_0 (m : XM) (f : Nat → Int32) : WM (um m 283 21 (n32 0)) (0, f) := ⟨um_eq _ _ _ _, fun j hj => absurd hj (Nat.not_lt_zero j)⟩
theorem FB_0 (m : XM) : FB m (um m 281 0 (n32 0)) := fun b k c1 _ => um_a c1
theorem FP_0 (m : XM) : FP2 m (um m 283 21 (n32 0)) := fun b k _ c2 => by unfold um; rw [if_neg c2]
/-- the first i bytes of f -/
theorem pg_next (f : Nat → Int32) (i : Nat) {m : XM} (h : WC m (pgb (i, f) (f i))) : WC m (i + 1, f) := by
  refine ⟨h.1, fun j hj => ?_⟩
  have := h.2 j hj
  unfold pgb at this
  dsimp only at this
  rw [this]
  split
  · rename_i e; rw [e]
  · rfl
theorem pgm_next (f : Nat → Int32) (i : Nat) {m : XM} (h : WM m (pgb (i, f) (f i))) : WM m (i + 1, f) := by
  refine ⟨h.1, fun j hj => ?_⟩
  have := h.2 j hj
  unfold pgb at this
  dsimp only at this
  rw [this]
  split
  · rename_i e; rw [e]
  · rfl
theorem t138 {t : TX} {Q : Int32 → XM → Prop} (hT : RR m 278 t) (tl : t.1 ≤ 24) (h : ∀ m', WC m' (t.1, t.2.2.1) → FB m m' → Q (n32 t.1) m') : VLI (D + 4) 138 1 [(0, vR 10 0), (2, vR 5 278), (3, vI (n32 0))] [] (um m 281 0 (n32 0)) Q E := by
  obtain ⟨h1, h2, h3, h4⟩ := hT
  refine upm (C := fun i m' => VLI (D + 4) 138 1 [(0, vR 10 0), (2, vR 5 278), (3, vI (n32 i))] [] m' Q E) (Inv := fun i m' => WC m' (i, t.2.2.1) ∧ FB m m') (n := t.1) ?_ ?_ 0 _ (Nat.zero_le _) ⟨WC_0 m _, FB_0 m⟩
  · intro i m1 hi hI ih
    obtain ⟨c1, f1⟩ := hI
    have e0 : m1 278 0 = n32 t.1 := by rw [f1 _ _ (by omega) (by omega)]; exact h1
    have e1 : m1 (278 + 1) i = t.2.2.1 i := by rw [f1 _ _ (by omega) (by omega)]; exact h3 i hi
    have e2 : m1 281 0 = n32 i := c1.1
    obtain ⟨c2, f2⟩ := WC_b (v := t.2.2.1 i) c1
    refine w138_1 ?_
    simp (disch := omega) only [e0, e1, e2, um_a, le_f, lt_f, xin_t, ix_n32, n32_add, false_implies, true_implies, not_false_eq_true, true_and]
    exact ih _ ⟨pg_next _ i c2, f1.tr f2⟩
  · intro m1 hI
    obtain ⟨c1, f1⟩ := hI
    have e0 : m1 278 0 = n32 t.1 := by rw [f1 _ _ (by omega) (by omega)]; exact h1
    have e2 : m1 281 0 = n32 t.1 := c1.1
    refine w138_1 ?_
    rw [e0, e2]
    exact ⟨fun _ => h m1 c1 f1, fun c => absurd (n32_rfl _) c⟩
theorem t305 {t : TX} {Q : Int32 → XM → Prop} (hT : TXF m t) (tl : t.1 ≤ 24) (hv : txvG t) (h : ∀ m', WM m' (t.1, t.2.2.1) → FP2 m m' → Q (n32 t.1) m') : VLI (D + 3) 305 3 [(0, vR 11 283), (2, vI (n32 0))] [] (um m 283 21 (n32 0)) Q E := by
  obtain ⟨h1, h2⟩ := hT
  refine upm (C := fun i m' => VLI (D + 3) 305 3 [(0, vR 11 283), (2, vI (n32 i))] [] m' Q E) (Inv := fun i m' => WM m' (i, t.2.2.1) ∧ FP2 m m') (n := t.1) ?_ ?_ 0 _ (Nat.zero_le _) ⟨WM_0 m _, FP_0 m⟩
  · intro i m1 hi hI ih
    obtain ⟨c1, f1⟩ := hI
    have e0 : m1 283 18 = n32 t.1 := by rw [f1 _ _ (by omega) (by omega)]; exact h1
    have e1 : m1 290 i = t.2.2.1 i := by rw [f1 _ _ (by omega) (by omega)]; exact h2 i hi
    have e2 : m1 283 21 = n32 i := c1.1
    obtain ⟨c2, f2⟩ := WM_b (v := t.2.2.1 i) c1
    refine w305_3 ?_
    simp (disch := omega) only [e0, e1, e2, byt2 (hv i hi), um_a, le_f, xin_t, ix_n32, n32_add, false_implies, true_implies, not_false_eq_true, true_and]
    rintro μ rfl
    exact ih _ ⟨pgm_next _ i c2, f1.tr f2⟩
  · intro m1 hI
    obtain ⟨c1, f1⟩ := hI
    have e0 : m1 283 18 = n32 t.1 := by rw [f1 _ _ (by omega) (by omega)]; exact h1
    have e2 : m1 283 21 = n32 t.1 := c1.1
    refine w305_3 ?_
    rw [e0, e2]
    exact ⟨fun _ => h m1 c1 f1, fun c => absurd (n32_rfl _) c⟩
def rowV (g : PG) (b : Nat) : Int32 := if g (15 + 7 * b) = n32 0 then n32 45 else n32 96 + g (15 + 7 * b)
theorem rowV_R (w : WF g) {b : Nat} (hb : b < nBr g) : inR (rowV g b) 0 127 := by
  unfold rowV
  split
  · exact ⟨45, by omega, by omega, rfl⟩
  · obtain ⟨n, h1, h2, h3⟩ := w.b0 hb
    exact ⟨96 + n, by omega, by omega, by rw [h3, n32_add]⟩
theorem t139 {Q : Int32 → XM → Prop} (w : WF g) (r : RS m 29 g) (h : ∀ m', WC m' (nBr g, rowV g) → FB m m' → Q (n32 (nBr g)) m') : VLI (D + 1) 139 1 [(0, vR 10 0), (1, vI (n32 0))] [] (um m 281 0 (n32 0)) Q E := by
  have a2 := w.nb
  refine upm (C := fun i m' => VLI (D + 1) 139 1 [(0, vR 10 0), (1, vI (n32 i))] [] m' Q E) (Inv := fun i m' => WC m' (i, rowV g) ∧ FB m m') (n := nBr g) ?_ ?_ 0 _ (Nat.zero_le _) ⟨WC_0 m _, FB_0 m⟩
  · intro i m1 hi hI ih
    obtain ⟨c1, f1⟩ := hI
    have e0 : m1 (29 + 3) 0 = n32 (nBr g) := by rw [f1 _ _ (by omega) (by omega), r.nb]; exact w.1.1
    have e1 : m1 (29 + 3 + 5) i = g (15 + 7 * i) := by rw [f1 _ _ (by omega) (by omega)]; exact r.ban hi
    have e2 : m1 281 0 = n32 i := c1.1
    obtain ⟨c2, f2⟩ := WC_b (v := rowV g i) c1
    have ih := ih _ ⟨pg_next _ i c2, f1.tr f2⟩
    unfold rowV at ih
    refine w139_1 ?_
    simp (disch := omega) only [e0, e1, e2, um_a, le_f, xin_t, ix_n32, n32_add, false_implies, true_implies, not_false_eq_true, true_and]
    by_cases c : g (15 + 7 * i) = n32 0
    · rw [if_pos c] at ih
      exact ⟨fun _ => ih, fun c' => absurd c c'⟩
    · rw [if_neg c] at ih
      refine ⟨fun c' => absurd c' c, fun _ => ?_⟩
      rintro μ rfl
      exact ih
  · intro m1 hI
    obtain ⟨c1, f1⟩ := hI
    have e0 : m1 (29 + 3) 0 = n32 (nBr g) := by rw [f1 _ _ (by omega) (by omega), r.nb]; exact w.1.1
    have e2 : m1 281 0 = n32 (nBr g) := c1.1
    refine w139_1 ?_
    rw [e0, e2]
    exact ⟨fun _ => h m1 c1 f1, fun c => absurd (n32_rfl _) c⟩
theorem t306 {Q : Int32 → XM → Prop} (w : WF g) (hg : m 284 = g) (h : ∀ m', WM m' (nBr g, rowV g) → FP2 m m' → Q (n32 (nBr g)) m') : VLI (D + 2) 306 3 [(0, vR 11 283), (1, vI (n32 0))] [] (um m 283 21 (n32 0)) Q E := by
  have a2 := w.nb
  have h6 := w.1.1
  refine upm (C := fun i m' => VLI (D + 2) 306 3 [(0, vR 11 283), (1, vI (n32 i))] [] m' Q E) (Inv := fun i m' => WM m' (i, rowV g) ∧ FP2 m m') (n := nBr g) ?_ ?_ 0 _ (Nat.zero_le _) ⟨WM_0 m _, FP_0 m⟩
  · intro i m1 hi hI ih
    obtain ⟨c1, f1⟩ := hI
    have e0 : m1 284 = g := funext fun j => by rw [f1 _ _ (by omega) (by omega), hg]
    have e2 : m1 283 21 = n32 i := c1.1
    obtain ⟨c2, f2⟩ := WM_b (v := rowV g i) c1
    have ih := ih _ ⟨pgm_next _ i c2, f1.tr f2⟩
    have bv := byt2 (rowV_R w hi)
    unfold rowV at ih bv
    refine w306_3 ?_
    simp (disch := omega) only [e0, e2, h6, um_a, n32_mul, Nat.add_zero, le_f, xin_t, ix_n32, n32_add, false_implies, true_implies, not_false_eq_true, true_and]
    by_cases c : g (15 + 7 * i) = n32 0
    · rw [if_pos c] at ih bv
      refine ⟨fun _ => ?_, fun c' => absurd ((weak_iff w hi).mp c) c'⟩
      rintro μ rfl
      rw [bv]
      exact ih
    · rw [if_neg c] at ih bv
      refine ⟨fun c' => absurd ((weak_iff w hi).mpr c') c, fun _ => ?_⟩
      rintro μ rfl
      rw [bv]
      exact ih
  · intro m1 hI
    obtain ⟨c1, f1⟩ := hI
    have e0 : m1 284 = g := funext fun j => by rw [f1 _ _ (by omega) (by omega), hg]
    have e2 : m1 283 21 = n32 (nBr g) := c1.1
    refine w306_3 ?_
    rw [e0, ix_n32 (by omega), h6, e2]
    exact ⟨fun _ => h m1 c1 f1, fun c => absurd (n32_rfl _) c⟩
theorem p_writeStand {v : Int32} {N : Nat} (h : CPL m N) : PRI (D + 12) 138 305 [vR 10 0, vI v] [vR 11 283, vI v] mpSPA m N := by
  unfold PRI
  rcases stand_cases h v with ⟨h1, h2⟩ | ⟨h1, h2, h3, h4⟩ | ⟨h1, h2, hS, s, hs, rfl, h69, h4⟩
  · refine w138_0 ⟨fun _ => ?_, fun c => absurd h1 c⟩
    refine w305_0 (s242 ?_)
    rw [h2]
    exact ⟨fun _ => ⟨⟨um_eq _ _ _ _, by decide, by decide⟩, CPL_th h⟩, fun c => absurd rfl c⟩
  · have rb : VI (D + 12) 305 [vR 11 283, vI v] m (fun _ m2 => (m2 283 0 = n32 (mpSPA 2) ∧ 1 ≤ mpSPA 2 ∧ mpSPA 2 ≤ 3) ∧ CPL m2 N) (fun _ _ => False) := by
      refine w305_0 (s242 ?_)
      rw [h2, h4]
      exact ⟨fun _ => ⟨⟨um_eq _ _ _ _, by decide, by decide⟩, CPL_th h⟩, fun c => absurd rfl c⟩
    refine w138_0 ⟨fun c => absurd (h1.symm.trans c) n01, fun _ => ⟨fun _ => rb, fun c => ⟨fun c2 => ?_, fun _ => rb⟩⟩⟩
    rcases h3 with h3 | h3
    · exact absurd h3 c
    · exact absurd c2 h3
  · obtain ⟨r1, r2, r3, T, hT, si⟩ := hS
    have w := si.w
    have a2 := w.nb
    have a4 := w.ns
    obtain ⟨x1, x2⟩ := fin1 h (show m 284 = m 284 from rfl)
    refine w138_0 ⟨fun c => absurd (h1.symm.trans c) n01, fun _ => ⟨fun c => absurd ((n32_lt (by omega) (by omega)).mp c) (by omega), fun _ => ⟨fun _ => ?_, fun c => absurd (by rw [h69]; exact (n32_lt (by omega) (by omega)).mpr hs) c⟩⟩⟩
    refine s161 w r1 r3 hs ?_
    intro m1 hT1 fd
    have rt1 := RT_fd (r := 278) r3 fd (Or.inr (by omega))
    have f : QF m m1 := QF_fd fd
    have hc : CPL m1 N := CPL_fr h (Nat.le_refl _) f
    have hg : m1 284 = m 284 := funext fun k => f _ _ (by unfold REL; omega)
    have h2' : m1 283 6 = n32 1 := by rw [f _ _ (by unfold REL; omega)]; exact h2
    have tl := tx_len w s
    have tv : txvG (txA (m 284) s) := txv_G w s (nBr (m 284)) (Nat.le_refl _)
    refine t138 hT1 tl ?_
    intro m2 c2 f2
    have ff : ∀ b k, RELP b k → m2 b k = m b k := fun b k hb => by
      unfold RELP at hb
      rw [f2 b k hb.2.1 hb.2.2.1]; exact f b k hb.1
    have hg2 : m2 284 = m 284 := funext fun k => ff _ _ (by unfold RELP REL; omega)
    have h22 : m2 283 6 = n32 1 := by rw [ff _ _ (by unfold RELP REL; omega)]; exact h2
    refine w305_0 (s242 ?_)
    rw [h22, hg2, h4, code0]
    refine ⟨fun c => absurd c n01, fun _ => ?_⟩
    rw [st0 hg2]
    refine s220 w hs ?_
    intro m3 f3 hT3
    have hT3' : TXF (smg m3 (m 284)) (txA (m 284) s) := ⟨by rw [smg_ne (by omega)]; exact hT3.1, fun j hj => by rw [smg_ne (by omega)]; exact hT3.2 j hj⟩
    refine t305 hT3' tl tv ?_
    intro m4 c4 f4
    have g3 : ∀ b k, RELP b k → m4 b k = m2 b k := fun b k hb => by
      unfold RELP REL at hb
      rw [f4 b k hb.2.2.2.1 hb.2.2.2.2]
      by_cases e : b = 284
      · subst e; rw [smg_at, hg2]
      · rw [smg_ne e, f3 b k e (by omega) (by omega) (by omega)]
        unfold um
        rw [if_neg (by omega)]
    refine ⟨⟨rfl, ?_⟩, page_fin (m1 := m2) (m2 := m4) (t := ((txA (m 284) s).1, (txA (m 284) s).2.2.1)) h (by dsimp only; omega) ff c2 g3 (fun b k hb => ?_) c4 rfl⟩
    · rw [f4 _ _ (by omega) (by omega), smg_ne (by omega), f3 _ _ (by omega) (by omega) (by omega) (by omega), um_eq]
    · rw [f4 _ _ (by omega) (by omega), smg_ne (by omega), f3 _ _ (by omega) (by omega) (by omega) (by omega), um_a (by omega)]

theorem p_writeRow {N : Nat} (h : CPL m N) : PRI (D + 12) 139 306 [vR 10 0] [vR 11 283] mpSA m N := by
  unfold PRI
  rcases h.ld with ⟨h1, h2⟩ | ⟨h1, h2, r1, r2, r3, T, hT, si⟩
  · refine w139_0 ⟨fun _ => ?_, fun c => absurd h1 c⟩
    refine w306_0 (s275 ?_)
    rw [h2]
    exact ⟨fun _ => ⟨⟨um_eq _ _ _ _, by decide, by decide⟩, CPL_th h⟩, fun c => absurd rfl c⟩
  · have w := si.w
    have a2 := w.nb
    have a4 := w.ns
    obtain ⟨x1, x2⟩ := fin1 h (show m 284 = m 284 from rfl)
    refine w139_0 ⟨fun c => absurd (h1.symm.trans c) n01, fun _ => ?_⟩
    refine t139 w r1 ?_
    intro m2 c2 f2
    have ff : ∀ b k, RELP b k → m2 b k = m b k := fun b k hb => by
      unfold RELP at hb
      exact f2 b k hb.2.1 hb.2.2.1
    have hg2 : m2 284 = m 284 := funext fun k => ff _ _ (by unfold RELP REL; omega)
    have h22 : m2 283 6 = n32 1 := by rw [ff _ _ (by unfold RELP REL; omega)]; exact h2
    refine w306_0 (s275 ?_)
    rw [h22, code0]
    refine ⟨fun c => absurd c n01, fun _ => ?_⟩
    refine t306 w (show um m2 283 0 (n32 0) 284 = m 284 by rw [← hg2]; exact funext fun k => um_a (by omega)) ?_
    intro m4 c4 f4
    have g3 : ∀ b k, RELP b k → m4 b k = m2 b k := fun b k hb => by
      unfold RELP REL at hb
      rw [f4 b k hb.2.2.2.1 hb.2.2.2.2]
      unfold um
      rw [if_neg (by omega)]
    refine ⟨⟨rfl, ?_⟩, page_fin (m1 := m2) (m2 := m4) (t := (nBr (m 284), rowV (m 284))) h (by dsimp only; omega) ff c2 g3 (fun b k hb => ?_) c4 rfl⟩
    · rw [f4 _ _ (by omega) (by omega), um_eq]
    · rw [f4 _ _ (by omega) (by omega), um_a (by omega)]

theorem p_textByte {v : Int32} {N : Nat} (h : CPL m N) : PRI (D + 12) 141 308 [vR 10 0, vI v] [vR 11 283, vI v] mpPB m N := by
  unfold PRI
  obtain ⟨-, -, -, -, -, -, p, p1, p2, p3, p4⟩ := id h
  have no : (v < n32 0 ∨ n32 p - n32 1 < v) → VI (D + 12) 308 [vR 11 283, vI v] m (fun _ m2 => (m2 283 0 = n32 (mpPB 2) ∧ 1 ≤ mpPB 2 ∧ mpPB 2 ≤ 3) ∧ CPL m2 N) (fun _ _ => False) := by
    intro hv
    refine w308_0 ⟨fun _ => s176 ?_, fun c => ⟨fun _ => s176 ?_, fun c2 => ?_⟩⟩
    · rw [code1]
      exact ⟨fun _ => ⟨⟨um_eq _ _ _ _, by decide, by decide⟩, CPL_th h⟩, fun c => absurd rfl c⟩
    · rw [code1]
      exact ⟨fun _ => ⟨⟨um_eq _ _ _ _, by decide, by decide⟩, CPL_th h⟩, fun c => absurd rfl c⟩
    · rw [p3] at c2
      rcases hv with hv | hv
      · exact absurd hv c
      · exact absurd hv c2
  rcases pidx_cases v (n := p) (by omega) with c1 | ⟨c1, c2, c3⟩ | ⟨i, hi, rfl⟩
  · exact w141_0 ⟨fun _ => no (Or.inl c1), fun c => absurd c1 c⟩
  · refine w141_0 ⟨fun c => absurd c c1, fun _ => ?_⟩
    rw [p2]
    exact ⟨fun c => absurd c (Int32.not_lt.mpr c2), fun _ => no (Or.inr c3)⟩
  · have i0 : ¬ n32 i < n32 0 := by rw [n32_lt (by omega) (by omega)]; omega
    refine w141_0 ⟨fun c => absurd c i0, fun _ => ?_⟩
    rw [p2]
    refine ⟨fun _ => ⟨xin_n (by omega) (by omega), ?_⟩, fun c => absurd ((n32_lt (by omega) (by omega)).mpr hi) c⟩
    refine w308_0 ⟨fun c => absurd c i0, fun _ => ⟨fun c => ?_, fun _ => s176 ?_⟩⟩
    · rw [p3, n32_sub (by omega), n32_lt (by omega) (by omega)] at c
      omega
    · rw [code0]
      refine ⟨fun c => absurd c n01, fun _ => ⟨xin_n (by omega) (by omega), ⟨?_, um_eq _ _ _ _⟩, CPL_th h⟩⟩
      rw [um_a (by omega), ix_n32 (by omega)]
      exact p4 i hi
end S93
