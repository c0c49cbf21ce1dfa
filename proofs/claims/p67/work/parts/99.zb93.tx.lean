/-! Texts that are written; pairs: writeStand, writeRow, writePlaces, textByte. -/
def RELP (b k : Nat) : Prop := REL b k ∧ b ≠ 281 ∧ b ≠ 282 ∧ b ≠ 292 ∧ ¬ (b = 283 ∧ k = 21)
theorem CPL_pg {m m' : XM} {N N' p : Nat} (h : CPL m N) (hN : N ≤ N') (f : ∀ b k, RELP b k → m' b k = m b k) (p1 : p ≤ 120) (p2 : m' 281 0 = n32 p) (p3 : m' 283 21 = n32 p) (p4 : ∀ i, i < p → m' 282 i = m' 292 i) : CPL m' N' := by
  obtain ⟨⟨a1, a2⟩, a3, ⟨o, k, b1, b2, b3, b4, b5, b6, b7⟩, c1, ⟨l, d1, d2, d3, d4⟩, ⟨e1, e2⟩, -⟩ := h
  have f07 : m' 0 7 = m 0 7 := f _ _ (by unfold RELP REL; omega)
  have fR : ∀ d k, d < 5 → m' (69 + d) k = m (69 + d) k := fun d k hd => f _ _ (by unfold RELP REL; omega)
  have fS : ∀ a, (a = 29 ∨ (78 ≤ a ∧ a + 20 ≤ 278)) → ∀ d k, d < 20 → d ≠ 10 → m' (a + d) k = m (a + d) k := fun a ha d k hd _ => f _ _ (by unfold RELP REL; omega)
  have fg : m' 284 = m 284 := funext fun k => f _ _ (by unfold RELP REL; omega)
  have fu : ∀ b j, (b = 286 ∨ b = 287) → slG m' b j = slG m b j := fun b j hb => funext fun i => f _ _ (by unfold RELP REL; omega)
  refine ⟨⟨?_, ?_⟩, ?_, ⟨o, k, ?_, b2, ?_, b4, ?_, ?_, ?_⟩, ?_, ⟨l, d1, ?_, ?_, ?_⟩, ⟨?_, ?_⟩, p, p1, p2, p3, p4⟩
  · rw [f07, f 283 6 (by unfold RELP REL; omega)]; exact a1
  · rw [f07]; exact a2
  · rw [f07]; intro h; exact SS_eq (a3 h) hN fg (fS 29 (Or.inl rfl)) fR
  · rw [f 74 0 (by unfold RELP REL; omega)]; exact b1
  · rw [f 74 1 (by unfold RELP REL; omega)]; exact b3
  · rw [f 283 7 (by unfold RELP REL; omega)]; exact b5
  · rw [f07]; exact b6
  · intro j hj
    have : (o + j) % 8 < 8 := Nat.mod_lt _ (by omega)
    exact SS_eq (b7 j hj) hN (fu _ _ (Or.inl rfl)) (fS _ (Or.inr (by omega))) fR
  · intro s hs
    obtain ⟨q1, q2⟩ := c1 s hs
    rw [f 77 s (by unfold RELP REL; omega), f 288 s (by unfold RELP REL; omega), f07]
    refine ⟨q1, ?_⟩
    rcases q2 with q2 | ⟨q2, q3, q4⟩
    · exact Or.inl q2
    · exact Or.inr ⟨q2, q3, SS_eq q4 hN (fu _ _ (Or.inr rfl)) (fS _ (Or.inr (by omega))) fR⟩
  · rw [f 2 1 (by unfold RELP REL; omega)]; exact d2
  · rw [f 283 9 (by unfold RELP REL; omega)]; exact d3
  · intro i hi
    rw [f 3 i (by unfold RELP REL; omega), f 289 i (by unfold RELP REL; omega)]; exact d4 i hi
  · rw [f 1 3 (by unfold RELP REL; omega), f 283 10 (by unfold RELP REL; omega)]; exact e1
  · rw [f 1 4 (by unfold RELP REL; omega), f 283 11 (by unfold RELP REL; omega)]; exact e2
abbrev PGE : Type := Nat × (Nat → Int32)
def pgb (t : PGE) (v : Int32) : PGE := (t.1 + 1, fun j => if j = t.1 then v else t.2 j)
def WC (m : XM) (t : PGE) : Prop := m 281 0 = n32 t.1 ∧ ∀ j, j < t.1 → m 282 j = t.2 j
def WM (m : XM) (t : PGE) : Prop := m 283 21 = n32 t.1 ∧ ∀ j, j < t.1 → m 292 j = t.2 j
def FB (m m' : XM) : Prop := ∀ b k, b ≠ 281 → b ≠ 282 → m' b k = m b k
def FP2 (m m' : XM) : Prop := ∀ b k, b ≠ 292 → ¬ (b = 283 ∧ k = 21) → m' b k = m b k
theorem FB.tr {m1 m2 m3 : XM} (h1 : FB m1 m2) (h2 : FB m2 m3) : FB m1 m3 := fun b k c1 c2 => (h2 b k c1 c2).trans (h1 b k c1 c2)
theorem FP2.tr {m1 m2 m3 : XM} (h1 : FP2 m1 m2) (h2 : FP2 m2 m3) : FP2 m1 m3 := fun b k c1 c2 => (h2 b k c1 c2).trans (h1 b k c1 c2)
theorem WC_b {m : XM} {t : PGE} {v : Int32} (h : WC m t) : WC (um (um m 282 t.1 v) 281 0 (n32 (t.1 + 1))) (pgb t v) ∧ FB m (um (um m 282 t.1 v) 281 0 (n32 (t.1 + 1))) := by
  refine ⟨⟨um_eq _ _ _ _, fun j hj => ?_⟩, fun b k c1 c2 => by rw [um_a c1, um_a c2]⟩
  unfold pgb at hj ⊢
  dsimp only at hj ⊢
  rw [um_a (by omega)]
  by_cases e : j = t.1
  · subst e; rw [um_eq, if_pos rfl]
  · rw [um_k e, if_neg e]; exact h.2 j (by omega)
theorem WM_b {m : XM} {t : PGE} {v : Int32} (h : WM m t) : WM (um (um m 292 t.1 v) 283 21 (n32 (t.1 + 1))) (pgb t v) ∧ FP2 m (um (um m 292 t.1 v) 283 21 (n32 (t.1 + 1))) := by
  refine ⟨⟨um_eq _ _ _ _, fun j hj => ?_⟩, fun b k c1 c2 => by unfold um; rw [if_neg c2, if_neg (fun e => c1 e.1)]⟩
  unfold pgb at hj ⊢
  dsimp only at hj ⊢
  rw [um_a (by omega)]
  by_cases e : j = t.1
  · subst e; rw [um_eq, if_pos rfl]
  · rw [um_k e, if_neg e]; exact h.2 j (by omega)
theorem byt : ∀ n, n < 128 → (n32 n).toInt8.toInt32 = n32 n := by decide +kernel
theorem byt2 {v : Int32} (h : inR v 0 127) : v.toInt8.toInt32.toInt8.toInt32 = v := by
  obtain ⟨n, -, h2, rfl⟩ := h
  rw [byt n (by omega), byt n (by omega)]
/-- the bytes of a text are blanks and letters -/
def txvG (t : TX) : Prop := ∀ j, j < t.1 → inR (t.2.2.1 j) 0 127
theorem txv_1 {t : TX} {v : Int32} {b : Nat} (h : txvG t) (hv : inR v 0 127) : txvG (tx1 t v b) := by
  intro j hj
  unfold tx1 at hj ⊢
  dsimp only at hj ⊢
  split
  · exact hv
  · exact h j (by omega)
theorem txv_0 {t : TX} (h : txvG t) : txvG (tx0 t) := by
  intro j hj
  unfold tx0 at hj ⊢
  dsimp only at hj ⊢
  split
  · exact ⟨32, by omega, by omega, rfl⟩
  · exact h j (by omega)
theorem txv_G {g : PG} (w : WF g) (s : Nat) : ∀ k, k ≤ nBr g → txvG (txG g s k) := by
  intro k
  induction k with
  | zero => intro _ j hj; exact absurd hj (Nat.not_lt_zero j)
  | succ k ih =>
    intro hk
    have e : txG g s (k + 1) = txStep g s k (txG g s k) := rfl
    have ih := ih (by omega)
    rw [e]
    generalize txG g s k = t at ih
    have hv : inR (n32 96 + g (15 + 7 * ordG g s k)) 0 127 := by
      obtain ⟨n, h1, h2, h3⟩ := w.b0 (ordG_lt (s := s) (show k < nBr g by omega))
      exact ⟨96 + n, by omega, by omega, by rw [h3, n32_add]⟩
    unfold txStep
    split
    · split
      · exact txv_1 (txv_0 ih) hv
      · exact txv_1 ih hv
    · exact ih
/-- both pages are the same behind a pair -/
theorem page_fin {m m1 m2 mf : XM} {N : Nat} {t : PGE} (h : CPL m N) (hp : t.1 ≤ 120) (f1 : ∀ b k, RELP b k → m1 b k = m b k) (c1 : WC m1 t) (f2 : ∀ b k, RELP b k → m2 b k = m1 b k) (e2 : ∀ b k, b = 281 ∨ b = 282 → m2 b k = m1 b k) (c2 : WM m2 t) (hf : mf = m2) : CPL mf N := by
  subst hf
  refine CPL_pg (p := t.1) h (Nat.le_refl _) (fun b k hb => (f2 b k hb).trans (f1 b k hb)) hp (by rw [e2 _ _ (Or.inl rfl)]; exact c1.1) c2.1 (fun i hi => ?_)
  rw [e2 _ _ (Or.inr rfl), c1.2 i hi, c2.2 i hi]
def mpPB (_ : Nat) : Nat := 1
theorem pidx_cases (v : Int32) {n : Nat} (hn : n ≤ 120) : v < n32 0 ∨ (¬ v < n32 0 ∧ n32 n ≤ v ∧ n32 n - n32 1 < v) ∨ ∃ i, i < n ∧ v = n32 i := by
  by_cases c1 : v < n32 0
  · exact Or.inl c1
  · right
    have e : (n32 n - n32 1).toInt = (n : Int) - 1 := by
      have : ∀ n, n < 121 → (n32 n - n32 1).toInt = (n : Int) - 1 := by decide
      exact this n (by omega)
    by_cases c2 : n32 n ≤ v
    · refine Or.inl ⟨c1, c2, ?_⟩
      rw [Int32.lt_iff_toInt_lt, e]
      rw [Int32.le_iff_toInt_le, n32_toInt (by omega)] at c2
      omega
    · right
      rw [Int32.lt_iff_toInt_lt, n32_toInt (by omega)] at c1
      rw [Int32.le_iff_toInt_le, n32_toInt (by omega)] at c2
      refine ⟨v.toInt.toNat, by omega, ?_⟩
      apply Int32.toInt_inj.mp
      rw [n32_toInt (by omega)]; omega
section S93
variable {D : Nat} {m : XM} {g : PG} {E : Nat → XM → Prop}
theorem WC_0 (m : XM) (f : Nat → Int32) : WC (um m 281 0 (n32 0)) (0, f) := ⟨um_eq _ _ _ _, fun j hj => absurd hj (Nat.not_lt_zero j)⟩
theorem WM_0 (m : XM) (f : Nat → Int32) : WM (um m 283 21 (n32 0)) (0, f) := ⟨um_eq _ _ _ _, fun j hj => absurd hj (Nat.not_lt_zero j)⟩
theorem FB_0 (m : XM) : FB m (um m 281 0 (n32 0)) := fun b k c1 _ => um_a c1
theorem FP_0 (m : XM) : FP2 m (um m 283 21 (n32 0)) := fun b k _ c2 => by unfold um; rw [if_neg c2]
/-- the first i bytes of f -/
theorem pg_next (f : Nat → Int32) (i : Nat) {m : XM} (h : WC m (pgb (i, f) (f i))) : WC m (i + 1, f) := by
  refine ⟨h.1, fun j hj => ?_⟩
  have := h.2 j hj
  unfold pgb at this
  dsimp only at this
  rw [this]
  split
  · rename_i e; rw [e]
  · rfl
theorem pgm_next (f : Nat → Int32) (i : Nat) {m : XM} (h : WM m (pgb (i, f) (f i))) : WM m (i + 1, f) := by
  refine ⟨h.1, fun j hj => ?_⟩
  have := h.2 j hj
  unfold pgb at this
  dsimp only at this
  rw [this]
  split
  · rename_i e; rw [e]
  · rfl
def rowV (g : PG) (b : Nat) : Int32 := if g (15 + 7 * b) = n32 0 then n32 45 else n32 96 + g (15 + 7 * b)
theorem rowV_R (w : WF g) {b : Nat} (hb : b < nBr g) : inR (rowV g b) 0 127 := by
  unfold rowV
  split
  · exact ⟨45, by omega, by omega, rfl⟩
  · obtain ⟨n, h1, h2, h3⟩ := w.b0 hb
    exact ⟨96 + n, by omega, by omega, by rw [h3, n32_add]⟩
end S93

