/-! The text that a stand reads. -/
abbrev TX : Type := Nat × Nat × (Nat → Int32) × (Nat → Nat)
def seesG (g : PG) (s b : Nat) : Bool := decide (¬ g (15 + 7 * b) ≤ n32 0) && decide (¬ g 1 < iabs (g (15 + 7 * b + 1) - g (99 + 12 * s + 1)))
def ordG (g : PG) (s k : Nat) : Nat := if g (99 + 12 * s) = n32 0 then k else nBr g - 1 - k
def tx1 (t : TX) (v : Int32) (b : Nat) : TX := (t.1 + 1, t.2.1 + 1, (fun j => if j = t.1 then v else t.2.2.1 j), fun j => if j = t.2.1 then b else t.2.2.2 j)
def tx0 (t : TX) : TX := (t.1 + 1, t.2.1, (fun j => if j = t.1 then n32 32 else t.2.2.1 j), t.2.2.2)
/-- is the bearer b too far from the one whose letter was read last? -/
def gapG (g : PG) (t : TX) (b : Nat) : Bool := decide (¬ t.2.1 = 0) && decide (¬ iabs (g (15 + 7 * b + 1) - g (15 + 7 * t.2.2.2 (t.2.1 - 1) + 1)) ≤ g 2)
def txStep (g : PG) (s k : Nat) (t : TX) : TX :=
  if seesG g s (ordG g s k) = true then
    (if gapG g t (ordG g s k) = true then tx1 (tx0 t) (n32 96 + g (15 + 7 * ordG g s k)) (ordG g s k) else tx1 t (n32 96 + g (15 + 7 * ordG g s k)) (ordG g s k))
  else t
def txG (g : PG) (s k : Nat) : TX := itr k (txStep g s) (0, 0, (fun _ => 0), fun _ => 0)
/-- the whole text -/
def txA (g : PG) (s : Nat) : TX := txG g s (nBr g)
def txOk (g : PG) (k : Nat) (t : TX) : Prop := t.2.1 ≤ k ∧ t.2.1 ≤ t.1 ∧ t.1 ≤ 2 * t.2.1 ∧ (t.2.1 ≠ 0 → t.1 + 1 ≤ 2 * t.2.1) ∧ ∀ j, j < t.2.1 → t.2.2.2 j < nBr g
theorem ordG_lt {g : PG} {s k : Nat} (h : k < nBr g) : ordG g s k < nBr g := by
  unfold ordG; split <;> omega
theorem tx1_ok {g : PG} {k b : Nat} {t : TX} {v : Int32} (h : txOk g k t) (hb : b < nBr g) : txOk g (k + 1) (tx1 t v b) := by
  obtain ⟨h1, h2, h3, h4, h5⟩ := h
  unfold tx1
  refine ⟨by dsimp only; omega, by dsimp only; omega, by dsimp only; omega, fun _ => by dsimp only; omega, ?_⟩
  intro j hj
  dsimp only at hj ⊢
  split
  · exact hb
  · exact h5 j (by omega)
theorem tx01_ok {g : PG} {k b : Nat} {t : TX} {v : Int32} (h : txOk g k t) (h0 : t.2.1 ≠ 0) (hb : b < nBr g) : txOk g (k + 1) (tx1 (tx0 t) v b) := by
  obtain ⟨h1, h2, h3, h4, h5⟩ := h
  have h4 := h4 h0
  unfold tx1 tx0
  refine ⟨by dsimp only; omega, by dsimp only; omega, by dsimp only; omega, fun _ => by dsimp only; omega, ?_⟩
  intro j hj
  dsimp only at hj ⊢
  split
  · exact hb
  · exact h5 j (by omega)
theorem gapG_ne {g : PG} {t : TX} {b : Nat} (h : gapG g t b = true) : t.2.1 ≠ 0 := by
  unfold gapG at h
  rw [Bool.and_eq_true] at h
  exact of_decide_eq_true h.1
theorem txG_ok (g : PG) (s : Nat) : ∀ k, k ≤ nBr g → txOk g k (txG g s k) := by
  intro k
  induction k with
  | zero => intro _; exact ⟨Nat.le_refl _, Nat.le_refl _, Nat.le_refl _, fun h => absurd rfl h, fun j hj => absurd hj (Nat.not_lt_zero j)⟩
  | succ k ih =>
    intro hk
    have e : txG g s (k + 1) = txStep g s k (txG g s k) := rfl
    have ih := ih (by omega)
    rw [e]
    generalize txG g s k = t at ih
    unfold txStep
    split
    · split
      · rename_i h; exact tx01_ok ih (gapG_ne h) (ordG_lt (by omega))
      · exact tx1_ok ih (ordG_lt (by omega))
    · obtain ⟨h1, h2, h3, h4, h5⟩ := ih
      exact ⟨by omega, h2, h3, h4, h5⟩
/-- how many bytes of the text are those of the word -/
def almG (g : PG) (s : Nat) : Nat := cnt (min (txA g s).1 (ix (g (99 + 12 * s + 2)))) fun i => decide ((txA g s).2.2.1 i = g (99 + 12 * s + 4 + i))
def rdG (g : PG) (s : Nat) : Bool := decide ((txA g s).1 = ix (g (99 + 12 * s + 2))) && decide (almG g s = (txA g s).1)
def shareG (g : PG) (s : Nat) : UInt32 := FP.fdiv (FP.i2f (n32 (almG g s))) (FP.i2f (n32 (max (txA g s).1 (ix (g (99 + 12 * s + 2))))))
theorem share_all : ((List.range 9).all fun n => (List.range 25).all fun d => Nat.beq d 0 || fcond (FP.fdiv (FP.i2f (n32 n)) (FP.i2f (n32 d)))) = true := by decide +kernel
theorem share_nn {n d : Nat} (h1 : n ≤ 8) (h2 : d ≤ 24) (h3 : d ≠ 0) : FP.fdiv (FP.i2f (n32 n)) (FP.i2f (n32 d)) &&& 0x7fffffff ≤ 0x7f800000 := by
  have := List.all_eq_true.mp (List.all_eq_true.mp share_all n (List.mem_range.mpr (by omega))) d (List.mem_range.mpr (by omega))
  rw [Bool.or_eq_true] at this
  rcases this with h | h
  · exact absurd (Nat.eq_of_beq_eq_true h) h3
  · exact of_decide_eq_true h
theorem imax_n {a b : Nat} (ha : a < 2147483648) (hb : b < 2147483648) : imax (n32 a) (n32 b) = n32 (max a b) := by
  unfold imax
  by_cases h : a < b
  · rw [if_pos ((n32_lt ha hb).mpr h), Nat.max_eq_right (by omega)]
  · rw [if_neg (fun e => h ((n32_lt ha hb).mp e)), Nat.max_eq_left (by omega)]
theorem imin_n {a b : Nat} (ha : a < 2147483648) (hb : b < 2147483648) : imin (n32 a) (n32 b) = n32 (min a b) := by
  unfold imin
  by_cases h : b < a
  · rw [if_pos ((n32_lt hb ha).mpr h), Nat.min_eq_right (by omega)]
  · rw [if_neg (fun e => h ((n32_lt hb ha).mp e)), Nat.min_eq_left (by omega)]
theorem iabs_neg (d : Int32) : iabs (-d) = iabs d := by
  unfold iabs
  have e := Int32.toInt_neg d
  rw [Int.bmod_def] at e
  have l1 := Int32.le_toInt d
  have l2 := Int32.toInt_lt d
  by_cases h1 : n32 0 ≤ d
  · rw [if_pos h1]
    rw [le_n32] at h1
    by_cases h2 : n32 0 ≤ -d
    · rw [if_pos h2]
      rw [le_n32] at h2
      have : d = 0 := by
        apply Int32.toInt_inj.mp
        show d.toInt = 0
        split at e <;> omega
      subst this; rfl
    · rw [if_neg h2, Int32.neg_neg]
  · rw [if_neg h1]
    rw [le_n32] at h1
    by_cases h2 : n32 0 ≤ -d
    · rw [if_pos h2]
    · rw [if_neg h2, Int32.neg_neg]
      rw [le_n32] at h2
      apply Int32.toInt_inj.mp
      split at e <;> omega
theorem iabs_comm (x y : Int32) : iabs (x - y) = iabs (y - x) := by
  rw [← Int32.neg_sub, iabs_neg]
/-- the Route at an address -/
def RT (m : XM) (a : Nat) (g : PG) : Prop := m a 0 = g 7 ∧ ∀ s, s < nSt g → m (a + 1) s = g (99 + 12 * s) ∧ m (a + 2) s = g (99 + 12 * s + 1) ∧ m (a + 3) s = g (99 + 12 * s + 2) ∧ ∀ i, i < ix (g (99 + 12 * s + 2)) → m (a + 4) (s * 8 + i) = g (99 + 12 * s + 4 + i)
/-- the Reading at an address -/
def RR (m : XM) (a : Nat) (t : TX) : Prop := m a 0 = n32 t.1 ∧ m a 1 = n32 t.2.1 ∧ (∀ j, j < t.1 → m (a + 1) j = t.2.2.1 j) ∧ ∀ j, j < t.2.1 → m (a + 2) j = n32 (t.2.2.2 j)
/-- nothing changes but the Reading at a -/
def FD (a : Nat) (m m' : XM) : Prop := ∀ b k, (b < a ∨ a + 3 ≤ b) → m' b k = m b k
theorem FD.rf (a : Nat) (m : XM) : FD a m m := fun _ _ _ => rfl
theorem FD.tr {a : Nat} {m1 m2 m3 : XM} (h1 : FD a m1 m2) (h2 : FD a m2 m3) : FD a m1 m3 := fun b k hb => (h2 b k hb).trans (h1 b k hb)
theorem RR_1 {m : XM} {a b : Nat} {t : TX} {v : Int32} (h : RR m a t) : RR (um (um (um (um m (a + 1) t.1 v) a 0 (n32 (t.1 + 1))) (a + 2) t.2.1 (n32 b)) a 1 (n32 (t.2.1 + 1))) a (tx1 t v b) ∧ FD a m (um (um (um (um m (a + 1) t.1 v) a 0 (n32 (t.1 + 1))) (a + 2) t.2.1 (n32 b)) a 1 (n32 (t.2.1 + 1))) := by
  obtain ⟨h1, h2, h3, h4⟩ := h
  refine ⟨⟨?_, ?_, ?_, ?_⟩, ?_⟩
  · rw [um_k (by omega), um_a (by omega), um_eq]; rfl
  · rw [um_eq]; rfl
  · intro j hj
    rw [um_a (by omega), um_a (by omega), um_a (by omega)]
    unfold tx1 at hj ⊢
    dsimp only at hj ⊢
    by_cases e : j = t.1
    · subst e; rw [um_eq, if_pos rfl]
    · rw [um_k e, if_neg e]; exact h3 j (by omega)
  · intro j hj
    rw [um_a (by omega)]
    unfold tx1 at hj ⊢
    dsimp only at hj ⊢
    by_cases e : j = t.2.1
    · subst e; rw [um_eq, if_pos rfl]
    · rw [um_k e, um_a (by omega), um_a (by omega), if_neg e]; exact h4 j (by omega)
  · intro c k hc
    rw [um_a (by omega), um_a (by omega), um_a (by omega), um_a (by omega)]
theorem RR_0 {m : XM} {a : Nat} {t : TX} (h : RR m a t) : RR (um (um m (a + 1) t.1 (n32 32)) a 0 (n32 (t.1 + 1))) a (tx0 t) ∧ FD a m (um (um m (a + 1) t.1 (n32 32)) a 0 (n32 (t.1 + 1))) := by
  obtain ⟨h1, h2, h3, h4⟩ := h
  refine ⟨⟨?_, ?_, ?_, ?_⟩, ?_⟩
  · rw [um_eq]; rfl
  · rw [um_k (by omega), um_a (by omega)]; exact h2
  · intro j hj
    rw [um_a (by omega)]
    unfold tx0 at hj ⊢
    dsimp only at hj ⊢
    by_cases e : j = t.1
    · subst e; rw [um_eq, if_pos rfl]
    · rw [um_k e, if_neg e]; exact h3 j (by omega)
  · intro j hj
    rw [um_a (by omega), um_a (by omega)]; exact h4 j hj
  · intro c k hc
    rw [um_a (by omega), um_a (by omega)]

