/-! Numbers, memory, folds and loops. -/
theorem n32_0 : n32 0 = 0 := rfl
theorem n32_add (a b : Nat) : n32 a + n32 b = n32 (a + b) := (Int32.ofNat_add a b).symm
theorem n32_mul (a b : Nat) : n32 a * n32 b = n32 (a * b) := (Int32.ofNat_mul a b).symm
theorem n32_inj {a b : Nat} (ha : a < 2147483648) (hb : b < 2147483648) (h : n32 a = n32 b) : a = b := by
  have := congrArg ix h
  rw [ix_n32 ha, ix_n32 hb] at this
  exact this
theorem n32_lt {a b : Nat} (ha : a < 2147483648) (hb : b < 2147483648) : n32 a < n32 b ↔ a < b := by
  rw [Int32.lt_iff_toInt_lt, n32_toInt ha, n32_toInt hb]; omega
theorem n32_le {a b : Nat} (ha : a < 2147483648) (hb : b < 2147483648) : n32 a ≤ n32 b ↔ a ≤ b := by
  rw [Int32.le_iff_toInt_le, n32_toInt ha, n32_toInt hb]; omega
theorem n32_nm1 {a : Nat} (ha : a < 2147483648) : ¬ n32 a = -(n32 1) := by
  intro h
  have := congrArg Int32.toInt h
  rw [n32_toInt ha] at this
  have e : (-(n32 1)).toInt = -1 := by decide
  omega
theorem nm1_lt (a : Nat) (ha : a < 2147483648) : -(n32 1) < n32 a := by
  rw [Int32.lt_iff_toInt_lt, n32_toInt ha]
  have e : (-(n32 1)).toInt = -1 := by decide
  omega
theorem n32_sub {a b : Nat} (h : b ≤ a) : n32 a - n32 b = n32 (a - b) := by
  obtain ⟨c, rfl⟩ := Nat.exists_eq_add_of_le h
  rw [Nat.add_sub_cancel_left, ← n32_add, Int32.add_comm, Int32.add_sub_cancel]
theorem n32_dec {a : Nat} (h : 1 ≤ a) : n32 a + -(n32 1) = n32 (a - 1) := by
  rw [← n32_sub h, Int32.sub_eq_add_neg]
/-- an int between 0 and a bound is a natural number -/
theorem n32_of {x : Int32} {k : Nat} (h0 : n32 0 ≤ x) (h1 : x ≤ n32 k) (hk : k < 2147483648) : ∃ n, n ≤ k ∧ x = n32 n := by
  rw [Int32.le_iff_toInt_le, n32_toInt (by omega)] at h0
  rw [Int32.le_iff_toInt_le, n32_toInt hk] at h1
  refine ⟨x.toInt.toNat, by omega, ?_⟩
  apply Int32.toInt_inj.mp
  rw [n32_toInt (by omega)]; omega
theorem le_n32 {x : Int32} : n32 0 ≤ x ↔ 0 ≤ x.toInt := by
  rw [Int32.le_iff_toInt_le, n32_toInt (by omega)]; rfl
theorem um_eq (m : XM) (a k : Nat) (v : Int32) : um m a k v a k = v := if_pos ⟨rfl, rfl⟩
theorem um_a {m : XM} {a k a' k' : Nat} {v : Int32} (h : a' ≠ a) : um m a k v a' k' = m a' k' := if_neg fun e => h e.1
theorem um_k {m : XM} {a k a' k' : Nat} {v : Int32} (h : k' ≠ k) : um m a k v a' k' = m a' k' := if_neg fun e => h e.2
def itr {α : Type} : Nat → (Nat → α → α) → α → α
  | 0, _, a => a
  | n + 1, f, a => f n (itr n f a)
theorem itr_congr {α : Type} {n : Nat} {f g : Nat → α → α} {a : α} (h : ∀ i, i < n → ∀ x, f i x = g i x) : itr n f a = itr n g a := by
  induction n with
  | zero => rfl
  | succ n ih =>
    show f n (itr n f a) = g n (itr n g a)
    rw [ih fun i hi => h i (by omega), h n (by omega)]
def cnt (n : Nat) (p : Nat → Bool) : Nat := itr n (fun i c => if p i then c + 1 else c) 0
theorem cnt_succ (n : Nat) (p : Nat → Bool) : cnt (n + 1) p = if p n then cnt n p + 1 else cnt n p := rfl
theorem cnt_le (n : Nat) (p : Nat → Bool) : cnt n p ≤ n := by
  induction n with
  | zero => exact Nat.le_refl _
  | succ n ih => rw [cnt_succ]; split <;> omega
theorem cnt_congr {n : Nat} {p q : Nat → Bool} (h : ∀ i, i < n → p i = q i) : cnt n p = cnt n q :=
  itr_congr fun i hi x => by rw [h i hi]
theorem cnt_pos {n : Nat} {p : Nat → Bool} : 0 < cnt n p ↔ ∃ i, i < n ∧ p i = true := by
  induction n with
  | zero => exact ⟨fun h => absurd h (Nat.lt_irrefl 0), fun ⟨i, h, _⟩ => absurd h (by omega)⟩
  | succ n ih =>
    rw [cnt_succ]
    by_cases hp : p n = true
    · rw [if_pos hp]; exact ⟨fun _ => ⟨n, by omega, hp⟩, fun _ => by omega⟩
    · rw [if_neg hp, ih]
      constructor
      · rintro ⟨i, h1, h2⟩; exact ⟨i, by omega, h2⟩
      · rintro ⟨i, h1, h2⟩
        refine ⟨i, ?_, h2⟩
        by_cases e : i = n
        · exact absurd (e ▸ h2) hp
        · omega
def isum (n : Nat) (f : Nat → Int32) : Int32 := itr n (fun i s => s + f i) (n32 0)
theorem isum_succ (n : Nat) (f : Nat → Int32) : isum (n + 1) f = isum n f + f n := rfl
theorem isum_congr {n : Nat} {f g : Nat → Int32} (h : ∀ i, i < n → f i = g i) : isum n f = isum n g := itr_congr fun i hi x => by rw [h i hi]
def bset (n : Nat) (p : Nat → Bool) : Int32 := itr n (fun i s => if p i then s ||| (n32 1 <<< (n32 i &&& 31)) else s) (n32 0)
theorem bset_succ (n : Nat) (p : Nat → Bool) : bset (n + 1) p = if p n then bset n p ||| (n32 1 <<< (n32 n &&& 31)) else bset n p := rfl
theorem bset_congr {n : Nat} {p q : Nat → Bool} (h : ∀ i, i < n → p i = q i) : bset n p = bset n q := itr_congr fun i hi x => by rw [h i hi]
/-- the best of those that fit, as an index, or -1: 'lt k b' says that k is better than b -/
def bst (n : Nat) (p : Nat → Bool) (lt : Nat → Nat → Bool) : Int32 := itr n (fun k b => if p k && (b == -(n32 1) || lt k (ix b)) then n32 k else b) (-(n32 1))
theorem bst_succ (n : Nat) (p : Nat → Bool) (lt : Nat → Nat → Bool) : bst (n + 1) p lt = if p n && (bst n p lt == -(n32 1) || lt n (ix (bst n p lt))) then n32 n else bst n p lt := rfl
theorem bst_rng (n : Nat) (p : Nat → Bool) (lt : Nat → Nat → Bool) (hn : n < 2147483648) : bst n p lt = -(n32 1) ∨ ∃ k, k < n ∧ p k = true ∧ bst n p lt = n32 k := by
  induction n with
  | zero => exact Or.inl rfl
  | succ n ih =>
    have e : bst (n + 1) p lt = if p n && (bst n p lt == -(n32 1) || lt n (ix (bst n p lt))) then n32 n else bst n p lt := rfl
    rw [e]
    split
    · rename_i h
      rw [Bool.and_eq_true] at h
      exact Or.inr ⟨n, by omega, h.1, rfl⟩
    · rcases ih (by omega) with h | ⟨k, h1, h2, h3⟩
      · exact Or.inl h
      · exact Or.inr ⟨k, by omega, h2, h3⟩
theorem bst_congr {n : Nat} {p q : Nat → Bool} {lt lt' : Nat → Nat → Bool} (hn : n < 2147483648) (h : ∀ i, i < n → p i = q i) (hl : ∀ i j, i < n → j < n → lt i j = lt' i j) : bst n p lt = bst n q lt' := by
  induction n with
  | zero => rfl
  | succ n ih =>
    have e1 : bst (n + 1) p lt = if p n && (bst n p lt == -(n32 1) || lt n (ix (bst n p lt))) then n32 n else bst n p lt := rfl
    have e2 : bst (n + 1) q lt' = if q n && (bst n q lt' == -(n32 1) || lt' n (ix (bst n q lt'))) then n32 n else bst n q lt' := rfl
    have hi := ih (by omega) (fun i hi => h i (by omega)) (fun i j h1 h2 => hl i j (by omega) (by omega))
    rw [e1, e2, ← hi, h n (by omega)]
    rcases bst_rng n p lt (by omega) with hb | ⟨k, h1, h2, h3⟩
    · rw [hb]; simp
    · rw [h3, ix_n32 (by omega), hl n k (by omega) (by omega)]
/-- a loop that counts up, its head's claim told for each count -/
theorem up {C : Nat → Prop} {n : Nat} (step : ∀ i, i < n → C (i + 1) → C i) (last : C n) : ∀ i, i ≤ n → C i := by
  have : ∀ k i, i + k = n → C i := by
    intro k
    induction k with
    | zero => intro i h; have : i = n := by omega
              subst this; exact last
    | succ k ih => intro i h; exact step i (by omega) (ih (i + 1) (by omega))
  exact fun i hi => this (n - i) i (by omega)
/-- the same with an invariant of the memory -/
theorem upm {σ : Type} {C : Nat → σ → Prop} {Inv : Nat → σ → Prop} {n : Nat} (step : ∀ i m, i < n → Inv i m → (∀ m', Inv (i + 1) m' → C (i + 1) m') → C i m) (last : ∀ m, Inv n m → C n m) : ∀ i m, i ≤ n → Inv i m → C i m := by
  have : ∀ k i m, i + k = n → Inv i m → C i m := by
    intro k
    induction k with
    | zero => intro i m h hI; have : i = n := by omega
              subst this; exact last m hI
    | succ k ih => intro i m h hI; exact step i m (by omega) hI (fun m' hm' => ih (i + 1) m' (by omega) hm')
  exact fun i m hi => this (n - i) i m (by omega)
/-! for simp (disch := omega) -/
theorem xin_t {i n : Nat} (h : i < n) (hi : i < 2147483648) : (xin (n32 i) n = true) = True := eq_true (xin_n h hi)
theorem le_f {a b : Nat} (h : a < b) (hb : b < 2147483648) : (n32 b ≤ n32 a) = False := eq_false (fun e => absurd ((n32_le hb (by omega)).mp e) (by omega))
theorem le_t {a b : Nat} (h : a ≤ b) (hb : b < 2147483648) : (n32 a ≤ n32 b) = True := eq_true ((n32_le (by omega) hb).mpr h)
theorem lt_f {a b : Nat} (h : b ≤ a) (ha : a < 2147483648) : (n32 a < n32 b) = False := eq_false (fun e => absurd ((n32_lt ha (by omega)).mp e) (by omega))
theorem lt_t {a b : Nat} (h : a < b) (hb : b < 2147483648) : (n32 a < n32 b) = True := eq_true ((n32_lt (by omega) hb).mpr h)
theorem eq_f {a b : Nat} (h : a ≠ b) (ha : a < 2147483648) (hb : b < 2147483648) : (n32 a = n32 b) = False := eq_false (fun e => h (n32_inj ha hb e))
theorem nm1_f {a : Nat} (ha : a < 2147483648) : (n32 a = -(n32 1)) = False := eq_false (n32_nm1 ha)
theorem nm1_f' {a : Nat} (ha : a < 2147483648) : (-(n32 1) = n32 a) = False := eq_false (fun h => n32_nm1 ha h.symm)
theorem lt_nm1 {a : Nat} (ha : a < 2147483648) : (n32 a < -(n32 1)) = False := eq_false (by
  intro h
  rw [Int32.lt_iff_toInt_lt, n32_toInt ha] at h
  have e : (-(n32 1)).toInt = -1 := by decide
  omega)
theorem n32_rfl (n : Nat) : n32 n ≤ n32 n := Int32.le_refl _
