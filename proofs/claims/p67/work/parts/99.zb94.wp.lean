/-! Numbers written; pairs: writePlaces, append. -/
theorem n32_div {a b : Nat} (ha : a < 2147483648) (hb : b < 2147483648) : n32 a / n32 b = n32 (a / b) := (Int32.ofNat_div ha hb).symm
theorem n32_mod10 {a : Nat} (ha : a < 2147483648) : n32 a - n32 a / n32 10 * n32 10 = n32 (a % 10) := by
  rw [n32_div ha (by omega), n32_mul, n32_sub (by omega)]
  congr 1; omega
/-- how many digits a number has, below 10 to the f + 1 -/
def ndf : Nat → Nat → Nat
  | 0, _ => 1
  | f + 1, n => if n < 10 then 1 else ndf f (n / 10) + 1
theorem ndf_0 (n : Nat) : ndf 0 n = 1 := by rw [ndf]
theorem ndf_s (f n : Nat) : ndf (f + 1) n = if n < 10 then 1 else ndf f (n / 10) + 1 := by rw [ndf]
theorem ndf_pos (f n : Nat) : 1 ≤ ndf f n := by
  cases f with
  | zero => rw [ndf_0]; exact Nat.le_refl _
  | succ f => rw [ndf_s]; split <;> omega
theorem ndf_le (f : Nat) : ∀ n, ndf f n ≤ f + 1 := by
  induction f with
  | zero => intro n; rw [ndf_0]; omega
  | succ f ih => intro n; rw [ndf_s]; have := ih (n / 10); split <;> omega
/-- a number behind a page -/
def pgn : Nat → PGE → Nat → PGE
  | 0, t, n => pgb t (n32 (48 + n % 10))
  | f + 1, t, n => if n < 10 then pgb t (n32 (48 + n % 10)) else pgb (pgn f t (n / 10)) (n32 (48 + n % 10))
theorem pgn_0 (t : PGE) (n : Nat) : pgn 0 t n = pgb t (n32 (48 + n % 10)) := by rw [pgn]
theorem pgn_s (f : Nat) (t : PGE) (n : Nat) : pgn (f + 1) t n = if n < 10 then pgb t (n32 (48 + n % 10)) else pgb (pgn f t (n / 10)) (n32 (48 + n % 10)) := by rw [pgn]
theorem pgn_len (f : Nat) : ∀ (t : PGE) (n : Nat), (pgn f t n).1 = t.1 + ndf f n := by
  induction f with
  | zero => intro t n; rw [pgn_0, ndf_0]; rfl
  | succ f ih =>
    intro t n
    rw [pgn_s, ndf_s]
    by_cases c : n < 10
    · rw [if_pos c, if_pos c]; rfl
    · rw [if_neg c, if_neg c]
      show (pgn f t (n / 10)).1 + 1 = _
      rw [ih]; omega
theorem pgb_lo {t : PGE} {v : Int32} {j : Nat} (h : j < t.1) : (pgb t v).2 j = t.2 j := by
  show (if j = t.1 then v else t.2 j) = _
  rw [if_neg (by omega)]
theorem pgb_hi {t : PGE} {v : Int32} : (pgb t v).2 t.1 = v := by
  show (if t.1 = t.1 then v else t.2 t.1) = _
  rw [if_pos rfl]
theorem pgn_lo (f : Nat) : ∀ (t : PGE) (n j : Nat), j < t.1 → (pgn f t n).2 j = t.2 j := by
  induction f with
  | zero => intro t n j h; rw [pgn_0, pgb_lo h]
  | succ f ih =>
    intro t n j h
    rw [pgn_s]
    split
    · rw [pgb_lo h]
    · rw [pgb_lo (by rw [pgn_len]; omega), ih _ _ _ h]
theorem pgn_at (f : Nat) : ∀ (t : PGE) (n i : Nat), n < 10 ^ (f + 1) → i < ndf f n → (pgn f t n).2 (t.1 + ndf f n - 1 - i) = n32 (48 + n / 10 ^ i % 10) := by
  induction f with
  | zero =>
    intro t n i hn hi
    rw [ndf_0] at hi ⊢
    have : i = 0 := by omega
    subst this
    rw [pgn_0, show t.1 + 1 - 1 - 0 = t.1 by omega, pgb_hi, Nat.pow_zero, Nat.div_one]
  | succ f ih =>
    intro t n i hn hi
    rw [pgn_s]
    rw [ndf_s] at hi ⊢
    by_cases c : n < 10
    · rw [if_pos c] at hi ⊢
      rw [if_pos c]
      have : i = 0 := by omega
      subst this
      rw [show t.1 + 1 - 1 - 0 = t.1 by omega, pgb_hi, Nat.pow_zero, Nat.div_one]
    · rw [if_neg c] at hi ⊢
      rw [if_neg c]
      have el := pgn_len f t (n / 10)
      have np := ndf_pos f (n / 10)
      cases i with
      | zero =>
        rw [show t.1 + (ndf f (n / 10) + 1) - 1 - 0 = (pgn f t (n / 10)).1 by omega, pgb_hi, Nat.pow_zero, Nat.div_one]
      | succ i =>
        have e10 : n / 10 < 10 ^ (f + 1) := by
          have : 10 ^ (f + 1 + 1) = 10 ^ (f + 1) * 10 := Nat.pow_succ ..
          omega
        have := ih t (n / 10) i e10 (by omega)
        rw [show t.1 + (ndf f (n / 10) + 1) - 1 - (i + 1) = t.1 + ndf f (n / 10) - 1 - i by omega, pgb_lo (by omega), this]
        congr 3
        rw [Nat.pow_succ, Nat.mul_comm, Nat.div_div_eq_div_mul]
/-- the digits of a number stop at its length -/
theorem dig_end (f : Nat) : ∀ n, n < 10 ^ (f + 1) → n / 10 ^ ndf f n = 0 := by
  induction f with
  | zero => intro n hn; rw [ndf_0]; exact Nat.div_eq_of_lt hn
  | succ f ih =>
    intro n hn
    rw [ndf_s]
    split
    · rw [Nat.pow_one]; omega
    · have e10 : n / 10 < 10 ^ (f + 1) := by
        have : 10 ^ (f + 1 + 1) = 10 ^ (f + 1) * 10 := Nat.pow_succ ..
        omega
      rw [Nat.pow_succ, Nat.mul_comm, ← Nat.div_div_eq_div_mul]
      exact ih _ e10
section S94
variable {D : Nat} {m : XM} {g : PG} {E : Nat → XM → Prop}
theorem dig8 {n : Nat} (h : n < 10) : (n32 (48 + n)).toInt8.toInt32.toInt8.toInt32 = n32 (48 + n) := byt2 ⟨48 + n, by omega, by omega, rfl⟩
theorem pred_lt (n : Nat) (hn : n < 1000) : n32 n - n32 1 < n32 n := by
  by_cases c : n = 0
  · subst c; decide
  · rw [n32_sub (by omega), n32_lt (by omega) (by omega)]; omega
/-- a number with its sign behind a page -/
def pgs (t : PGE) (v : Int32) : PGE := if n32 0 ≤ v then pgn 6 t (ix (iabs v)) else pgn 6 (pgb t (n32 45)) (ix (iabs v))
theorem pgs_le (t : PGE) (v : Int32) : (pgs t v).1 ≤ t.1 + 8 := by
  have h := ndf_le 6 (ix (iabs v))
  unfold pgs
  split
  · rw [pgn_len]; omega
  · rw [pgn_len]
    show t.1 + 1 + _ ≤ _
    omega
theorem iabs_ix {v : Int32} (h1 : -11000 ≤ v.toInt) (h2 : v.toInt ≤ 1000000) : iabs v = n32 (ix (iabs v)) ∧ ix (iabs v) ≤ 1000000 := by
  have key : ∃ n, n ≤ 1000000 ∧ iabs v = n32 n := by
    unfold iabs
    split
    · rename_i c
      rw [le_n32] at c
      refine ⟨v.toInt.toNat, by omega, ?_⟩
      apply Int32.toInt_inj.mp
      rw [n32_toInt (by omega)]; omega
    · rename_i c
      rw [le_n32] at c
      refine ⟨(-v.toInt).toNat, by omega, ?_⟩
      apply Int32.toInt_inj.mp
      rw [n32_toInt (by omega), Int32.toInt_neg, Int.bmod_def]
      split <;> omega
  obtain ⟨n, n1, n2⟩ := key
  rw [n2, ix_n32 (by omega)]
  exact ⟨rfl, n1⟩
/-- the places, with commas -/
def plaP (g : PG) : Nat → PGE
  | 0 => (0, fun _ => 0)
  | n + 1 => pgs (if n = 0 then plaP g n else pgb (plaP g n) (n32 44)) (g (15 + 7 * n + 1))
theorem plaP_s (g : PG) (n : Nat) : plaP g (n + 1) = pgs (if n = 0 then plaP g n else pgb (plaP g n) (n32 44)) (g (15 + 7 * n + 1)) := by rw [plaP]
theorem plaP_le (g : PG) : ∀ n, (plaP g n).1 ≤ 9 * n := by
  intro n
  induction n with
  | zero => exact Nat.le_refl _
  | succ n ih =>
    rw [plaP_s]
    have := pgs_le (if n = 0 then plaP g n else pgb (plaP g n) (n32 44)) (g (15 + 7 * n + 1))
    have e : (if n = 0 then plaP g n else pgb (plaP g n) (n32 44)).1 ≤ (plaP g n).1 + 1 := by
      split
      · exact Nat.le_succ _
      · exact Nat.le_refl _
    omega
/-- a byte of a word, in both ways -/
theorem byte_of (v : Int32) (k : Nat) (hk : k < 4) : ∃ n, n < 256 ∧ (v.toUInt32 >>> ((n32 (8 * k)).toUInt32 &&& Int32.toUInt32 31)).toInt32 &&& n32 255 = n32 n ∧ ((v >>> (n32 (8 * k) &&& 31)).toInt8.toInt32).toInt8.toInt32 = (n32 n).toInt8.toInt32 := by
  have hv : v.toInt = (v.toUInt32.toNat : Int) ∨ v.toInt = (v.toUInt32.toNat : Int) - 4294967296 := by
    have e : v.toInt = v.toBitVec.toInt := rfl
    have e2 : v.toUInt32.toNat = v.toBitVec.toNat := rfl
    rw [e, e2, BitVec.toInt_eq_toNat_cond]
    split
    · exact Or.inl rfl
    · exact Or.inr rfl
  have hl : v.toUInt32.toNat < 4294967296 := v.toUInt32.toNat_lt
  have a1 : ∀ k, k < 4 → ((n32 (8 * k)).toUInt32 &&& Int32.toUInt32 31).toNat % 32 = 8 * k := by decide
  have a2 : ∀ k, k < 4 → ((n32 (8 * k) &&& 31 : Int32).toBitVec.smod 32).toNat = 8 * k := by decide
  have u : ((v.toUInt32 >>> ((n32 (8 * k)).toUInt32 &&& Int32.toUInt32 31)).toInt32 &&& n32 255).toBitVec.toNat = v.toUInt32.toNat / 2 ^ (8 * k) % 256 := by
    have e : ((v.toUInt32 >>> ((n32 (8 * k)).toUInt32 &&& Int32.toUInt32 31)).toInt32 &&& n32 255).toBitVec.toNat = (v.toUInt32 >>> ((n32 (8 * k)).toUInt32 &&& Int32.toUInt32 31)).toNat &&& 255 := rfl
    rw [e, UInt32.toNat_shiftRight, a1 k hk, Nat.shiftRight_eq_div_pow]
    exact Nat.and_two_pow_sub_one_eq_mod _ 8
  have s : (v >>> (n32 (8 * k) &&& 31)).toInt = v.toInt / 2 ^ (8 * k) := by
    have e : (v >>> (n32 (8 * k) &&& 31)).toInt = (v.toBitVec.sshiftRight ((n32 (8 * k) &&& 31 : Int32).toBitVec.smod 32).toNat).toInt := rfl
    rw [e, a2 k hk, BitVec.toInt_sshiftRight, Int.shiftRight_eq_div_pow]
    rfl
  generalize v.toUInt32.toNat = U at hv hl u
  refine ⟨U / 2 ^ (8 * k) % 256, Nat.mod_lt _ (by omega), ?_, ?_⟩
  · apply Int32.toBitVec_inj.mp
    apply BitVec.eq_of_toNat_eq
    rw [u]
    have : (n32 (U / 2 ^ (8 * k) % 256)).toBitVec.toNat = U / 2 ^ (8 * k) % 256 % 2 ^ 32 := rfl
    rw [this]
    omega
  · apply Int32.toInt_inj.mp
    have e1 : ∀ x : Int32, x.toInt8.toInt32.toInt = x.toInt.bmod 256 := fun x => by
      rw [Int8.toInt_toInt32, Int32.toInt_toInt8]
    rw [e1, e1, e1, Int.bmod_bmod, s, n32_toInt (by omega)]
    rw [Int.bmod_def, Int.bmod_def]
    have key : v.toInt / 2 ^ (8 * k) % 256 = ((U / 2 ^ (8 * k) % 256 : Nat) : Int) % 256 := by
      match k, hk with
      | 0, _ => rcases hv with hv | hv <;> omega
      | 1, _ => rcases hv with hv | hv <;> omega
      | 2, _ => rcases hv with hv | hv <;> omega
      | 3, _ => rcases hv with hv | hv <;> omega
    rw [show ((256 : Nat) : Int) = 256 from rfl, key]
/-- the buffers hold the same l bytes -/
def BUF (m1 m2 : XM) (l : Nat) : Prop := m1 2 1 = n32 l ∧ m2 283 9 = n32 l ∧ ∀ i, i < l → BY (m1 3 i) (m2 289 i)
def FA1 (m m' : XM) : Prop := ∀ b k, ¬ (b = 2 ∧ k = 1) → b ≠ 3 → m' b k = m b k
def FA2 (m m' : XM) : Prop := ∀ b k, ¬ (b = 283 ∧ k = 9) → b ≠ 289 → m' b k = m b k
theorem FA1.tr {m1 m2 m3 : XM} (h1 : FA1 m1 m2) (h2 : FA1 m2 m3) : FA1 m1 m3 := fun b k c1 c2 => (h2 b k c1 c2).trans (h1 b k c1 c2)
theorem FA2.tr {m1 m2 m3 : XM} (h1 : FA2 m1 m2) (h2 : FA2 m2 m3) : FA2 m1 m3 := fun b k c1 c2 => (h2 b k c1 c2).trans (h1 b k c1 c2)
/-- the bytes of a word, the first one first -/
def wb (v : Int32) (k : Nat) : Int32 := (v.toUInt32 >>> ((n32 (8 * (3 - k))).toUInt32 &&& Int32.toUInt32 31)).toInt32 &&& n32 255
def wr (v : Int32) (k : Nat) : Int32 := ((v >>> (n32 (8 * (3 - k)) &&& 31)).toInt8.toInt32).toInt8.toInt32
theorem wb_wr (v : Int32) {k : Nat} (hk : k < 4) : BY (wb v k) (wr v k) := by
  obtain ⟨n, h1, h2, h3⟩ := byte_of v (3 - k) (by omega)
  exact ⟨n, h1, h2, h3⟩
theorem s82 {v : Int32} {l : Nat} {Q : XM → Prop} (hl : l + 4 ≤ 700) (e : m 2 1 = n32 l) (h : ∀ m', m' 2 1 = n32 (l + 4) → (∀ i, i < l → m' 3 i = m 3 i) → (∀ k, k < 4 → m' 3 (l + k) = wb v k) → FA1 m m' → Q m') : VU D 82 [vR 9 2, vI v] m Q E := by
  have nx : ∀ k, k < 4 → n32 (32 - 8 * k) - n32 8 = if k < 4 then n32 (32 - 8 * k) - n32 8 else n32 0 := fun k hk => by rw [if_pos hk]
  have go : VLU D 82 1 [(0, vR 9 2), (1, vI v), (2, vI (n32 (32 - 8 * 0) - n32 8))] [] m Q E := by
    refine upm (C := fun k m' => VLU D 82 1 [(0, vR 9 2), (1, vI v), (2, vI (n32 (32 - 8 * k) - n32 8))] [] m' Q E) (Inv := fun k m' => m' 2 1 = n32 (l + k) ∧ (∀ i, i < l → m' 3 i = m 3 i) ∧ (∀ j, j < k → m' 3 (l + j) = wb v j) ∧ FA1 m m') (n := 4) ?_ ?_ 0 m (Nat.zero_le _) ⟨e, fun _ _ => rfl, fun j hj => absurd hj (Nat.not_lt_zero j), fun _ _ _ _ => rfl⟩
    · intro k m1 hk hI ih
      obtain ⟨i1, i2, i3, i4⟩ := hI
      refine w82_1 ?_
      rw [n32_sub (by omega), i1, ix_n32 (show l + k < 2147483648 by omega)]
      refine ⟨fun c => absurd ((n32_lt (by omega) (by omega)).mp c) (by omega), fun _ => ⟨fun c => absurd ((n32_le (by omega) (by omega)).mp c) (by omega), fun _ => ⟨xin_n (by omega) (by omega), ?_⟩⟩⟩
      rintro μ rfl
      have e21 : ∀ x : Int32, um m1 (2 + 1) (l + k) x 2 1 = n32 (l + k) := fun x => by rw [um_a (by omega)]; exact i1
      rw [e21, n32_add, ← Int32.sub_eq_add_neg, show 32 - 8 * k - 8 = 32 - 8 * (k + 1) by omega]
      have ew : (v.toUInt32 >>> ((n32 (32 - 8 * (k + 1))).toUInt32 &&& Int32.toUInt32 31)).toInt32 &&& n32 255 = wb v k := by
        unfold wb
        rw [show 32 - 8 * (k + 1) = 8 * (3 - k) by omega]
      rw [ew]
      refine ih _ ⟨um_eq _ _ _ _, ?_, ?_, ?_⟩
      · intro i hi
        rw [um_a (by omega), um_k (by omega)]; exact i2 i hi
      · intro j hj
        rw [um_a (by omega)]
        by_cases ej : j = k
        · subst ej; rw [um_eq]
        · rw [um_k (by omega)]; exact i3 j (by omega)
      · refine i4.tr (fun b q c1 c2 => ?_)
        unfold um
        rw [if_neg c1, if_neg (fun e => c2 e.1)]
    · intro m1 hI
      obtain ⟨i1, i2, i3, i4⟩ := hI
      refine w82_1 ⟨fun _ => h m1 i1 i2 i3 i4, fun c => absurd ?_ c⟩
      decide
  exact w82_0 go
/-- behind an append: the coupling of what was not touched -/
theorem CPL_buf {m m' : XM} {N l : Nat} (h : CPL m N) (f : ∀ b k, REL b k → b ≠ 3 → b ≠ 289 → ¬ (b = 2 ∧ k = 1) → ¬ (b = 283 ∧ k = 9) → m' b k = m b k) (l7 : l ≤ 700) (hb : BUF m' m' l) : CPL m' N := by
  have fx : ∀ b k, REL b k → b ≠ 3 → b ≠ 289 → ¬ (b = 2 ∧ k = 1) → ¬ (b = 283 ∧ k = 9) → m' b k = m b k := f
  let m0 : XM := fun b k => if b = 3 ∨ b = 289 ∨ (b = 2 ∧ k = 1) ∨ (b = 283 ∧ k = 9) then m b k else m' b k
  have e0 : ∀ b k, ¬ (b = 3 ∨ b = 289 ∨ (b = 2 ∧ k = 1) ∨ (b = 283 ∧ k = 9)) → m0 b k = m' b k := fun b k hn => if_neg hn
  have h0 : CPL m0 N := CPL_fr h (Nat.le_refl _) (fun b k hr => by
    show (if _ then _ else _) = _
    split
    · rfl
    · rename_i hn
      exact fx b k hr (fun e => hn (Or.inl e)) (fun e => hn (Or.inr (Or.inl e))) (fun e => hn (Or.inr (Or.inr (Or.inl e)))) (fun e => hn (Or.inr (Or.inr (Or.inr e)))))
  obtain ⟨⟨a1, a2⟩, a3, ⟨o, k, b1, b2, b3, b4, b5, b6, b7⟩, c1, -, ⟨e1, e2⟩, p, p1, p2, p3, p4⟩ := h0
  have z : ∀ b k, b ≠ 3 → b ≠ 289 → b ≠ 2 → ¬ (b = 283 ∧ k = 9) → m' b k = m0 b k := fun b k z1 z2 z3 z4 => (e0 b k (by omega)).symm
  have zg : m' 284 = m0 284 := funext fun k => z _ _ (by omega) (by omega) (by omega) (by omega)
  have zs : ∀ b j, (b = 286 ∨ b = 287) → slG m' b j = slG m0 b j := fun b j hb => funext fun i => z _ _ (by omega) (by omega) (by omega) (by omega)
  have fR : ∀ d k, d < 5 → m' (69 + d) k = m0 (69 + d) k := fun d k hd => z _ _ (by omega) (by omega) (by omega) (by omega)
  have fS : ∀ a, 29 ≤ a → a + 20 ≤ 278 → ∀ d k, d < 20 → d ≠ 10 → m' (a + d) k = m0 (a + d) k := fun a ha ha2 d k hd _ => z _ _ (by omega) (by omega) (by omega) (by omega)
  have z07 := z 0 7 (by omega) (by omega) (by omega) (by omega)
  refine ⟨⟨?_, ?_⟩, ?_, ⟨o, k, ?_, b2, ?_, b4, ?_, ?_, ?_⟩, ?_, ⟨l, l7, hb.1, hb.2.1, hb.2.2⟩, ⟨?_, ?_⟩, p, p1, ?_, ?_, ?_⟩
  · rw [z07, z 283 6 (by omega) (by omega) (by omega) (by omega)]; exact a1
  · rw [z07]; exact a2
  · rw [z07]; intro h; exact SS_eq (a3 h) (Nat.le_refl _) zg (fS 29 (by omega) (by omega)) fR
  · rw [z 74 0 (by omega) (by omega) (by omega) (by omega)]; exact b1
  · rw [z 74 1 (by omega) (by omega) (by omega) (by omega)]; exact b3
  · rw [z 283 7 (by omega) (by omega) (by omega) (by omega)]; exact b5
  · rw [z07]; exact b6
  · intro j hj
    have : (o + j) % 8 < 8 := Nat.mod_lt _ (by omega)
    exact SS_eq (b7 j hj) (Nat.le_refl _) (zs _ _ (Or.inl rfl)) (fS _ (by omega) (by omega)) fR
  · intro s hs
    obtain ⟨q1, q2⟩ := c1 s hs
    rw [z 77 s (by omega) (by omega) (by omega) (by omega), z 288 s (by omega) (by omega) (by omega) (by omega), z07]
    refine ⟨q1, ?_⟩
    rcases q2 with q2 | ⟨q2, q3, q4⟩
    · exact Or.inl q2
    · exact Or.inr ⟨q2, q3, SS_eq q4 (Nat.le_refl _) (zs _ _ (Or.inr rfl)) (fS _ (by omega) (by omega)) fR⟩
  · rw [z 1 3 (by omega) (by omega) (by omega) (by omega), z 283 10 (by omega) (by omega) (by omega) (by omega)]; exact e1
  · rw [z 1 4 (by omega) (by omega) (by omega) (by omega), z 283 11 (by omega) (by omega) (by omega) (by omega)]; exact e2
  · rw [z 281 0 (by omega) (by omega) (by omega) (by omega)]; exact p2
  · rw [z 283 21 (by omega) (by omega) (by omega) (by omega)]; exact p3
  · intro i hi
    rw [z 282 i (by omega) (by omega) (by omega) (by omega), z 292 i (by omega) (by omega) (by omega) (by omega)]; exact p4 i hi
theorem by_next {m1 m1' m2 m2' : XM} {v : Int32} {l : Nat} (h : ∀ i, i < l → BY (m1 3 i) (m2 289 i)) (a1 : ∀ i, i < l → m1' 3 i = m1 3 i) (a2 : ∀ k, k < 4 → m1' 3 (l + k) = wb v k) (b1 : ∀ i, i < l → m2' 289 i = m2 289 i) (b2 : ∀ k, k < 4 → m2' 289 (l + k) = wr v k) : ∀ i, i < l + 4 → BY (m1' 3 i) (m2' 289 i) := by
  intro i hi
  by_cases c : i < l
  · rw [a1 i c, b1 i c]; exact h i c
  · have e : i = l + (i - l) := by omega
    rw [e, a2 _ (by omega), b2 _ (by omega)]
    exact wb_wr v (by omega)
end S94

