/-! What holds of every picture that a run comes to. -/
def inR (x : Int32) (lo hi : Nat) : Prop := ∃ n, lo ≤ n ∧ n ≤ hi ∧ x = n32 n
theorem inR_of {x : Int32} {lo hi : Nat} (h1 : n32 lo ≤ x) (h2 : x ≤ n32 hi) (hl : lo < 2147483648) (hh : hi < 2147483648) : inR x lo hi := by
  have h0 : n32 0 ≤ x := Int32.le_trans ((n32_le (by omega) (by omega)).mpr (Nat.zero_le lo)) h1
  obtain ⟨n, h3, rfl⟩ := n32_of h0 h2 hh
  exact ⟨n, (n32_le (by omega) (by omega)).mp h1, h3, rfl⟩
theorem stride_ok {x y : Int32} (hx : inR x 0 200) (hy : inR y 0 100) : FP.fmul (FP.i2f x) (FP.i2f y) &&& 0x7fffffff ≤ 0x7f800000 ∧ FP.fdiv (FP.fmul (FP.i2f x) (FP.i2f y)) (UInt32.ofNat 1120403456) &&& 0x7fffffff ≤ 0x7f800000 ∧ inR (stride x y) 0 200 := by
  obtain ⟨a, -, ha, rfl⟩ := hx
  obtain ⟨b, -, hb, rfl⟩ := hy
  have h := strideChk_ok ha hb
  unfold strideChk fcond at h
  simp only [Bool.and_eq_true, decide_eq_true_eq] at h
  obtain ⟨⟨⟨h1, h2⟩, h3⟩, h4⟩ := h
  exact ⟨h1, h2, inR_of h3 h4 (by omega) (by omega)⟩
/-- how many bearers carry a banner -/
def carried (g : PG) : Nat := cnt (nBr g) fun b => decide (¬ g (15 + 7 * b) = n32 0)
def WF (g : PG) : Prop :=
  (g 6 = n32 (nBr g) ∧ nBr g ≤ 12) ∧ (g 7 = n32 (nSt g) ∧ nSt g ≤ 6) ∧ (g 8 = n32 (nPl g) ∧ nPl g ≤ 12) ∧ (g 10 = n32 (nL g) ∧ nL g + carried g = nBr g) ∧
  (inR (g 0) 1 999 ∧ inR (g 1) 0 9999 ∧ inR (g 2) 1 9999 ∧ inR (g 3) 0 50 ∧ inR (g 4) 1 100 ∧ inR (g 5) 0 9999) ∧
  (∀ b, b < nBr g → inR (g (15 + 7 * b)) 0 26) ∧ (∀ b, b < nBr g → inR (g (15 + 7 * b + 2)) 1 200) ∧ (∀ b, b < nBr g → inR (g (15 + 7 * b + 3)) 0 20) ∧ (∀ b, b < nBr g → inR (g (15 + 7 * b + 4)) 0 100) ∧ (∀ b, b < nBr g → inR (g (15 + 7 * b + 6)) 1 26) ∧
  (∀ k, k < nPl g → g (171 + 3 * k + 1) = n32 (aheadG g k) ∧ aheadG g k + 1 < nBr g) ∧ (∀ k, k < nL g → inR (g (207 + 3 * k)) 1 26) ∧
  (∀ s, s < nSt g → inR (g (99 + 12 * s)) 0 1 ∧ inR (g (99 + 12 * s + 2)) 1 8 ∧ ∀ i, i < ix (g (99 + 12 * s + 2)) → inR (g (99 + 12 * s + 4 + i)) 97 122)
theorem cnt_chg {n b : Nat} {p q : Nat → Bool} (hb : b < n) (h : ∀ i, i ≠ b → q i = p i) : cnt n q + (if p b then 1 else 0) = cnt n p + (if q b then 1 else 0) := by
  induction n with
  | zero => omega
  | succ n ih =>
    rw [cnt_succ, cnt_succ]
    by_cases e : b = n
    · subst e
      have : cnt b q = cnt b p := cnt_congr fun i hi => h i (by omega)
      rw [this]; split <;> split <;> omega
    · have := ih (by omega)
      rw [h n (fun e' => e e'.symm)]
      split <;> omega
theorem cnt_swap {n b : Nat} {p q : Nat → Bool} (hb : b + 1 < n) (h1 : q b = p (b + 1)) (h2 : q (b + 1) = p b) (h : ∀ i, i ≠ b → i ≠ b + 1 → q i = p i) : cnt n q = cnt n p := by
  induction n with
  | zero => omega
  | succ n ih =>
    by_cases e : b + 1 = n
    · subst e
      rw [cnt_succ, cnt_succ, cnt_succ, cnt_succ, h1, h2]
      have : cnt b q = cnt b p := cnt_congr fun i hi => h i (by omega) (by omega)
      rw [this]; split <;> split <;> omega
    · rw [cnt_succ, cnt_succ, ih (by omega), h n (by omega) (by omega)]
/-- a picture that differs in times, places, moves, outcomes, counters and such alone -/
theorem WF_of {g g' : PG} (h : WF g) (h6 : g' 6 = g 6) (h7 : g' 7 = g 7) (h8 : g' 8 = g 8) (h10 : g' 10 = n32 (nL g')) (hc : nL g' + carried g' = nBr g) (hs : ∀ k, k < 6 → g' k = g k)
    (hb0 : ∀ b, b < nBr g → inR (g' (15 + 7 * b)) 0 26) (hb2 : ∀ b, b < nBr g → g' (15 + 7 * b + 2) = g (15 + 7 * b + 2)) (hb3 : ∀ b, b < nBr g → g' (15 + 7 * b + 3) = g (15 + 7 * b + 3)) (hb4 : ∀ b, b < nBr g → inR (g' (15 + 7 * b + 4)) 0 100) (hb6 : ∀ b, b < nBr g → g' (15 + 7 * b + 6) = g (15 + 7 * b + 6))
    (hp : ∀ k, k < nPl g → g' (171 + 3 * k + 1) = g (171 + 3 * k + 1)) (hl : ∀ k, k < nL g' → inR (g' (207 + 3 * k)) 1 26) (hst : ∀ s, s < nSt g → ∀ i, i < 12 → i ≠ 3 → g' (99 + 12 * s + i) = g (99 + 12 * s + i)) : WF g' := by
  obtain ⟨⟨a1, a2⟩, ⟨a3, a4⟩, ⟨a5, a6⟩, ⟨a7, a8⟩, ⟨c0, c1, c2, c3, c4, c5⟩, b0, b2, b3, b4, b6, p1, l1, s1⟩ := h
  have n6 : nBr g' = nBr g := by unfold nBr; rw [h6]
  have n7 : nSt g' = nSt g := by unfold nSt; rw [h7]
  have n8 : nPl g' = nPl g := by unfold nPl; rw [h8]
  refine ⟨⟨by rw [n6, h6]; exact a1, by rw [n6]; exact a2⟩, ⟨by rw [n7, h7]; exact a3, by rw [n7]; exact a4⟩, ⟨by rw [n8, h8]; exact a5, by rw [n8]; exact a6⟩, ⟨h10, by rw [n6]; exact hc⟩, ⟨?_, ?_, ?_, ?_, ?_, ?_⟩, ?_, ?_, ?_, ?_, ?_, ?_, hl, ?_⟩
  · rw [hs 0 (by omega)]; exact c0
  · rw [hs 1 (by omega)]; exact c1
  · rw [hs 2 (by omega)]; exact c2
  · rw [hs 3 (by omega)]; exact c3
  · rw [hs 4 (by omega)]; exact c4
  · rw [hs 5 (by omega)]; exact c5
  · rw [n6]; exact hb0
  · rw [n6]; intro b hb; rw [hb2 b hb]; exact b2 b hb
  · rw [n6]; intro b hb; rw [hb3 b hb]; exact b3 b hb
  · rw [n6]; exact hb4
  · rw [n6]; intro b hb; rw [hb6 b hb]; exact b6 b hb
  · rw [n8, n6]; intro k hk
    have e : aheadG g' k = aheadG g k := by unfold aheadG; rw [hp k hk]
    rw [e, hp k hk]; exact p1 k hk
  · rw [n7]; intro s hs'
    have e0 := hst s hs' 0 (by omega) (by omega)
    have e2 := hst s hs' 2 (by omega) (by omega)
    rw [Nat.add_zero] at e0
    obtain ⟨q1, q2, q3⟩ := s1 s hs'
    rw [e0, e2]
    refine ⟨q1, q2, ?_⟩
    intro i hi
    obtain ⟨n, hn1, hn2, hn3⟩ := q2
    have : i < 8 := by
      rw [hn3, ix_n32 (by omega)] at hi; omega
    have e4 := hst s hs' (4 + i) (by omega) (by omega)
    rw [← Nat.add_assoc] at e4
    rw [e4]; exact q3 i hi
theorem imin_imax_R (x : Int32) : inR (imax (n32 0) (imin (n32 100) x)) 0 100 := by
  unfold imax imin
  by_cases h1 : x < n32 100
  · rw [if_pos h1]
    by_cases h2 : n32 0 < x
    · rw [if_pos h2]; exact inR_of (Int32.le_of_lt h2) (Int32.le_of_lt h1) (by omega) (by omega)
    · rw [if_neg h2]; exact ⟨0, by omega, by omega, rfl⟩
  · rw [if_neg h1]
    have h3 : n32 0 < n32 100 := (n32_lt (by omega) (by omega)).mpr (by omega)
    rw [if_pos h3]; exact ⟨100, by omega, by omega, rfl⟩
