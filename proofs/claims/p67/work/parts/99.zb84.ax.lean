/-! Numbers and small contracts for the questions with a number of what is asked. -/
theorem n32_ne {a b : Nat} (h : a ≠ b) (ha : a < 2147483648) (hb : b < 2147483648) : ¬ n32 a = n32 b := fun e => h (n32_inj ha hb e)
/-- a number of what is asked: below 0, beyond k, or one of 0 to k -/
theorem rng_cases (v : Int32) (k : Nat) (hk : k < 2147483648) : (v < n32 0 ∧ inI v (n32 0) (n32 k) = n32 0) ∨ (¬ v < n32 0 ∧ n32 k < v ∧ inI v (n32 0) (n32 k) = n32 0) ∨ ∃ j, j ≤ k ∧ v = n32 j ∧ inI v (n32 0) (n32 k) = n32 1 := by
  unfold inI
  by_cases c1 : v < n32 0
  · rw [if_pos c1]; exact Or.inl ⟨c1, rfl⟩
  · rw [if_neg c1]
    by_cases c2 : n32 k < v
    · rw [if_pos c2]; exact Or.inr (Or.inl ⟨c1, c2, rfl⟩)
    · rw [if_neg c2]
      right; right
      rw [Int32.lt_iff_toInt_lt, n32_toInt (by omega)] at c1
      rw [Int32.lt_iff_toInt_lt, n32_toInt hk] at c2
      refine ⟨v.toInt.toNat, by omega, ?_, rfl⟩
      apply Int32.toInt_inj.mp
      rw [n32_toInt (by omega)]; omega
/-- how many bits of an int are set -/
def bitc (x : Int32) : Int32 := ((((((((x - (((x).toUInt32 >>> (((n32 1)).toUInt32 &&& Int32.toUInt32 31)).toInt32 &&& (n32 1431655765))) &&& (n32 858993459)) + ((((x - (((x).toUInt32 >>> (((n32 1)).toUInt32 &&& Int32.toUInt32 31)).toInt32 &&& (n32 1431655765)))).toUInt32 >>> (((n32 2)).toUInt32 &&& Int32.toUInt32 31)).toInt32 &&& (n32 858993459))) + (((((x - (((x).toUInt32 >>> (((n32 1)).toUInt32 &&& Int32.toUInt32 31)).toInt32 &&& (n32 1431655765))) &&& (n32 858993459)) + ((((x - (((x).toUInt32 >>> (((n32 1)).toUInt32 &&& Int32.toUInt32 31)).toInt32 &&& (n32 1431655765)))).toUInt32 >>> (((n32 2)).toUInt32 &&& Int32.toUInt32 31)).toInt32 &&& (n32 858993459)))).toUInt32 >>> (((n32 4)).toUInt32 &&& Int32.toUInt32 31)).toInt32) &&& (n32 252645135)) + (((((((x - (((x).toUInt32 >>> (((n32 1)).toUInt32 &&& Int32.toUInt32 31)).toInt32 &&& (n32 1431655765))) &&& (n32 858993459)) + ((((x - (((x).toUInt32 >>> (((n32 1)).toUInt32 &&& Int32.toUInt32 31)).toInt32 &&& (n32 1431655765)))).toUInt32 >>> (((n32 2)).toUInt32 &&& Int32.toUInt32 31)).toInt32 &&& (n32 858993459))) + (((((x - (((x).toUInt32 >>> (((n32 1)).toUInt32 &&& Int32.toUInt32 31)).toInt32 &&& (n32 1431655765))) &&& (n32 858993459)) + ((((x - (((x).toUInt32 >>> (((n32 1)).toUInt32 &&& Int32.toUInt32 31)).toInt32 &&& (n32 1431655765)))).toUInt32 >>> (((n32 2)).toUInt32 &&& Int32.toUInt32 31)).toInt32 &&& (n32 858993459)))).toUInt32 >>> (((n32 4)).toUInt32 &&& Int32.toUInt32 31)).toInt32) &&& (n32 252645135))).toUInt32 >>> (((n32 8)).toUInt32 &&& Int32.toUInt32 31)).toInt32) + ((((((((x - (((x).toUInt32 >>> (((n32 1)).toUInt32 &&& Int32.toUInt32 31)).toInt32 &&& (n32 1431655765))) &&& (n32 858993459)) + ((((x - (((x).toUInt32 >>> (((n32 1)).toUInt32 &&& Int32.toUInt32 31)).toInt32 &&& (n32 1431655765)))).toUInt32 >>> (((n32 2)).toUInt32 &&& Int32.toUInt32 31)).toInt32 &&& (n32 858993459))) + (((((x - (((x).toUInt32 >>> (((n32 1)).toUInt32 &&& Int32.toUInt32 31)).toInt32 &&& (n32 1431655765))) &&& (n32 858993459)) + ((((x - (((x).toUInt32 >>> (((n32 1)).toUInt32 &&& Int32.toUInt32 31)).toInt32 &&& (n32 1431655765)))).toUInt32 >>> (((n32 2)).toUInt32 &&& Int32.toUInt32 31)).toInt32 &&& (n32 858993459)))).toUInt32 >>> (((n32 4)).toUInt32 &&& Int32.toUInt32 31)).toInt32) &&& (n32 252645135)) + (((((((x - (((x).toUInt32 >>> (((n32 1)).toUInt32 &&& Int32.toUInt32 31)).toInt32 &&& (n32 1431655765))) &&& (n32 858993459)) + ((((x - (((x).toUInt32 >>> (((n32 1)).toUInt32 &&& Int32.toUInt32 31)).toInt32 &&& (n32 1431655765)))).toUInt32 >>> (((n32 2)).toUInt32 &&& Int32.toUInt32 31)).toInt32 &&& (n32 858993459))) + (((((x - (((x).toUInt32 >>> (((n32 1)).toUInt32 &&& Int32.toUInt32 31)).toInt32 &&& (n32 1431655765))) &&& (n32 858993459)) + ((((x - (((x).toUInt32 >>> (((n32 1)).toUInt32 &&& Int32.toUInt32 31)).toInt32 &&& (n32 1431655765)))).toUInt32 >>> (((n32 2)).toUInt32 &&& Int32.toUInt32 31)).toInt32 &&& (n32 858993459)))).toUInt32 >>> (((n32 4)).toUInt32 &&& Int32.toUInt32 31)).toInt32) &&& (n32 252645135))).toUInt32 >>> (((n32 8)).toUInt32 &&& Int32.toUInt32 31)).toInt32)).toUInt32 >>> (((n32 16)).toUInt32 &&& Int32.toUInt32 31)).toInt32) &&& (n32 63))
def bitr (x : Int32) : Int32 := itr 12 (fun i c => c + ((x >>> (n32 i &&& 31)) &&& n32 1)) (n32 0)
def tbk (k : Nat) (i : Nat) : Bool := k.testBit i
theorem bitc_all : ((List.range 4096).all fun k => bitc (bset 12 (tbk k)) == n32 (cnt 12 (tbk k)) && bitr (bset 12 (tbk k)) == n32 (cnt 12 (tbk k))) = true := by decide +kernel
theorem mask_of (p : Nat → Bool) : ∀ n, ∃ k, k < 2 ^ n ∧ ∀ i, tbk k i = (decide (i < n) && p i) := by
  intro n
  induction n with
  | zero =>
    refine ⟨0, by decide, fun i => ?_⟩
    unfold tbk
    rw [Nat.zero_testBit]
    simp
  | succ n ih =>
    obtain ⟨k, hk, hi⟩ := ih
    have e2 : 2 ^ (n + 1) = 2 ^ n + 2 ^ n := by rw [Nat.pow_succ]; omega
    by_cases hp : p n = true
    · refine ⟨2 ^ n + k, by omega, fun i => ?_⟩
      unfold tbk at hi ⊢
      by_cases h1 : i < n
      · rw [Nat.testBit_two_pow_add_gt h1, hi i, decide_eq_true h1, decide_eq_true (show i < n + 1 by omega)]
      · by_cases h2 : i = n
        · subst h2
          rw [Nat.testBit_two_pow_add_eq, hi i, decide_eq_false h1, decide_eq_true (show i < i + 1 by omega), hp]; rfl
        · rw [decide_eq_false (show ¬ i < n + 1 by omega), Bool.false_and]
          refine Nat.testBit_lt_two_pow ?_
          have : 2 ^ (n + 1) ≤ 2 ^ i := Nat.pow_le_pow_right (by omega) (by omega)
          omega
    · refine ⟨k, by omega, fun i => ?_⟩
      rw [hi i]
      by_cases h1 : i < n
      · rw [decide_eq_true h1, decide_eq_true (show i < n + 1 by omega)]
      · by_cases h2 : i = n
        · subst h2
          rw [decide_eq_false h1, decide_eq_true (show i < i + 1 by omega)]
          cases h : p i with
          | true => exact absurd h hp
          | false => rfl
        · rw [decide_eq_false h1, decide_eq_false (show ¬ i < n + 1 by omega)]
theorem bset_ext {n : Nat} (p : Nat → Bool) : ∀ d, bset (n + d) (fun i => decide (i < n) && p i) = bset n p := by
  intro d
  induction d with
  | zero => exact bset_congr fun i hi => by rw [decide_eq_true (show i < n from hi), Bool.true_and]
  | succ d ih =>
    rw [← Nat.add_assoc, bset_succ, decide_eq_false (show ¬ n + d < n by omega), Bool.false_and, if_neg (by decide)]
    exact ih
theorem cnt_ext {n : Nat} (p : Nat → Bool) : ∀ d, cnt (n + d) (fun i => decide (i < n) && p i) = cnt n p := by
  intro d
  induction d with
  | zero => exact cnt_congr fun i hi => by rw [decide_eq_true (show i < n from hi), Bool.true_and]
  | succ d ih =>
    rw [← Nat.add_assoc, cnt_succ, decide_eq_false (show ¬ n + d < n by omega), Bool.false_and, if_neg (by decide)]
    exact ih
theorem bits_bset {n : Nat} (p : Nat → Bool) (h : n ≤ 12) : bitc (bset n p) = n32 (cnt n p) ∧ bitr (bset n p) = n32 (cnt n p) := by
  obtain ⟨k, hk, hi⟩ := mask_of p n
  have hk12 : k < 4096 := by
    have : 2 ^ n ≤ 2 ^ 12 := Nat.pow_le_pow_right (by omega) h
    omega
  have e1 : bset 12 (tbk k) = bset n p := by
    have : 12 = n + (12 - n) := by omega
    rw [show tbk k = (fun i => decide (i < n) && p i) from funext hi, this]
    exact bset_ext p _
  have e2 : cnt 12 (tbk k) = cnt n p := by
    have : 12 = n + (12 - n) := by omega
    rw [show tbk k = (fun i => decide (i < n) && p i) from funext hi, this]
    exact cnt_ext p _
  have := List.all_eq_true.mp bitc_all k (List.mem_range.mpr hk12)
  rw [Bool.and_eq_true, e1, e2, beq_iff_eq, beq_iff_eq] at this
  exact this
section S84
variable {D : Nat} {m : XM} {g : PG} {E : Nat → XM → Prop}
theorem s58 {a n : Nat} {v1 : Int32} {Q : Int32 → XM → Prop} (hn : m a 0 = n32 n) (h12 : n ≤ 12) (h : Q (n32 (cnt n fun k => decide (¬ k = 0) && decide (¬ v1 < m (a + 6) (k - 1) - m (a + 6) k))) m) : VI (D + 1) 58 [vR 7 a, vI v1] m Q E := by
  refine w58_0 ?_
  by_cases h0 : n = 0
  · subst h0
    refine w58_1 ?_
    rw [hn]
    exact ⟨fun _ => h, fun c => absurd ((n32_le (by omega) (by omega)).mpr (by omega)) c⟩
  · have go : VLI (D + 1) 58 1 [(0, vR 7 a), (1, vI v1), (2, vI (n32 (cnt 1 fun k => decide (¬ k = 0) && decide (¬ v1 < m (a + 6) (k - 1) - m (a + 6) k)))), (3, vI (n32 1))] [] m Q E := by
      refine up (C := fun i => 1 ≤ i → VLI (D + 1) 58 1 [(0, vR 7 a), (1, vI v1), (2, vI (n32 (cnt i fun k => decide (¬ k = 0) && decide (¬ v1 < m (a + 6) (k - 1) - m (a + 6) k)))), (3, vI (n32 i))] [] m Q E) (n := n) ?_ ?_ 1 (by omega) (Nat.le_refl _)
      · intro i hi ih h1
        have ih := ih (by omega)
        refine w58_1 ?_
        simp (disch := omega) only [hn, le_f, n32_add, n32_sub, xin_t, ix_n32, false_implies, not_false_eq_true, true_implies, true_and]
        rw [cnt_succ, decide_eq_true (show ¬ i = 0 by omega), Bool.true_and] at ih
        by_cases c : v1 < m (a + 6) (i - 1) - m (a + 6) i
        · rw [decide_eq_false (fun e => e c), if_neg (by decide)] at ih
          exact ⟨fun _ => ih, fun c' => absurd c c'⟩
        · rw [decide_eq_true c, if_pos rfl] at ih
          exact ⟨fun c' => absurd c' c, fun _ => ih⟩
      · intro _
        refine w58_1 ?_
        rw [hn]
        exact ⟨fun _ => h, fun c => absurd (n32_rfl _) c⟩
    have e1 : cnt 1 (fun k => decide (¬ k = 0) && decide (¬ v1 < m (a + 6) (k - 1) - m (a + 6) k)) = 0 := rfl
    rw [e1] at go
    exact go
theorem s59 {a : Nat} {Q : Int32 → XM → Prop} (w : WF g) (r : RS m a g) (h : Q (isum (nBr g) fun b => stride (g (15 + 7 * b + 2)) (g (15 + 7 * b + 4))) m) : VI (D + 1) 59 [vR 7 (a + 3)] m Q E := by
  have a2 := w.nb
  have h6 : m (a + 3) 0 = n32 (nBr g) := by rw [r.nb]; exact w.1.1
  refine w59_0 (up (C := fun i => VLI (D + 1) 59 1 [(0, vR 7 (a + 3)), (1, vI (isum i fun b => stride (g (15 + 7 * b + 2)) (g (15 + 7 * b + 4)))), (2, vI (n32 i))] [] m Q E) (n := nBr g) ?_ ?_ 0 (Nat.zero_le _))
  · intro i hi ih
    refine w59_1 ?_
    rw [h6]
    simp (disch := omega) only [le_f, n32_add, false_implies, not_false_eq_true, true_implies, true_and]
    exact s50 (by omega) (r.step hi) (r.str hi) (w.st_b hi) (w.b4 hi) ih
  · refine w59_1 ?_
    rw [h6]
    exact ⟨fun _ => h, fun c => absurd (n32_rfl _) c⟩
theorem s167 {Q : Int32 → XM → Prop} (w : WF g) (r : RS m 29 g) (rt : RT m 69 g) (h : Q (n32 (cnt (nSt g) fun s => decide (¬ bset (nBr g) (fun b => seesG g s b) = n32 0))) m) : VI (D + 3) 167 [vR 10 0] m Q E := by
  have a4 := w.ns
  have h7 : m 69 0 = n32 (nSt g) := by rw [rt.1]; exact w.2.1.1
  refine w167_0 (up (C := fun i => VLI (D + 3) 167 1 [(0, vR 10 0), (1, vI (n32 (cnt i fun s => decide (¬ bset (nBr g) (fun b => seesG g s b) = n32 0)))), (2, vI (n32 i))] [] m Q E) (n := nSt g) ?_ ?_ 0 (Nat.zero_le _))
  · intro i hi ih
    refine w167_1 ?_
    rw [h7]
    simp (disch := omega) only [le_f, n32_add, false_implies, not_false_eq_true, true_implies, true_and]
    refine s169 w r rt hi ?_
    rw [cnt_succ] at ih
    by_cases c : bset (nBr g) (fun b => seesG g i b) = n32 0
    · rw [decide_eq_false (fun e => e c), if_neg (by decide)] at ih
      exact ⟨fun _ => ih, fun c' => absurd c c'⟩
    · rw [decide_eq_true c, if_pos rfl] at ih
      exact ⟨fun c' => absurd c' c, fun _ => ih⟩
  · refine w167_1 ?_
    rw [h7]
    exact ⟨fun _ => h, fun c => absurd (n32_rfl _) c⟩
theorem s168 {b : Nat} {Q : Int32 → XM → Prop} (w : WF g) (r : RS m 29 g) (rt : RT m 69 g) (hb : b < nBr g) (h : Q (n32 (cnt (nSt g) fun s => seesG g s b)) m) : VI (D + 2) 168 [vR 10 0, vI (n32 b)] m Q E := by
  have a4 := w.ns
  have h7 : m 69 0 = n32 (nSt g) := by rw [rt.1]; exact w.2.1.1
  refine w168_0 (up (C := fun i => VLI (D + 2) 168 1 [(0, vR 10 0), (1, vI (n32 b)), (2, vI (n32 (cnt i fun s => seesG g s b))), (3, vI (n32 i))] [] m Q E) (n := nSt g) ?_ ?_ 0 (Nat.zero_le _))
  · intro i hi ih
    refine w168_1 ?_
    simp (disch := omega) only [h7, le_f, xin_t, ix_n32, (rt.2 i hi).2.1, n32_add, false_implies, not_false_eq_true, true_implies, true_and]
    refine s79 (s := i) w r hb ?_
    rw [cnt_succ] at ih
    by_cases c : seesG g i b = true
    · rw [if_pos c] at ih ⊢
      exact ⟨fun c => absurd c n01, fun _ => ih⟩
    · rw [if_neg c] at ih ⊢
      exact ⟨fun _ => ih, fun c => absurd rfl c⟩
  · refine w168_1 ?_
    rw [h7]
    exact ⟨fun _ => h, fun c => absurd (n32_rfl _) c⟩
/-- the least difference of a place and those of the bearers, or -1 -/
def ldG (d : Nat → Int32) (n : Nat) : Int32 := itr n (fun i l => if l = -(n32 1) then d i else imin l (d i)) (-(n32 1))
theorem ldG_succ (d : Nat → Int32) (n : Nat) : ldG d (n + 1) = if ldG d n = -(n32 1) then d n else imin (ldG d n) (d n) := rfl
theorem s66 {a : Nat} {v : Int32} {Q : Int32 → XM → Prop} (w : WF g) (r : RS m a g) (h : Q (ldG (fun b => iabs (g (15 + 7 * b + 1) - v)) (nBr g)) m) : VI (D + 1) 66 [vR 7 (a + 3), vI v] m Q E := by
  have a2 := w.nb
  have h6 : m (a + 3) 0 = n32 (nBr g) := by rw [r.nb]; exact w.1.1
  refine w66_0 (up (C := fun i => VLI (D + 1) 66 1 [(0, vR 7 (a + 3)), (1, vI v), (2, vI (ldG (fun b => iabs (g (15 + 7 * b + 1) - v)) i)), (3, vI (n32 i))] [] m Q E) (n := nBr g) ?_ ?_ 0 (Nat.zero_le _))
  · intro i hi ih
    refine w66_1 ?_
    rw [h6]
    simp (disch := omega) only [le_f, xin_t, ix_n32, r.pla hi, n32_add, false_implies, not_false_eq_true, true_implies, true_and]
    refine s384 ?_
    rw [ldG_succ] at ih
    try dsimp only at ih
    by_cases c1 : ldG (fun b => iabs (g (15 + 7 * b + 1) - v)) i = -(n32 1)
    · rw [if_pos c1] at ih
      exact ⟨fun _ => ih, fun c => absurd c1 c⟩
    · rw [if_neg c1] at ih
      refine ⟨fun c => absurd c c1, fun _ => ?_⟩
      unfold imin at ih
      by_cases c2 : ldG (fun b => iabs (g (15 + 7 * b + 1) - v)) i ≤ iabs (g (15 + 7 * i + 1) - v)
      · rw [if_neg (Int32.not_lt.mpr c2)] at ih
        exact ⟨fun _ => ih, fun c => absurd c2 c⟩
      · rw [if_pos (Int32.not_le.mp c2)] at ih
        exact ⟨fun c => absurd c c2, fun _ => ih⟩
  · refine w66_1 ?_
    rw [h6]
    exact ⟨fun _ => h, fun c => absurd (n32_rfl _) c⟩
end S84

