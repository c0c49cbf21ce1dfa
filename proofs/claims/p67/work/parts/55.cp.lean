/-! Copies. -/
def cpy (m : XM) (a0 a1 n : Nat) : XM := fun b k => if b = a1 ∧ k < n then m a0 k else m b k
theorem cpy_0 (m : XM) (a0 a1 : Nat) : cpy m a0 a1 0 = m := by
  funext b k; unfold cpy; rw [if_neg (fun e => absurd e.2 (Nat.not_lt_zero k))]
theorem cpy_succ {m : XM} {a0 a1 i : Nat} (h : a0 ≠ a1) : um (cpy m a0 a1 i) a1 i (cpy m a0 a1 i a0 i) = cpy m a0 a1 (i + 1) := by
  funext b k
  have e : cpy m a0 a1 i a0 i = m a0 i := by unfold cpy; rw [if_neg (fun e => h e.1)]
  rw [e]
  unfold um cpy
  by_cases h1 : b = a1
  · subst h1
    by_cases h2 : k = i
    · subst h2; rw [if_pos ⟨rfl, rfl⟩, if_pos ⟨rfl, by omega⟩]
    · rw [if_neg (fun e => h2 e.2)]
      by_cases h3 : k < i
      · rw [if_pos ⟨rfl, h3⟩, if_pos ⟨rfl, by omega⟩]
      · rw [if_neg (fun e => h3 e.2), if_neg (fun e => absurd e.2 (by omega))]
  · rw [if_neg (fun e => h1 e.1), if_neg (fun e => h1 e.1), if_neg (fun e => h1 e.1)]
/-- 243 ints from one array, from p on, into another, from q on; the first i of them -/
def lay (m : XM) (a0 p a2 q i : Nat) : XM := fun b k => if b = a2 ∧ q ≤ k ∧ k < q + i then m a0 (p + (k - q)) else m b k
theorem lay_0 (m : XM) (a0 p a2 q : Nat) : lay m a0 p a2 q 0 = m := by
  funext b k; unfold lay; rw [if_neg (by omega)]
theorem lay_succ {m : XM} {a0 p a2 q i : Nat} (h : a0 ≠ a2) : um (lay m a0 p a2 q i) a2 (q + i) (lay m a0 p a2 q i a0 (p + i)) = lay m a0 p a2 q (i + 1) := by
  funext b k
  have e : lay m a0 p a2 q i a0 (p + i) = m a0 (p + i) := by unfold lay; rw [if_neg (fun e => h e.1)]
  rw [e]
  unfold um lay
  by_cases h1 : b = a2
  · subst h1
    by_cases h2 : k = q + i
    · subst h2
      rw [if_pos ⟨rfl, rfl⟩, if_pos ⟨rfl, by omega, by omega⟩, show p + (q + i - q) = p + i by omega]
    · rw [if_neg (fun e => h2 e.2)]
      by_cases h3 : q ≤ k ∧ k < q + i
      · rw [if_pos ⟨rfl, h3⟩, if_pos ⟨rfl, h3.1, by omega⟩]
      · rw [if_neg (fun e => h3 e.2), if_neg (fun e => absurd e.2 (by omega))]
  · rw [if_neg (fun e => h1 e.1), if_neg (fun e => h1 e.1), if_neg (fun e => h1 e.1)]
section CO
variable {D : Nat} {m : XM} {E : Nat → XM → Prop} {Q : XM → Prop}
theorem s172n12 {a0 a1 : Nat} (h : a0 ≠ a1) (hq : Q (cpy m a0 a1 12)) : VU D 172 [vR 200012 a0, vR 200012 a1] m Q E := by
  have := up (C := fun i => VLU D 172 1 [(0, vR 200012 a0), (1, vR 200012 a1), (2, vI (n32 i))] [] (cpy m a0 a1 i) Q E) (n := 12) ?_ ?_ 0 (Nat.zero_le _)
  · rw [cpy_0] at this
    exact w172n12_0 this
  · intro i hi ih
    refine w172n12_1 ?_
    simp (disch := omega) only [n32_add, xin_t, ix_n32, le_f, false_implies, true_implies, not_false_eq_true, true_and]
    rw [cpy_succ h]; exact ih
  · exact w172n12_1 ⟨fun _ => hq, fun c => absurd (n32_rfl _) c⟩
theorem s172n6 {a0 a1 : Nat} (h : a0 ≠ a1) (hq : Q (cpy m a0 a1 6)) : VU D 172 [vR 200006 a0, vR 200006 a1] m Q E := by
  have := up (C := fun i => VLU D 172 1 [(0, vR 200006 a0), (1, vR 200006 a1), (2, vI (n32 i))] [] (cpy m a0 a1 i) Q E) (n := 6) ?_ ?_ 0 (Nat.zero_le _)
  · rw [cpy_0] at this
    exact w172n6_0 this
  · intro i hi ih
    refine w172n6_1 ?_
    simp (disch := omega) only [n32_add, xin_t, ix_n32, le_f, false_implies, true_implies, not_false_eq_true, true_and]
    rw [cpy_succ h]; exact ih
  · exact w172n6_1 ⟨fun _ => hq, fun c => absurd (n32_rfl _) c⟩
theorem s172n48 {a0 a1 : Nat} (h : a0 ≠ a1) (hq : Q (cpy m a0 a1 48)) : VU D 172 [vR 200048 a0, vR 200048 a1] m Q E := by
  have := up (C := fun i => VLU D 172 1 [(0, vR 200048 a0), (1, vR 200048 a1), (2, vI (n32 i))] [] (cpy m a0 a1 i) Q E) (n := 48) ?_ ?_ 0 (Nat.zero_le _)
  · rw [cpy_0] at this
    exact w172n48_0 this
  · intro i hi ih
    refine w172n48_1 ?_
    simp (disch := omega) only [n32_add, xin_t, ix_n32, le_f, false_implies, true_implies, not_false_eq_true, true_and]
    rw [cpy_succ h]; exact ih
  · exact w172n48_1 ⟨fun _ => hq, fun c => absurd (n32_rfl _) c⟩
end CO
def cpv (d k : Nat) : Prop := (d = 0 ∧ k < 4) ∨ ((d = 1 ∨ d = 2) ∧ k < 6) ∨ ((d = 3 ∨ d = 12 ∨ d = 16) ∧ k = 0) ∨ ((4 ≤ d ∧ d < 20 ∧ d ≠ 10 ∧ d ≠ 12 ∧ d ≠ 16) ∧ k < 12)
theorem lvn_cpv {d k i : Nat} (h : lvn 12 12 12 d k i) : cpv d k := by
  unfold cpv
  rcases h with h | h | h | h | h | h
  · left; omega
  · right; left; omega
  · right; right; left; omega
  · right; right; right; omega
  · right; right; right; omega
  · right; right; right; omega
/-- rows of the State at a1 that are copied to the State at a0: those in L -/
def CPs (a1 a0 : Nat) (L : List Nat) (m m' : XM) : Prop := (∀ d, d ∈ L → ∀ k, cpv d k → m' (a0 + d) k = m (a1 + d) k) ∧ ∀ b k, (∀ d, d ∈ L → b ≠ a0 + d) → m' b k = m b k
def CP (a1 a0 : Nat) (m m' : XM) : Prop := (∀ d k, cpv d k → m' (a0 + d) k = m (a1 + d) k) ∧ ∀ b k, (b < a0 ∨ a0 + 20 ≤ b) → m' b k = m b k
theorem CPs_row {a1 a0 d0 n : Nat} {L : List Nat} {m m' : XM} (h : CPs a1 a0 L m m') (hL : ∀ d, d ∈ L → d < 20) (far : a1 + 20 ≤ a0 ∨ a0 + 20 ≤ a1) (hd : d0 < 20) (hn : ∀ k, cpv d0 k → k < n) : CPs a1 a0 (d0 :: L) m (cpy m' (a1 + d0) (a0 + d0) n) := by
  obtain ⟨h1, h2⟩ := h
  constructor
  · intro d hm k hk
    unfold cpy
    by_cases e : d = d0
    · subst e
      rw [if_pos ⟨rfl, hn k hk⟩]
      exact h2 _ _ (fun d' hd' => by have := hL d' hd'; omega)
    · rw [if_neg (fun e' => e (by omega))]
      rcases List.mem_cons.mp hm with e' | hm
      · exact absurd e' e
      · exact h1 d hm k hk
  · intro b k hb
    unfold cpy
    rw [if_neg (fun e => hb d0 List.mem_cons_self e.1)]
    exact h2 b k (fun d hd => hb d (List.mem_cons_of_mem _ hd))
theorem CPs_cell {a1 a0 d0 : Nat} {L : List Nat} {m m' : XM} (h : CPs a1 a0 L m m') (hL : ∀ d, d ∈ L → d < 20) (far : a1 + 20 ≤ a0 ∨ a0 + 20 ≤ a1) (hd : d0 < 20) (hn : ∀ k, cpv d0 k → k = 0) : CPs a1 a0 (d0 :: L) m (um m' (a0 + d0) 0 (m' (a1 + d0) 0)) := by
  obtain ⟨h1, h2⟩ := h
  constructor
  · intro d hm k hk
    by_cases e : d = d0
    · subst e
      have := hn k hk
      subst this
      rw [um_eq]
      exact h2 _ _ (fun d' hd' => by have := hL d' hd'; omega)
    · rw [um_a (by omega)]
      rcases List.mem_cons.mp hm with e' | hm
      · exact absurd e' e
      · exact h1 d hm k hk
  · intro b k hb
    rw [um_a (hb d0 List.mem_cons_self)]
    exact h2 b k (fun d hd => hb d (List.mem_cons_of_mem _ hd))
theorem CPs_zero {a1 a0 : Nat} {m : XM} (far : a1 + 20 ≤ a0 ∨ a0 + 20 ≤ a1) : CPs a1 a0 [0] m (um (um (um (um m a0 0 (m a1 0)) a0 1 (m a1 1)) a0 2 (m a1 2)) a0 3 (m a1 3)) := by
  constructor
  · intro d hd k hk
    have : d = 0 := by simpa using hd
    subst this
    have hk : k < 4 := by unfold cpv at hk; omega
    show um _ a0 3 (m a1 3) a0 k = m a1 k
    match k, hk with
    | 0, _ => rw [um_k (by omega), um_k (by omega), um_k (by omega), um_eq]
    | 1, _ => rw [um_k (by omega), um_k (by omega), um_eq]
    | 2, _ => rw [um_k (by omega), um_eq]
    | 3, _ => rw [um_eq]
  · intro b k hb
    have this : b ≠ a0 := hb 0 (by simp)
    rw [um_a this, um_a this, um_a this, um_a this]
section CS
variable {D : Nat} {m : XM} {E : Nat → XM → Prop} {Q : XM → Prop}
theorem s68 {a0 a1 : Nat} (far : a1 + 20 ≤ a0 ∨ a0 + 20 ≤ a1) (h : ∀ m', CP a1 a0 m m' → Q m') : VU (D + 2) 68 [vR 8 a0, vR 8 a1] m Q E := by
  refine w68_0 ?_
  rintro μ rfl
  simp (disch := omega) only [um_a]
  have c0 := CPs_zero (m := m) far
  generalize um (um (um (um m a0 0 (m a1 0)) a0 1 (m a1 1)) a0 2 (m a1 2)) a0 3 (m a1 3) = m0 at c0
  have hn : ∀ d, (4 ≤ d ∧ d < 20 ∧ d ≠ 10 ∧ d ≠ 12 ∧ d ≠ 16) → ∀ k, cpv d k → k < 12 := fun d hd k hk => by unfold cpv at hk; omega
  refine s172n6 (by omega) ?_
  have c1 := CPs_row (d0 := 1) (n := 6) c0 (by simp) far (by omega) (fun k hk => by unfold cpv at hk; omega)
  generalize cpy m0 (a1 + 1) (a0 + 1) 6 = m1 at c1
  refine s172n6 (by omega) ?_
  have c2 := CPs_row (d0 := 2) (n := 6) c1 (by simp) far (by omega) (fun k hk => by unfold cpv at hk; omega)
  generalize cpy m1 (a1 + 2) (a0 + 2) 6 = m2 at c2
  refine w48_0 ?_
  have c3 := CPs_cell (d0 := 3) c2 (by simp) far (by omega) (fun k hk => by unfold cpv at hk; omega)
  generalize um m2 (a0 + 3) 0 (m2 (a1 + 3) 0) = m3 at c3
  refine s172n12 (by omega) ?_
  have c4 := CPs_row (d0 := 4) (n := 12) c3 (by simp) far (by omega) (hn _ (by omega))
  have e4 : cpy m3 (a1 + 3 + 1) (a0 + 3 + 1) 12 = cpy m3 (a1 + 4) (a0 + 4) 12 := rfl
  rw [e4]
  generalize cpy m3 (a1 + 4) (a0 + 4) 12 = m4 at c4
  refine s172n12 (by omega) ?_
  have c5 := CPs_row (d0 := 5) (n := 12) c4 (by simp) far (by omega) (hn _ (by omega))
  have e5 : cpy m4 (a1 + 3 + 2) (a0 + 3 + 2) 12 = cpy m4 (a1 + 5) (a0 + 5) 12 := rfl
  rw [e5]
  generalize cpy m4 (a1 + 5) (a0 + 5) 12 = m5 at c5
  refine s172n12 (by omega) ?_
  have c6 := CPs_row (d0 := 6) (n := 12) c5 (by simp) far (by omega) (hn _ (by omega))
  have e6 : cpy m5 (a1 + 3 + 3) (a0 + 3 + 3) 12 = cpy m5 (a1 + 6) (a0 + 6) 12 := rfl
  rw [e6]
  generalize cpy m5 (a1 + 6) (a0 + 6) 12 = m6 at c6
  refine s172n12 (by omega) ?_
  have c7 := CPs_row (d0 := 7) (n := 12) c6 (by simp) far (by omega) (hn _ (by omega))
  have e7 : cpy m6 (a1 + 3 + 4) (a0 + 3 + 4) 12 = cpy m6 (a1 + 7) (a0 + 7) 12 := rfl
  rw [e7]
  generalize cpy m6 (a1 + 7) (a0 + 7) 12 = m7 at c7
  refine s172n12 (by omega) ?_
  have c8 := CPs_row (d0 := 8) (n := 12) c7 (by simp) far (by omega) (hn _ (by omega))
  have e8 : cpy m7 (a1 + 3 + 5) (a0 + 3 + 5) 12 = cpy m7 (a1 + 8) (a0 + 8) 12 := rfl
  rw [e8]
  generalize cpy m7 (a1 + 8) (a0 + 8) 12 = m8 at c8
  refine s172n12 (by omega) ?_
  have c9 := CPs_row (d0 := 9) (n := 12) c8 (by simp) far (by omega) (hn _ (by omega))
  have e9 : cpy m8 (a1 + 3 + 6) (a0 + 3 + 6) 12 = cpy m8 (a1 + 9) (a0 + 9) 12 := rfl
  rw [e9]
  generalize cpy m8 (a1 + 9) (a0 + 9) 12 = m9 at c9
  refine s172n12 (by omega) ?_
  have c11 := CPs_row (d0 := 11) (n := 12) c9 (by simp) far (by omega) (hn _ (by omega))
  have e11 : cpy m9 (a1 + 3 + 8) (a0 + 3 + 8) 12 = cpy m9 (a1 + 11) (a0 + 11) 12 := rfl
  rw [e11]
  generalize cpy m9 (a1 + 11) (a0 + 11) 12 = m11 at c11
  refine w4_0 ?_
  have c12 := CPs_cell (d0 := 12) c11 (by simp) far (by omega) (fun k hk => by unfold cpv at hk; omega)
  generalize um m11 (a0 + 12) 0 (m11 (a1 + 12) 0) = m12 at c12
  refine s172n12 (by omega) ?_
  have c13 := CPs_row (d0 := 13) (n := 12) c12 (by simp) far (by omega) (hn _ (by omega))
  have e13 : cpy m12 (a1 + 12 + 1) (a0 + 12 + 1) 12 = cpy m12 (a1 + 13) (a0 + 13) 12 := rfl
  rw [e13]
  generalize cpy m12 (a1 + 13) (a0 + 13) 12 = m13 at c13
  refine s172n12 (by omega) ?_
  have c14 := CPs_row (d0 := 14) (n := 12) c13 (by simp) far (by omega) (hn _ (by omega))
  have e14 : cpy m13 (a1 + 12 + 2) (a0 + 12 + 2) 12 = cpy m13 (a1 + 14) (a0 + 14) 12 := rfl
  rw [e14]
  generalize cpy m13 (a1 + 14) (a0 + 14) 12 = m14 at c14
  refine s172n12 (by omega) ?_
  have c15 := CPs_row (d0 := 15) (n := 12) c14 (by simp) far (by omega) (hn _ (by omega))
  have e15 : cpy m14 (a1 + 12 + 3) (a0 + 12 + 3) 12 = cpy m14 (a1 + 15) (a0 + 15) 12 := rfl
  rw [e15]
  generalize cpy m14 (a1 + 15) (a0 + 15) 12 = m15 at c15
  refine w28_0 ?_
  have c16 := CPs_cell (d0 := 16) c15 (by simp) far (by omega) (fun k hk => by unfold cpv at hk; omega)
  generalize um m15 (a0 + 16) 0 (m15 (a1 + 16) 0) = m16 at c16
  refine s172n12 (by omega) ?_
  have c17 := CPs_row (d0 := 17) (n := 12) c16 (by simp) far (by omega) (hn _ (by omega))
  have e17 : cpy m16 (a1 + 16 + 1) (a0 + 16 + 1) 12 = cpy m16 (a1 + 17) (a0 + 17) 12 := rfl
  rw [e17]
  generalize cpy m16 (a1 + 17) (a0 + 17) 12 = m17 at c17
  refine s172n12 (by omega) ?_
  have c18 := CPs_row (d0 := 18) (n := 12) c17 (by simp) far (by omega) (hn _ (by omega))
  have e18 : cpy m17 (a1 + 16 + 2) (a0 + 16 + 2) 12 = cpy m17 (a1 + 18) (a0 + 18) 12 := rfl
  rw [e18]
  generalize cpy m17 (a1 + 18) (a0 + 18) 12 = m18 at c18
  refine s172n12 (by omega) ?_
  have c19 := CPs_row (d0 := 19) (n := 12) c18 (by simp) far (by omega) (hn _ (by omega))
  have e19 : cpy m18 (a1 + 16 + 3) (a0 + 16 + 3) 12 = cpy m18 (a1 + 19) (a0 + 19) 12 := rfl
  rw [e19]
  generalize cpy m18 (a1 + 19) (a0 + 19) 12 = m19 at c19
  refine h _ ⟨fun d k hk => c19.1 d ?_ k hk, fun b k hb => c19.2 b k (fun d hd => ?_)⟩
  · have hd : d = 0 ∨ d = 1 ∨ d = 2 ∨ d = 3 ∨ d = 4 ∨ d = 5 ∨ d = 6 ∨ d = 7 ∨ d = 8 ∨ d = 9 ∨ d = 11 ∨ d = 12 ∨ d = 13 ∨ d = 14 ∨ d = 15 ∨ d = 16 ∨ d = 17 ∨ d = 18 ∨ d = 19 := by
      rcases hk with hk | hk | hk | hk <;> omega
    simp only [List.mem_cons, List.not_mem_nil, or_false]
    rcases hd with rfl | rfl | rfl | rfl | rfl | rfl | rfl | rfl | rfl | rfl | rfl | rfl | rfl | rfl | rfl | rfl | rfl | rfl | rfl <;> simp
  · simp only [List.mem_cons, List.not_mem_nil, or_false] at hd
    omega
theorem RS_cp {a0 a1 : Nat} {g : PG} {m' : XM} (w : WF g) (c : CP a1 a0 m m') (r : RS m a1 g) : RS m' a0 g := by
  intro d k i hl
  have := w.nl
  have b1 := w.nb
  rw [c.1 d k (lvn_cpv (lvn_up hl b1 (by omega) w.np))]
  exact r d k i hl
end CS

