/-! The parse of a printed text: the bearers' lines, one after the other. -/
/-- what comes behind: the end, or another line -/
def qNx (n p : Nat) (u : List Nat) : Prop := (u = [] ∧ p = n) ∨ ∃ u', u = 59 :: u'
theorem qNx_at {bf : BF} {n p : Nat} {u : List Nat} (h : qNx n p u) (ha : qAt bf n p u) : p = n ∨ bf p = 59 := by
  rcases h with ⟨rfl, h⟩ | ⟨u', rfl⟩
  · exact Or.inl h
  · exact Or.inr (ha.2 0 (by rw [List.length_cons]; omega))
theorem qLb_len {m : XM} {b k : Nat} : (qLb m b k).length = 11 + (qdN (ix (m (b + 4) k))).length + (qdN (ix (m (b + 5) k))).length := by
  unfold qLb
  simp only [List.length_append, List.length_cons, List.length_nil]
  have : wBea.length = 6 := rfl
  omega
theorem joinG_f {g : PG} {j : Nat} (h : g 6 = n32 j) (hj : j < 12) {c st lg : Int32} : joinG g c st lg 6 = n32 (j + 1) ∧ joinG g c st lg (15 + 7 * j + 6) = c ∧ joinG g c st lg (15 + 7 * j) = c ∧ joinG g c st lg (15 + 7 * j + 4) = n32 100 ∧ joinG g c st lg (15 + 7 * j + 1) = -(g 0) * n32 j ∧ ∀ x, x ≠ 6 → (x < 15 + 7 * j ∨ 15 + 7 * (j + 1) ≤ x) → joinG g c st lg x = g x := by
  have hn : nBr g = j := by unfold nBr; rw [h, ix_n32 (by omega)]
  unfold joinG
  rw [hn]
  refine ⟨gup_eq _ _ _, ?_, ?_, ?_, ?_, fun x h6 hx => ?_⟩
  · rw [gup_ne (by omega), gup_ne (by omega), gup_ne (by omega), gup_ne (by omega), gup_ne (by omega), gup_ne (by omega), gup_eq]
  · rw [gup_ne (by omega), gup_ne (by omega), gup_ne (by omega), gup_ne (by omega), gup_ne (by omega), gup_eq]
  · rw [gup_ne (by omega), gup_ne (by omega), gup_eq]
  · rw [gup_ne (by omega), gup_eq]
  · rw [gup_ne h6, gup_ne (by omega), gup_ne (by omega), gup_ne (by omega), gup_ne (by omega), gup_ne (by omega), gup_ne (by omega)]
/-- a bearer as it was printed -/
def qBk (g : PG) (g0 : Int32) (k : Nat) : Prop := ∃ x, (x = 1 ∨ x = 2) ∧ g (15 + 7 * k + 6) = n32 x ∧ g (15 + 7 * k) = n32 x ∧ g (15 + 7 * k + 4) = n32 100 ∧ g (15 + 7 * k + 1) = -g0 * n32 k
theorem lines_bea {bf : BF} {n b nb : Nat} {m : XM} {u : List Nat} (hnb : nb ≤ 12) (h : ∀ i, i < nb → (1 ≤ ix (m (b + 2) i) ∧ ix (m (b + 2) i) ≤ 2) ∧ (1 ≤ ix (m (b + 4) i) ∧ ix (m (b + 4) i) < 100) ∧ ix (m (b + 5) i) ≤ 20) : ∀ (i j p r : Nat) (g : PG), j + i = nb → g 6 = n32 j → qAt bf n p (qFl (qLb m b) i j ++ u) → qNx n (p + (qFl (qLb m b) i j).length) u →
    ∃ g', linesF bf n (i + r) g (tok bf n p) = linesF bf n r g' (tok bf n (p + (qFl (qLb m b) i j).length)) ∧ g' 6 = n32 nb ∧ (∀ x, x ≠ 6 → (x < 15 + 7 * j ∨ 15 + 7 * nb ≤ x) → g' x = g x) ∧ ∀ k, j ≤ k → k < nb → qBk g' (g 0) k := by
  intro i
  induction i with
  | zero =>
    intro j p r g hj hg ha hx
    refine ⟨g, ?_, by rw [hg, show j = nb by omega], fun _ _ _ => rfl, fun k h1 h2 => by omega⟩
    rw [Nat.zero_add]
    rfl
  | succ i ih =>
    intro j p r g hj hg ha hx
    obtain ⟨⟨o1, o2⟩, ⟨s1, s2⟩, l1⟩ := h j (by omega)
    have hlp := qLb_len (m := m) (b := b) (k := j)
    have hn : nBr g = j := by unfold nBr; rw [hg, ix_n32 (by omega)]
    have e0 : qFl (qLb m b) (i + 1) j ++ u = qLb m b j ++ (qFl (qLb m b) i (j + 1) ++ u) := by
      show (qLb m b j ++ qFl (qLb m b) i (j + 1)) ++ u = _
      rw [List.append_assoc]
    have el : (qFl (qLb m b) (i + 1) j).length = (qLb m b j).length + (qFl (qLb m b) i (j + 1)).length := by
      show (qLb m b j ++ qFl (qLb m b) i (j + 1)).length = _
      rw [List.length_append]
    rw [e0] at ha
    rw [el] at hx ⊢
    obtain ⟨a1, a2⟩ := ha.app
    have hnx : p + (qLb m b j).length = n ∨ bf (p + (qLb m b j).length) = 59 := by
      cases i with
      | zero =>
        have hx' : qNx n (p + (qLb m b j).length) u := by
          have : (qFl (qLb m b) 0 (j + 1)).length = 0 := rfl
          rw [this, Nat.add_zero] at hx; exact hx
        exact qNx_at hx' a2
      | succ i =>
        right
        have := a2.2 0 (by show 0 < ((qLb m b (j + 1) ++ qFl (qLb m b) i (j + 1 + 1)) ++ u).length; rw [List.length_append, List.length_append, qLb_len]; omega)
        rw [Nat.add_zero] at this
        rw [this]; rfl
    have st := line_bea (bf := bf) (n := n) (p := p) (x := 96 + ix (m (b + 2) j)) (st := ix (m (b + 4) j)) (lg := ix (m (b + 5) j)) (r := i + r) (g := g) (by omega) (by unfold isL; simp only [Bool.and_eq_true, decide_eq_true_eq]; omega) s1 s2 l1 a1 (by rw [hlp] at hnx; exact hnx)
    rw [show 96 + ix (m (b + 2) j) - 96 = ix (m (b + 2) j) by omega] at st
    obtain ⟨f1, f2, f3, f4, f5, f6⟩ := joinG_f hg (by omega) (c := n32 (ix (m (b + 2) j))) (st := n32 (ix (m (b + 4) j))) (lg := n32 (ix (m (b + 5) j)))
    obtain ⟨g', e1, e2, e3, e4⟩ := ih (j + 1) (p + (qLb m b j).length) r (joinG g (n32 (ix (m (b + 2) j))) (n32 (ix (m (b + 4) j))) (n32 (ix (m (b + 5) j)))) (by omega) f1 a2 (by rw [Nat.add_assoc]; exact hx)
    refine ⟨g', ?_, e2, fun x h6 hx' => ?_, fun k k1 k2 => ?_⟩
    · rw [show i + 1 + r = i + r + 1 by omega, st, show p + (11 + (qdN (ix (m (b + 4) j))).length + (qdN (ix (m (b + 5) j))).length) = p + (qLb m b j).length by rw [hlp], e1, Nat.add_assoc]
    · rw [e3 x h6 (by omega), f6 x h6 (by omega)]
    · have hz : joinG g (n32 (ix (m (b + 2) j))) (n32 (ix (m (b + 4) j))) (n32 (ix (m (b + 5) j))) 0 = g 0 := f6 0 (by omega) (by omega)
      by_cases hk : k = j
      · subst hk
        refine ⟨ix (m (b + 2) k), by omega, ?_, ?_, ?_, ?_⟩
        · rw [e3 _ (by omega) (by omega)]; exact f2
        · rw [e3 _ (by omega) (by omega)]; exact f3
        · rw [e3 _ (by omega) (by omega)]; exact f4
        · rw [e3 _ (by omega) (by omega)]; exact f5
      · have := e4 k (by omega) k2
        rw [hz] at this
        exact this
