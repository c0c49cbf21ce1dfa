/-! The parse of a printed text: the plans' lines, one after the other. -/
theorem qLp_len {m : XM} {b k : Nat} : (qLp m b k).length = 7 + (qdN (ix (m (b + 11) k))).length + (qdN (ix (m (b + 12) k))).length := by
  unfold qLp
  simp only [List.length_append, List.length_cons]
  have : wPla.length = 4 := rfl
  omega
theorem plG_f {g : PG} {j : Nat} (h : g 8 = n32 j) (hj : j < 12) {t c : Int32} : plG g t c 8 = n32 (j + 1) ∧ plG g t c (171 + 3 * j + 2) = n32 0 ∧ ∀ x, x ≠ 8 → (x < 171 + 3 * j ∨ 171 + 3 * (j + 1) ≤ x) → plG g t c x = g x := by
  have hn : nPl g = j := by unfold nPl; rw [h, ix_n32 (by omega)]
  unfold plG
  rw [hn]
  refine ⟨gup_eq _ _ _, ?_, fun x h6 hx => ?_⟩
  · rw [gup_ne (by omega), gup_eq]
  · rw [gup_ne h6, gup_ne (by omega), gup_ne (by omega), gup_ne (by omega)]
theorem lines_pla {bf : BF} {n b np nb : Nat} {m : XM} {u : List Nat} (hnp : np ≤ 12) (hnb : 2 ≤ nb ∧ nb ≤ 12) (h : ∀ i, i < np → (1 ≤ ix (m (b + 11) i) ∧ ix (m (b + 11) i) < 100) ∧ ix (m (b + 12) i) + 2 ≤ nb) : ∀ (i j p r : Nat) (g : PG), j + i = np → g 8 = n32 j → g 6 = n32 nb → qAt bf n p (qFl (qLp m b) i j ++ u) → qNx n (p + (qFl (qLp m b) i j).length) u →
    ∃ g', linesF bf n (i + r) g (tok bf n p) = linesF bf n r g' (tok bf n (p + (qFl (qLp m b) i j).length)) ∧ g' 8 = n32 np ∧ (∀ x, x ≠ 8 → (x < 171 + 3 * j ∨ 171 + 3 * np ≤ x) → g' x = g x) ∧ ∀ k, j ≤ k → k < np → g' (171 + 3 * k + 2) = n32 0 := by
  intro i
  induction i with
  | zero =>
    intro j p r g hj hg h6 ha hx
    refine ⟨g, ?_, by rw [hg, show j = np by omega], fun _ _ _ => rfl, fun k h1 h2 => by omega⟩
    rw [Nat.zero_add]
    rfl
  | succ i ih =>
    intro j p r g hj hg h6 ha hx
    obtain ⟨⟨o1, o2⟩, l1⟩ := h j (by omega)
    have hlp := qLp_len (m := m) (b := b) (k := j)
    have hn : nPl g = j := by unfold nPl; rw [hg, ix_n32 (by omega)]
    have hB : nBr g = nb := by unfold nBr; rw [h6, ix_n32 (by omega)]
    have e0 : qFl (qLp m b) (i + 1) j ++ u = qLp m b j ++ (qFl (qLp m b) i (j + 1) ++ u) := by
      show (qLp m b j ++ qFl (qLp m b) i (j + 1)) ++ u = _
      rw [List.append_assoc]
    have el : (qFl (qLp m b) (i + 1) j).length = (qLp m b j).length + (qFl (qLp m b) i (j + 1)).length := by
      show (qLp m b j ++ qFl (qLp m b) i (j + 1)).length = _
      rw [List.length_append]
    rw [e0] at ha
    rw [el] at hx ⊢
    obtain ⟨a1, a2⟩ := ha.app
    have hnx : p + (qLp m b j).length = n ∨ bf (p + (qLp m b j).length) = 59 := by
      cases i with
      | zero =>
        have hx' : qNx n (p + (qLp m b j).length) u := by
          have : (qFl (qLp m b) 0 (j + 1)).length = 0 := rfl
          rw [this, Nat.add_zero] at hx; exact hx
        exact qNx_at hx' a2
      | succ i =>
        right
        have := a2.2 0 (by show 0 < ((qLp m b (j + 1) ++ qFl (qLp m b) i (j + 1 + 1)) ++ u).length; rw [List.length_append, List.length_append, qLp_len]; omega)
        rw [Nat.add_zero] at this
        rw [this]; rfl
    have st := line_pla (bf := bf) (n := n) (p := p) (tm := ix (m (b + 11) j)) (who := ix (m (b + 12) j)) (r := i + r) (g := g) (by omega) o1 o2 (by rw [hB]; exact l1) (by omega) a1 (by rw [hlp] at hnx; exact hnx)
    obtain ⟨f1, f2, f6⟩ := plG_f hg (by omega) (t := n32 (ix (m (b + 11) j))) (c := n32 (ix (m (b + 12) j)))
    obtain ⟨g', e1, e2, e3, e4⟩ := ih (j + 1) (p + (qLp m b j).length) r (plG g (n32 (ix (m (b + 11) j))) (n32 (ix (m (b + 12) j)))) (by omega) f1 (by rw [f6 6 (by omega) (by omega)]; exact h6) a2 (by rw [Nat.add_assoc]; exact hx)
    refine ⟨g', ?_, e2, fun x h8 hx' => ?_, fun k k1 k2 => ?_⟩
    · rw [show i + 1 + r = i + r + 1 by omega, st, show p + (7 + (qdN (ix (m (b + 11) j))).length + (qdN (ix (m (b + 12) j))).length) = p + (qLp m b j).length by rw [hlp], e1, Nat.add_assoc]
    · rw [e3 x h8 (by omega), f6 x h8 (by omega)]
    · by_cases hk : k = j
      · subst hk
        rw [e3 _ (by omega) (by omega)]; exact f2
      · exact e4 k (by omega) k2
