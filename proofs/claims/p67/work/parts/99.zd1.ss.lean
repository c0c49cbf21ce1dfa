/-! The parse of a printed text: the stands' lines, one after the other. -/
theorem qLs_len {m : XM} {b k : Nat} {wd : Nat → List Int32} : (qLs m b wd k).length = 9 + (if m (b + 8) k = 0 then wLef else wRig).length + (qdN (ix (m (b + 9) k))).length + (wd k).length := by
  unfold qLs
  simp only [List.length_append, List.length_cons, List.length_map]
  have : wSta.length = 5 := rfl
  omega
theorem standG_f {bf : BF} {g : PG} {j s0 len : Nat} (h : g 7 = n32 j) (hj : j < 6) (hl : len ≤ 8) {sd pl : Int32} : standG bf g sd pl s0 len 7 = n32 (j + 1) ∧ standG bf g sd pl s0 len (99 + 12 * j + 2) = n32 len ∧ ∀ x, x ≠ 7 → (x < 99 + 12 * j ∨ 99 + 12 * (j + 1) ≤ x) → standG bf g sd pl s0 len x = g x := by
  have hn : nSt g = j := by unfold nSt; rw [h, ix_n32 (by omega)]
  refine ⟨?_, ?_, fun x h7 hx => ?_⟩
  · have := (standG_7 (bf := bf) (g := g) (side := sd) (pl := pl) (s0 := s0) (len := len) (by omega)).1
    rw [hn] at this; exact this
  · have := standG_2 (bf := bf) (g := g) (side := sd) (pl := pl) (s0 := s0) (len := len)
    rw [hn] at this; exact this
  · exact standG_at hl h7 (by rw [hn]; omega)
theorem wd_L {l : List Int32} (h : ∀ x ∈ l, x = n32 97 ∨ x = n32 98) : ∀ i, i < (l.map ix).length → isL ((l.map ix).getD i 0) = true := by
  intro i hi
  have hm : (l.map ix).getD i 0 ∈ l.map ix := by
    rw [List.getD_eq_getElem?_getD, List.getElem?_eq_getElem hi]; exact List.getElem_mem hi
  obtain ⟨x, hx, e⟩ := List.mem_map.mp hm
  rw [← e]
  rcases h x hx with rfl | rfl <;> decide
theorem lines_sta {bf : BF} {n b ns : Nat} {m : XM} {wd : Nat → List Int32} {u : List Nat} (hns : ns ≤ 6) (h : ∀ i, i < ns → ix (m (b + 9) i) < 100 ∧ 1 ≤ (wd i).length ∧ (wd i).length ≤ 8 ∧ ∀ x ∈ wd i, x = n32 97 ∨ x = n32 98) : ∀ (i j p r : Nat) (g : PG), j + i = ns → g 7 = n32 j → qAt bf n p (qFl (qLs m b wd) i j ++ u) → qNx n (p + (qFl (qLs m b wd) i j).length) u →
    ∃ g', linesF bf n (i + r) g (tok bf n p) = linesF bf n r g' (tok bf n (p + (qFl (qLs m b wd) i j).length)) ∧ g' 7 = n32 ns ∧ (∀ x, x ≠ 7 → (x < 99 + 12 * j ∨ 99 + 12 * ns ≤ x) → g' x = g x) ∧ ∀ k, j ≤ k → k < ns → g' (99 + 12 * k + 2) = n32 (wd k).length := by
  intro i
  induction i with
  | zero =>
    intro j p r g hj hg ha hx
    refine ⟨g, ?_, by rw [hg, show j = ns by omega], fun _ _ _ => rfl, fun k h1 h2 => by omega⟩
    rw [Nat.zero_add]
    rfl
  | succ i ih =>
    intro j p r g hj hg ha hx
    obtain ⟨o1, o2, o3, o4⟩ := h j (by omega)
    have hlp := qLs_len (m := m) (b := b) (k := j) (wd := wd)
    have hn : nSt g = j := by unfold nSt; rw [hg, ix_n32 (by omega)]
    have hml : ((wd j).map ix).length = (wd j).length := List.length_map _
    have e0 : qFl (qLs m b wd) (i + 1) j ++ u = qLs m b wd j ++ (qFl (qLs m b wd) i (j + 1) ++ u) := by
      show (qLs m b wd j ++ qFl (qLs m b wd) i (j + 1)) ++ u = _
      rw [List.append_assoc]
    have el : (qFl (qLs m b wd) (i + 1) j).length = (qLs m b wd j).length + (qFl (qLs m b wd) i (j + 1)).length := by
      show (qLs m b wd j ++ qFl (qLs m b wd) i (j + 1)).length = _
      rw [List.length_append]
    rw [e0] at ha
    rw [el] at hx ⊢
    obtain ⟨a1, a2⟩ := ha.app
    have hnx : p + (qLs m b wd j).length = n ∨ bf (p + (qLs m b wd j).length) = 59 := by
      cases i with
      | zero =>
        have hx' : qNx n (p + (qLs m b wd j).length) u := by
          have : (qFl (qLs m b wd) 0 (j + 1)).length = 0 := rfl
          rw [this, Nat.add_zero] at hx; exact hx
        exact qNx_at hx' a2
      | succ i =>
        right
        have := a2.2 0 (by show 0 < ((qLs m b wd (j + 1) ++ qFl (qLs m b wd) i (j + 1 + 1)) ++ u).length; rw [List.length_append, List.length_append, qLs_len]; omega)
        rw [Nat.add_zero] at this
        rw [this]; rfl
    obtain ⟨sd, hsd⟩ : ∃ sd : Int32, ((if m (b + 8) j = 0 then wLef else wRig) = wLef ∧ sd = n32 0) ∨ ((if m (b + 8) j = 0 then wLef else wRig) = wRig ∧ sd = n32 1) := by
      by_cases c : m (b + 8) j = 0
      · rw [if_pos c]; exact ⟨n32 0, Or.inl ⟨rfl, rfl⟩⟩
      · rw [if_neg c]; exact ⟨n32 1, Or.inr ⟨rfl, rfl⟩⟩
    have st := line_sta (bf := bf) (n := n) (p := p) (a := ix (m (b + 9) j)) (r := i + r) (g := g) (l := if m (b + 8) j = 0 then wLef else wRig) (wd := (wd j).map ix) (side := sd) (by omega) hsd o1 (by omega) (by omega) (wd_L o4) a1 (by rw [hml]; rw [hlp] at hnx; exact hnx)
    rw [hml] at st
    obtain ⟨f1, f2, f6⟩ := standG_f (bf := bf) (s0 := p + (9 + (if m (b + 8) j = 0 then wLef else wRig).length + (qdN (ix (m (b + 9) j))).length)) (len := (wd j).length) (sd := sd) (pl := n32 (ix (m (b + 9) j))) hg (by omega) o3
    obtain ⟨g', e1, e2, e3, e4⟩ := ih (j + 1) (p + (qLs m b wd j).length) r _ (by omega) f1 a2 (by rw [Nat.add_assoc]; exact hx)
    refine ⟨g', ?_, e2, fun x h8 hx' => ?_, fun k k1 k2 => ?_⟩
    · rw [show i + 1 + r = i + r + 1 by omega, st, ← hlp, e1, Nat.add_assoc]
    · rw [e3 x h8 (by omega), f6 x h8 (by omega)]
    · by_cases hk : k = j
      · subst hk
        rw [e3 _ (by omega) (by omega)]; exact f2
      · exact e4 k (by omega) k2
