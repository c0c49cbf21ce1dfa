/-! The parse of a printed text: its stands; a line. -/
theorem isL59 : isL 59 = false := by decide
theorem isD59 : isD 59 = false := by decide
theorem standF_pr {bf : BF} {n a p : Nat} {g : PG} {t1 : TK} {l wd : List Nat} {side : Int32} (hp : t1.2.2.1 = p) (hl : (l = wLef ∧ side = n32 0) ∨ (l = wRig ∧ side = n32 1)) (h2 : a < 100) (hw1 : 1 ≤ wd.length) (hw8 : wd.length ≤ 8) (hwl : ∀ i, i < wd.length → isL (wd.getD i 0) = true) (ha : qAt bf n p ((32 :: l) ++ ((32 :: qdN a) ++ (32 :: wd)))) (he : p + (3 + l.length + (qdN a).length + wd.length) = n ∨ isL (bf (p + (3 + l.length + (qdN a).length + wd.length))) = false) :
    ∃ t', standF bf n g t1 = Sum.inr (standG bf g side (n32 a) (p + (3 + l.length + (qdN a).length)) wd.length, t') ∧ t'.2.2.1 = p + (3 + l.length + (qdN a).length + wd.length) := by
  have hll : 1 ≤ l.length ∧ l.length ≤ 8 ∧ ∀ i, i < l.length → isL (l.getD i 0) = true := by
    have H : ∀ l, l = wLef ∨ l = wRig → 1 ≤ l.length ∧ l.length ≤ 8 ∧ ((List.range l.length).all fun i => isL (l.getD i 0)) = true := by
      intro l h
      rcases h with rfl | rfl <;> decide +kernel
    obtain ⟨z1, z2, z3⟩ := H l (by rcases hl with h | h; exact Or.inl h.1; exact Or.inr h.1)
    exact ⟨z1, z2, fun i hi => List.all_eq_true.mp z3 i (List.mem_range.mpr hi)⟩
  obtain ⟨a1, a2⟩ := ha.app
  obtain ⟨a3, a4⟩ := a2.app
  have l1 : (32 :: l).length = 1 + l.length := by rw [List.length_cons]; omega
  have l2 : (32 :: qdN a).length = 1 + (qdN a).length := by rw [List.length_cons]; omega
  rw [l1] at a2 a3 a4
  rw [l2] at a4
  have b2 : bf (p + (1 + l.length)) = 32 := a3.2 0 (by rw [List.length_cons]; omega)
  have b3 : bf (p + (1 + l.length) + (1 + (qdN a).length)) = 32 := a4.2 0 (by rw [List.length_cons]; omega)
  have k1 := tok_bW (bf := bf) (n := n) (p := p) (l := l) hll.1 hll.2.1 hll.2.2 a1 (Or.inr (by rw [show p + 1 + l.length = p + (1 + l.length) by omega, b2]; exact isL32))
  have k2 := tok_N (bf := bf) (n := n) (p := p + (1 + l.length)) h2 a3 (Or.inr (by rw [show p + (1 + l.length) + 1 + (qdN a).length = p + (1 + l.length) + (1 + (qdN a).length) by omega, b3]; exact isD32))
  have k3 := tok_bW (bf := bf) (n := n) (p := p + (1 + l.length) + (1 + (qdN a).length)) (l := wd) hw1 hw8 hwl a4 (by rw [show p + (1 + l.length) + (1 + (qdN a).length) + 1 + wd.length = p + (3 + l.length + (qdN a).length + wd.length) by omega]; exact he)
  rw [show p + (1 + l.length) + 1 + (qdN a).length = p + (1 + l.length) + (1 + (qdN a).length) by omega] at k2
  have hbl : ∀ j, j < l.length → bf (p + 1 + j) = l.getD j 0 := fun j hj => by
    have := a1.2 (j + 1) (by rw [List.length_cons]; omega)
    rw [show p + 1 + j = p + (j + 1) by omega, this]; rfl
  have pl : placeF bf n g side (p + 1, 1, p + 1 + l.length, n32 0) = Sum.inr (standG bf g side (n32 a) (p + (3 + l.length + (qdN a).length)) wd.length, (p + (1 + l.length) + (1 + (qdN a).length) + 1, 1, p + (1 + l.length) + (1 + (qdN a).length) + 1 + wd.length, n32 0)) := by
    unfold placeF
    dsimp only
    rw [show p + 1 + l.length = p + (1 + l.length) by omega, k2]
    dsimp only
    rw [k3]
    dsimp only
    rw [if_pos (numE_0 rfl rfl (Nat.zero_le _) (by omega) (by omega)), if_pos rfl, show p + (1 + l.length) + (1 + (qdN a).length) + 1 = p + (3 + l.length + (qdN a).length) by omega, show p + (3 + l.length + (qdN a).length) + wd.length - (p + (3 + l.length + (qdN a).length)) = wd.length by omega]
  have fin : standF bf n g t1 = placeF bf n g side (p + 1, 1, p + 1 + l.length, n32 0) := by
    unfold standF
    rw [hp, k1]
    rcases hl with ⟨rfl, rfl⟩ | ⟨rfl, rfl⟩
    · rw [isW_f (l := wRig) (by decide), if_neg (by decide), isW_t hbl, if_pos rfl]
    · rw [isW_t hbl, if_pos rfl]
  rw [fin, pl]
  exact ⟨_, rfl, by dsimp only; omega⟩
/-- the first word of a line -/
theorem line_tok {bf : BF} {n p : Nat} {l u : List Nat} (h1 : 1 ≤ l.length) (h8 : l.length ≤ 8) (hl : ∀ i, i < l.length → isL (l.getD i 0) = true) (ha : qAt bf n p ((59 :: l) ++ (32 :: u))) : tok bf n p = (p, 3, p + 1, n32 0) ∧ tok bf n (p + 1) = (p + 1, 1, p + 1 + l.length, n32 0) ∧ (∀ j, j < l.length → bf (p + 1 + j) = l.getD j 0) ∧ qAt bf n (p + 1 + l.length) (32 :: u) := by
  obtain ⟨a1, a2⟩ := ha.app
  have l1 : (59 :: l).length = 1 + l.length := by rw [List.length_cons]; omega
  rw [l1] at a2
  have hb : ∀ j, j < l.length → bf (p + 1 + j) = l.getD j 0 := fun j hj => by
    have := a1.2 (j + 1) (by rw [List.length_cons]; omega)
    rw [show p + 1 + j = p + (j + 1) by omega, this]; rfl
  have b0 : bf p = 59 := a1.2 0 (by rw [List.length_cons]; omega)
  have b2 : bf (p + (1 + l.length)) = 32 := a2.2 0 (by rw [List.length_cons]; omega)
  have hn : p + (1 + l.length) < n := by have := a2.1; rw [List.length_cons] at this; omega
  refine ⟨tok_S (by omega) b0, tok_W h1 h8 hl ⟨by omega, hb⟩ (Or.inr (by rw [show p + 1 + l.length = p + (1 + l.length) by omega, b2]; exact isL32)), hb, by rw [show p + 1 + l.length = p + (1 + l.length) by omega]; exact a2⟩
theorem wBea_ok : 1 ≤ wBea.length ∧ wBea.length ≤ 8 ∧ ∀ i, i < wBea.length → isL (wBea.getD i 0) = true := by
  have H : ((List.range wBea.length).all fun i => isL (wBea.getD i 0)) = true := by decide +kernel
  exact ⟨by decide, by decide, fun i hi => List.all_eq_true.mp H i (List.mem_range.mpr hi)⟩
theorem wSta_ok : 1 ≤ wSta.length ∧ wSta.length ≤ 8 ∧ ∀ i, i < wSta.length → isL (wSta.getD i 0) = true := by
  have H : ((List.range wSta.length).all fun i => isL (wSta.getD i 0)) = true := by decide +kernel
  exact ⟨by decide, by decide, fun i hi => List.all_eq_true.mp H i (List.mem_range.mpr hi)⟩
theorem wPla_ok : 1 ≤ wPla.length ∧ wPla.length ≤ 8 ∧ ∀ i, i < wPla.length → isL (wPla.getD i 0) = true := by
  have H : ((List.range wPla.length).all fun i => isL (wPla.getD i 0)) = true := by decide +kernel
  exact ⟨by decide, by decide, fun i hi => List.all_eq_true.mp H i (List.mem_range.mpr hi)⟩
theorem line_bea {bf : BF} {n p x st lg r : Nat} {g : PG} (hg : nBr g < 12) (hx : isL x = true) (h1 : 1 ≤ st) (h2 : st < 100) (h3 : lg ≤ 20) (ha : qAt bf n p ((59 :: wBea) ++ ((32 :: [x]) ++ ((32 :: qdN st) ++ (32 :: qdN lg))))) (he : p + (11 + (qdN st).length + (qdN lg).length) = n ∨ bf (p + (11 + (qdN st).length + (qdN lg).length)) = 59) :
    linesF bf n (r + 1) g (tok bf n p) = linesF bf n r (joinG g (n32 (x - 96)) (n32 st) (n32 lg)) (tok bf n (p + (11 + (qdN st).length + (qdN lg).length))) := by
  obtain ⟨k1, k2, k3, k4⟩ := line_tok (l := wBea) (u := [x] ++ ((32 :: qdN st) ++ (32 :: qdN lg))) wBea_ok.1 wBea_ok.2.1 wBea_ok.2.2 ha
  have hl : wBea.length = 6 := rfl
  obtain ⟨t', e1, e2⟩ := bearerF_pr (bf := bf) (n := n) (p := p + 7) (g := g) (t1 := (p + 1, 1, p + 1 + wBea.length, n32 0)) (by dsimp only; omega) hx h1 h2 h3 (by rw [hl] at k4; exact k4) (by
    rw [show p + 7 + (4 + (qdN st).length + (qdN lg).length) = p + (11 + (qdN st).length + (qdN lg).length) by omega]
    rcases he with h | h
    · exact Or.inl h
    · exact Or.inr (by rw [h]; exact isD59))
  rw [linesF_s, k1, if_pos rfl]
  dsimp only
  rw [k2]
  have hw : wordF bf n g (p + 1, 1, p + 1 + wBea.length, n32 0) = Sum.inr (joinG g (n32 (x - 96)) (n32 st) (n32 lg), t') := by
    unfold wordF
    rw [isW_t k3, if_pos rfl, if_neg (by omega), e1]
  rw [hw]
  dsimp only
  rw [e2, show p + 7 + (4 + (qdN st).length + (qdN lg).length) = p + (11 + (qdN st).length + (qdN lg).length) by omega]
theorem line_pla {bf : BF} {n p tm who r : Nat} {g : PG} (hg : nPl g < 12) (h1 : 1 ≤ tm) (h2 : tm < 100) (h3 : who + 2 ≤ nBr g) (h4 : nBr g ≤ 50) (ha : qAt bf n p ((59 :: wPla) ++ ((32 :: qdN tm) ++ (32 :: qdN who)))) (he : p + (7 + (qdN tm).length + (qdN who).length) = n ∨ bf (p + (7 + (qdN tm).length + (qdN who).length)) = 59) :
    linesF bf n (r + 1) g (tok bf n p) = linesF bf n r (plG g (n32 tm) (n32 who)) (tok bf n (p + (7 + (qdN tm).length + (qdN who).length))) := by
  obtain ⟨k1, k2, k3, k4⟩ := line_tok (l := wPla) (u := qdN tm ++ (32 :: qdN who)) wPla_ok.1 wPla_ok.2.1 wPla_ok.2.2 ha
  have hl : wPla.length = 4 := rfl
  obtain ⟨t', e1, e2⟩ := planF_pr (bf := bf) (n := n) (p := p + 5) (g := g) (t1 := (p + 1, 1, p + 1 + wPla.length, n32 0)) (by dsimp only; omega) h1 h2 h3 h4 (by rw [hl] at k4; exact k4) (by
    rw [show p + 5 + (2 + (qdN tm).length + (qdN who).length) = p + (7 + (qdN tm).length + (qdN who).length) by omega]
    rcases he with h | h
    · exact Or.inl h
    · exact Or.inr (by rw [h]; exact isD59))
  rw [linesF_s, k1, if_pos rfl]
  dsimp only
  rw [k2]
  have hw : wordF bf n g (p + 1, 1, p + 1 + wPla.length, n32 0) = Sum.inr (plG g (n32 tm) (n32 who), t') := by
    unfold wordF
    rw [isW_f (l := wBea) (by decide), if_neg (by decide), isW_f (l := wSta) (by decide), if_neg (by decide), isW_t k3, if_pos rfl, if_neg (by omega), e1]
  rw [hw]
  dsimp only
  rw [e2, show p + 5 + (2 + (qdN tm).length + (qdN who).length) = p + (7 + (qdN tm).length + (qdN who).length) by omega]
theorem line_sta {bf : BF} {n p a r : Nat} {g : PG} {l wd : List Nat} {side : Int32} (hg : nSt g < 6) (hl : (l = wLef ∧ side = n32 0) ∨ (l = wRig ∧ side = n32 1)) (h2 : a < 100) (hw1 : 1 ≤ wd.length) (hw8 : wd.length ≤ 8) (hwl : ∀ i, i < wd.length → isL (wd.getD i 0) = true) (ha : qAt bf n p ((59 :: wSta) ++ ((32 :: l) ++ ((32 :: qdN a) ++ (32 :: wd))))) (he : p + (9 + l.length + (qdN a).length + wd.length) = n ∨ bf (p + (9 + l.length + (qdN a).length + wd.length)) = 59) :
    linesF bf n (r + 1) g (tok bf n p) = linesF bf n r (standG bf g side (n32 a) (p + (9 + l.length + (qdN a).length)) wd.length) (tok bf n (p + (9 + l.length + (qdN a).length + wd.length))) := by
  obtain ⟨k1, k2, k3, k4⟩ := line_tok (l := wSta) (u := l ++ ((32 :: qdN a) ++ (32 :: wd))) wSta_ok.1 wSta_ok.2.1 wSta_ok.2.2 ha
  have hl5 : wSta.length = 5 := rfl
  obtain ⟨t', e1, e2⟩ := standF_pr (bf := bf) (n := n) (p := p + 6) (g := g) (t1 := (p + 1, 1, p + 1 + wSta.length, n32 0)) (by dsimp only; omega) hl h2 hw1 hw8 hwl (by rw [hl5] at k4; exact k4) (by
    rw [show p + 6 + (3 + l.length + (qdN a).length + wd.length) = p + (9 + l.length + (qdN a).length + wd.length) by omega]
    rcases he with h | h
    · exact Or.inl h
    · exact Or.inr (by rw [h]; exact isL59))
  rw [linesF_s, k1, if_pos rfl]
  dsimp only
  rw [k2]
  have hw : wordF bf n g (p + 1, 1, p + 1 + wSta.length, n32 0) = Sum.inr (standG bf g side (n32 a) (p + 6 + (3 + l.length + (qdN a).length)) wd.length, t') := by
    unfold wordF
    rw [isW_f (l := wBea) (by decide), if_neg (by decide), isW_t k3, if_pos rfl, if_neg (by omega), e1]
  rw [hw]
  dsimp only
  rw [e2, show p + 6 + (3 + l.length + (qdN a).length + wd.length) = p + (9 + l.length + (qdN a).length + wd.length) by omega, show p + 6 + (3 + l.length + (qdN a).length) = p + (9 + l.length + (qdN a).length) by omega]
