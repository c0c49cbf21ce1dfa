/-! The printed text as bytes, piece by piece. -/
def qFl (f : Nat → List Nat) : Nat → Nat → List Nat
  | 0, _ => []
  | r + 1, k => f k ++ qFl f r (k + 1)
theorem qFl_end (f : Nat → List Nat) : ∀ r k, qFl f (r + 1) k = qFl f r k ++ f (k + r) := by
  intro r
  induction r with
  | zero => intro k; show f k ++ [] = [] ++ f (k + 0); rw [List.append_nil, List.nil_append, Nat.add_zero]
  | succ r ih =>
    intro k
    show f k ++ qFl f (r + 1) (k + 1) = (f k ++ qFl f r (k + 1)) ++ f (k + (r + 1))
    rw [ih (k + 1), List.append_assoc, show k + 1 + r = k + (r + 1) by omega]
theorem qdg_ix {v : Nat} (h : v < 100) : (qdg v).map ix = qdN v := by
  have H : ∀ v, v < 100 → (qdg v).map ix = qdN v := by decide +kernel
  exact H v h
theorem qt_ix : qt12.map ix = wPar ∧ qt13.map ix = (59 :: wBea) ++ [32] ∧ qt14.map ix = (59 :: wPla) ++ [32] ∧ qt15.map ix = (59 :: wSta) ++ [32] ∧ qt16.map ix = wLef ++ [32] ∧ qt17.map ix = wRig ++ [32] := by decide +kernel
def qNsf (v : Nat → Nat) (k : Nat) : List Nat := 32 :: qdN (v k)
theorem qNs_Fl (v : Nat → Nat) : ∀ r k, qNs v r k = qFl (qNsf v) r k := by
  intro r
  induction r with
  | zero => intro k; rfl
  | succ r ih => intro k; show (32 :: qdN (v k)) ++ qNs v r (k + 1) = _; rw [ih]; rfl
theorem qTset_ix (m : XM) (b : Nat) (h : ∀ i, i < 6 → ix (m b i) < 100) : ∀ i, i ≤ 6 → (qTset m b i).map ix = wPar ++ qFl (qNsf fun k => ix (m b k)) i 0 := by
  intro i
  induction i with
  | zero => intro _; show qt12.map ix = wPar ++ []; rw [List.append_nil]; exact qt_ix.1
  | succ i ih =>
    intro hi
    show (qTset m b i ++ [n32 32] ++ qdg (ix (m b i))).map ix = _
    rw [List.map_append, List.map_append, ih (by omega), qdg_ix (h i (by omega)), qFl_end, Nat.zero_add]
    simp only [List.append_assoc, qNsf]
    rfl
/-- a bearer's line, a plan's, a stand's -/
def qLb (m : XM) (b k : Nat) : List Nat := (59 :: wBea) ++ ((32 :: [96 + ix (m (b + 2) k)]) ++ ((32 :: qdN (ix (m (b + 4) k))) ++ (32 :: qdN (ix (m (b + 5) k)))))
def qLp (m : XM) (b k : Nat) : List Nat := (59 :: wPla) ++ ((32 :: qdN (ix (m (b + 11) k))) ++ (32 :: qdN (ix (m (b + 12) k))))
def qLs (m : XM) (b : Nat) (wd : Nat → List Int32) (k : Nat) : List Nat := (59 :: wSta) ++ ((32 :: (if m (b + 8) k = 0 then wLef else wRig)) ++ ((32 :: qdN (ix (m (b + 9) k))) ++ (32 :: (wd k).map ix)))
theorem qTbea_ix (m : XM) (b nb : Nat) (l0 : List Int32) (h : ∀ i, i < nb → ix (m (b + 2) i) ≤ 2 ∧ ix (m (b + 4) i) < 100 ∧ ix (m (b + 5) i) < 100) : ∀ i, i ≤ nb → (qTbea m b l0 i).map ix = l0.map ix ++ qFl (qLb m b) i 0 := by
  intro i
  induction i with
  | zero => intro _; show l0.map ix = l0.map ix ++ []; rw [List.append_nil]
  | succ i ih =>
    intro hi
    obtain ⟨h1, h2, h3⟩ := h i (by omega)
    show (qTbea m b l0 i ++ qt13 ++ [n32 (96 + ix (m (b + 2) i))] ++ [n32 32] ++ qdg (ix (m (b + 4) i)) ++ [n32 32] ++ qdg (ix (m (b + 5) i))).map ix = _
    simp only [List.map_append]
    rw [ih (by omega), qdg_ix h2, qdg_ix h3, qt_ix.2.1, qFl_end, Nat.zero_add]
    have e : List.map ix [n32 (96 + ix (m (b + 2) i))] = [96 + ix (m (b + 2) i)] := by
      show [ix (n32 _)] = _
      rw [ix_n32 (by omega)]
    have e2 : List.map ix [n32 32] = [32] := rfl
    rw [e, e2]
    simp only [List.append_assoc, qLb, List.cons_append, List.nil_append]
theorem qTpla_ix (m : XM) (b np : Nat) (l0 : List Int32) (h : ∀ i, i < np → ix (m (b + 11) i) < 100 ∧ ix (m (b + 12) i) < 100) : ∀ i, i ≤ np → (qTpla m b l0 i).map ix = l0.map ix ++ qFl (qLp m b) i 0 := by
  intro i
  induction i with
  | zero => intro _; show l0.map ix = l0.map ix ++ []; rw [List.append_nil]
  | succ i ih =>
    intro hi
    obtain ⟨h2, h3⟩ := h i (by omega)
    show (qTpla m b l0 i ++ qt14 ++ qdg (ix (m (b + 11) i)) ++ [n32 32] ++ qdg (ix (m (b + 12) i))).map ix = _
    simp only [List.map_append]
    rw [ih (by omega), qdg_ix h2, qdg_ix h3, qt_ix.2.2.1, qFl_end, Nat.zero_add]
    have e2 : List.map ix [n32 32] = [32] := rfl
    rw [e2]
    simp only [List.append_assoc, qLp, List.cons_append, List.nil_append]
theorem qTsta_ix (m : XM) (b ns : Nat) (wd : Nat → List Int32) (l0 : List Int32) (h : ∀ i, i < ns → ix (m (b + 9) i) < 100) : ∀ i, i ≤ ns → (qTsta m b wd l0 i).map ix = l0.map ix ++ qFl (qLs m b wd) i 0 := by
  intro i
  induction i with
  | zero => intro _; show l0.map ix = l0.map ix ++ []; rw [List.append_nil]
  | succ i ih =>
    intro hi
    have h2 := h i (by omega)
    show (qTsta m b wd l0 i ++ qt15 ++ (if m (b + 8) i = 0 then qt16 else qt17) ++ qdg (ix (m (b + 9) i)) ++ [n32 32] ++ wd i).map ix = _
    simp only [List.map_append]
    have e3 : List.map ix (if m (b + 8) i = 0 then qt16 else qt17) = (if m (b + 8) i = 0 then wLef else wRig) ++ [32] := by
      split
      · exact qt_ix.2.2.2.2.1
      · exact qt_ix.2.2.2.2.2
    rw [ih (by omega), qdg_ix h2, qt_ix.2.2.2.1, qFl_end, Nat.zero_add, e3]
    have e2 : List.map ix [n32 32] = [32] := rfl
    rw [e2]
    simp only [List.append_assoc, qLs, List.cons_append, List.nil_append]
/-- the whole text's bytes -/
theorem qtext_ix {m : XM} {b nb np ns : Nat} {wd : Nat → List Int32} (h1 : ∀ i, i < 6 → ix (m b i) < 100) (h2 : ∀ i, i < nb → ix (m (b + 2) i) ≤ 2 ∧ ix (m (b + 4) i) < 100 ∧ ix (m (b + 5) i) < 100) (h3 : ∀ i, i < np → ix (m (b + 11) i) < 100 ∧ ix (m (b + 12) i) < 100) (h4 : ∀ i, i < ns → ix (m (b + 9) i) < 100) :
    (qtext m b nb np ns wd).map ix = wPar ++ (qFl (qNsf fun k => ix (m b k)) 6 0 ++ (qFl (qLb m b) nb 0 ++ (qFl (qLp m b) np 0 ++ qFl (qLs m b wd) ns 0))) := by
  unfold qtext
  rw [qTsta_ix m b ns wd _ h4 ns (Nat.le_refl _), qTpla_ix m b np _ h3 np (Nat.le_refl _), qTbea_ix m b nb _ h2 nb (Nat.le_refl _), qTset_ix m b h1 6 (Nat.le_refl _)]
  simp only [List.append_assoc]
