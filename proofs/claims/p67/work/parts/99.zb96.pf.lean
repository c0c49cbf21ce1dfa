/-! What a text says: the parse, as a function of its bytes. -/
abbrev PRS : Type := (Nat × Nat) ⊕ (PG × TK)
def wPar : List Nat := [112, 97, 114, 97, 100, 101]
def wBea : List Nat := [98, 101, 97, 114, 101, 114]
def wSta : List Nat := [115, 116, 97, 110, 100]
def wRig : List Nat := [114, 105, 103, 104, 116]
def wLef : List Nat := [108, 101, 102, 116]
def wPla : List Nat := [112, 108, 97, 110]
/-- the fault of a number: 0, 1 or 2 -/
def numE (lo hi : Int32) (t : TK) : Nat := if t.2.1 = 2 then (if t.2.2.2 < lo then 2 else if t.2.2.2 ≤ hi then 0 else 2) else 1
def setF (bf : BF) (n : Nat) : Nat → Nat → PG → TK → PRS
  | 0, _, g, t => Sum.inr (g, t)
  | r + 1, k, g, t => if numE (n32 (setLo k)) (n32 (setHi k)) (tok bf n t.2.2.1) = 0 then setF bf n r (k + 1) (gup g k (tok bf n t.2.2.1).2.2.2) (tok bf n t.2.2.1) else Sum.inl (numE (n32 (setLo k)) (n32 (setHi k)) (tok bf n t.2.2.1), (tok bf n t.2.2.1).1)
theorem setF_s (bf : BF) (n r k : Nat) (g : PG) (t : TK) : setF bf n (r + 1) k g t = if numE (n32 (setLo k)) (n32 (setHi k)) (tok bf n t.2.2.1) = 0 then setF bf n r (k + 1) (gup g k (tok bf n t.2.2.1).2.2.2) (tok bf n t.2.2.1) else Sum.inl (numE (n32 (setLo k)) (n32 (setHi k)) (tok bf n t.2.2.1), (tok bf n t.2.2.1).1) := by rw [setF]
/-- one more bearer -/
def joinG (g : PG) (c st lg : Int32) : PG := gup (gup (gup (gup (gup (gup (gup g (15 + 7 * nBr g + 6) c) (15 + 7 * nBr g) c) (15 + 7 * nBr g + 2) st) (15 + 7 * nBr g + 3) lg) (15 + 7 * nBr g + 4) (n32 100)) (15 + 7 * nBr g + 1) (-(g 0) * n32 (nBr g))) 6 (n32 (nBr g + 1))
def wordG (bf : BF) (s s0 len : Nat) (g : PG) : PG := itr len (fun i x => gup x (99 + 12 * s + 4 + i) (n32 (bf (s0 + i)))) g
/-- one more stand -/
def standG (bf : BF) (g : PG) (side : Int32) (pl : Int32) (s0 len : Nat) : PG := gup (wordG bf (nSt g) s0 len (gup (gup (gup (gup g (99 + 12 * nSt g) side) (99 + 12 * nSt g + 1) pl) (99 + 12 * nSt g + 3) (-(n32 1))) (99 + 12 * nSt g + 2) (n32 len))) 7 (n32 (nSt g + 1))
def bearerF (bf : BF) (n : Nat) (g : PG) (t1 : TK) : PRS :=
  if (tok bf n t1.2.2.1).2.1 = 1 ∧ (tok bf n t1.2.2.1).2.2.1 - (tok bf n t1.2.2.1).1 = 1 then
    (if numE (n32 1) (n32 200) (tok bf n (tok bf n t1.2.2.1).2.2.1) = 0 then
      (if numE (n32 0) (n32 20) (tok bf n (tok bf n (tok bf n t1.2.2.1).2.2.1).2.2.1) = 0 then
        Sum.inr (joinG g (n32 (bf (tok bf n t1.2.2.1).1 - 96)) (tok bf n (tok bf n t1.2.2.1).2.2.1).2.2.2 (tok bf n (tok bf n (tok bf n t1.2.2.1).2.2.1).2.2.1).2.2.2, tok bf n (tok bf n (tok bf n t1.2.2.1).2.2.1).2.2.1)
      else Sum.inl (numE (n32 0) (n32 20) (tok bf n (tok bf n (tok bf n t1.2.2.1).2.2.1).2.2.1), (tok bf n (tok bf n (tok bf n t1.2.2.1).2.2.1).2.2.1).1))
    else Sum.inl (numE (n32 1) (n32 200) (tok bf n (tok bf n t1.2.2.1).2.2.1), (tok bf n (tok bf n t1.2.2.1).2.2.1).1))
  else Sum.inl (1, (tok bf n t1.2.2.1).1)
/-- behind the side of a stand -/
def placeF (bf : BF) (n : Nat) (g : PG) (side : Int32) (t2 : TK) : PRS :=
  if numE (n32 0) (n32 9999) (tok bf n t2.2.2.1) = 0 then
    (if (tok bf n (tok bf n t2.2.2.1).2.2.1).2.1 = 1 then
      Sum.inr (standG bf g side (tok bf n t2.2.2.1).2.2.2 (tok bf n (tok bf n t2.2.2.1).2.2.1).1 ((tok bf n (tok bf n t2.2.2.1).2.2.1).2.2.1 - (tok bf n (tok bf n t2.2.2.1).2.2.1).1), tok bf n (tok bf n t2.2.2.1).2.2.1)
    else Sum.inl (1, (tok bf n (tok bf n t2.2.2.1).2.2.1).1))
  else Sum.inl (numE (n32 0) (n32 9999) (tok bf n t2.2.2.1), (tok bf n t2.2.2.1).1)
def standF (bf : BF) (n : Nat) (g : PG) (t1 : TK) : PRS :=
  if isW bf (tok bf n t1.2.2.1) wRig = true then placeF bf n g (n32 1) (tok bf n t1.2.2.1)
  else if isW bf (tok bf n t1.2.2.1) wLef = true then placeF bf n g (n32 0) (tok bf n t1.2.2.1)
  else Sum.inl (1, (tok bf n t1.2.2.1).1)
def planF (bf : BF) (n : Nat) (g : PG) (t1 : TK) : PRS :=
  if numE (n32 1) (n32 5000) (tok bf n t1.2.2.1) = 0 then
    (if numE (n32 0) (n32 (nBr g) - n32 2) (tok bf n (tok bf n t1.2.2.1).2.2.1) = 0 then
      Sum.inr (plG g (tok bf n t1.2.2.1).2.2.2 (tok bf n (tok bf n t1.2.2.1).2.2.1).2.2.2, tok bf n (tok bf n t1.2.2.1).2.2.1)
    else Sum.inl (numE (n32 0) (n32 (nBr g) - n32 2) (tok bf n (tok bf n t1.2.2.1).2.2.1), (tok bf n (tok bf n t1.2.2.1).2.2.1).1))
  else Sum.inl (numE (n32 1) (n32 5000) (tok bf n t1.2.2.1), (tok bf n t1.2.2.1).1)
/-- behind the first word of a line -/
def wordF (bf : BF) (n : Nat) (g : PG) (t1 : TK) : PRS :=
  if isW bf t1 wBea = true then (if 12 ≤ nBr g then Sum.inl (4, t1.1) else bearerF bf n g t1)
  else if isW bf t1 wSta = true then (if 6 ≤ nSt g then Sum.inl (4, t1.1) else standF bf n g t1)
  else if isW bf t1 wPla = true then (if 12 ≤ nPl g then Sum.inl (4, t1.1) else planF bf n g t1)
  else Sum.inl (1, t1.1)
def linesF (bf : BF) (n : Nat) : Nat → PG → TK → PRS
  | 0, g, t => if t.2.1 = 0 then Sum.inr (g, t) else Sum.inl (1, t.1)
  | r + 1, g, t => if t.2.1 = 3 then (match wordF bf n g (tok bf n t.2.2.1) with
      | Sum.inl e => Sum.inl e
      | Sum.inr q => linesF bf n r q.1 (tok bf n q.2.2.2.1))
    else if t.2.1 = 0 then Sum.inr (g, t) else Sum.inl (1, t.1)
theorem linesF_0 (bf : BF) (n : Nat) (g : PG) (t : TK) : linesF bf n 0 g t = if t.2.1 = 0 then Sum.inr (g, t) else Sum.inl (1, t.1) := by rw [linesF]
theorem linesF_s (bf : BF) (n r : Nat) (g : PG) (t : TK) : linesF bf n (r + 1) g t = if t.2.1 = 3 then (match wordF bf n g (tok bf n t.2.2.1) with
      | Sum.inl e => Sum.inl e
      | Sum.inr q => linesF bf n r q.1 (tok bf n q.2.2.2.1))
    else if t.2.1 = 0 then Sum.inr (g, t) else Sum.inl (1, t.1) := by rw [linesF]
/-- the whole text -/
def parF (bf : BF) (n : Nat) (g0 : PG) : PRS :=
  if isW bf (tok bf n 0) wPar = true then (match setF bf n 6 0 g0 (tok bf n 0) with
    | Sum.inl e => Sum.inl e
    | Sum.inr q => linesF bf n 700 q.1 (tok bf n q.2.2.2.1))
  else Sum.inl (1, (tok bf n 0).1)
/-- what holds of the picture while a text is parsed -/
def ZG (g : PG) : Prop := ∀ b, nBr g ≤ b → b < 12 → g (15 + 7 * b + 5) = n32 0
def PG0 (g : PG) : Prop := SI g 0 0 ∧ ZG g ∧ nL g = 0
theorem joinG_at {g : PG} {c st lg : Int32} {j : Nat} (h : j ≠ 6) (h1 : j < 15 + 7 * nBr g ∨ 15 + 7 * nBr g + 7 ≤ j ∨ j = 15 + 7 * nBr g + 5) : joinG g c st lg j = g j := by
  unfold joinG
  rw [gup_ne h, gup_ne (by omega), gup_ne (by omega), gup_ne (by omega), gup_ne (by omega), gup_ne (by omega), gup_ne (by omega)]
theorem joinG_own {g : PG} {c st lg : Int32} : joinG g c st lg (15 + 7 * nBr g + 6) = c := by
  unfold joinG
  rw [gup_ne (by omega), gup_ne (by omega), gup_ne (by omega), gup_ne (by omega), gup_ne (by omega), gup_ne (by omega), gup_eq]
theorem joinG_ban {g : PG} {c st lg : Int32} : joinG g c st lg (15 + 7 * nBr g) = c := by
  unfold joinG
  rw [gup_ne (by omega), gup_ne (by omega), gup_ne (by omega), gup_ne (by omega), gup_ne (by omega), gup_eq]
theorem joinG_step {g : PG} {c st lg : Int32} : joinG g c st lg (15 + 7 * nBr g + 2) = st := by
  unfold joinG
  rw [gup_ne (by omega), gup_ne (by omega), gup_ne (by omega), gup_ne (by omega), gup_eq]
theorem joinG_lag {g : PG} {c st lg : Int32} : joinG g c st lg (15 + 7 * nBr g + 3) = lg := by
  unfold joinG
  rw [gup_ne (by omega), gup_ne (by omega), gup_ne (by omega), gup_eq]
theorem joinG_str {g : PG} {c st lg : Int32} : joinG g c st lg (15 + 7 * nBr g + 4) = n32 100 := by
  unfold joinG
  rw [gup_ne (by omega), gup_ne (by omega), gup_eq]
theorem joinG_pla {g : PG} {c st lg : Int32} : joinG g c st lg (15 + 7 * nBr g + 1) = -(g 0) * n32 (nBr g) := by
  unfold joinG
  rw [gup_ne (by omega), gup_eq]
theorem joinG_6 {g : PG} {c st lg : Int32} (h : nBr g < 12) : joinG g c st lg 6 = n32 (nBr g + 1) ∧ nBr (joinG g c st lg) = nBr g + 1 := by
  have e : joinG g c st lg 6 = n32 (nBr g + 1) := by unfold joinG; rw [gup_eq]
  refine ⟨e, ?_⟩
  unfold nBr at *
  rw [e, ix_n32 (by omega)]
theorem cnt_all {n : Nat} {p : Nat → Bool} (h : ∀ i, i < n → p i = true) : cnt n p = n := by
  induction n with
  | zero => rfl
  | succ n ih => rw [cnt_succ, h n (by omega), if_pos rfl, ih (fun i hi => h i (by omega))]
theorem PG0_join {g : PG} {c st lg : Int32} (h : PG0 g) (hn : nBr g < 12) (hc : inR c 1 26) (hs : inR st 1 200) (hl : inR lg 0 20) : PG0 (joinG g c st lg) := by
  obtain ⟨⟨w, i9, ip, im, ix', d, d1, d2⟩, z, l0⟩ := h
  have a4 := w.ns
  have a6 := w.np
  obtain ⟨j6, jn⟩ := joinG_6 (c := c) (st := st) (lg := lg) hn
  have n7 : nSt (joinG g c st lg) = nSt g := by unfold nSt; rw [joinG_at (by omega) (by omega)]
  have n8 : nPl (joinG g c st lg) = nPl g := by unfold nPl; rw [joinG_at (by omega) (by omega)]
  have n10 : nL (joinG g c st lg) = nL g := by unfold nL; rw [joinG_at (by omega) (by omega)]
  have cn : ¬ c = n32 0 := by
    obtain ⟨x, x1, x2, rfl⟩ := hc
    exact n32_ne (by omega) (by omega) (by omega)
  have ec : carried (joinG g c st lg) = carried g + 1 := by
    unfold carried
    rw [jn, cnt_succ, joinG_ban, decide_eq_true cn, if_pos rfl]
    congr 1
    exact cnt_congr fun b hb => by rw [joinG_at (by omega) (by omega)]
  have lc := w.lc
  obtain ⟨⟨b1, b2⟩, ⟨b3, b4⟩, ⟨b5, b6⟩, ⟨b7, b8⟩, ⟨c0, c1, c2, c3, c4, c5⟩, q0, q2, q3, q4, q6, qp, ql, qs⟩ := w
  refine ⟨⟨⟨⟨?_, ?_⟩, ⟨?_, ?_⟩, ⟨?_, ?_⟩, ⟨?_, ?_⟩, ⟨?_, ?_, ?_, ?_, ?_, ?_⟩, ?_, ?_, ?_, ?_, ?_, ?_, ?_, ?_⟩, ?_, ?_, ?_, ?_, d, ?_, d2⟩, ?_, ?_⟩
  · rw [jn]; exact j6
  · rw [jn]; omega
  · rw [n7, joinG_at (by omega) (by omega)]; exact b3
  · rw [n7]; exact b4
  · rw [n8, joinG_at (by omega) (by omega)]; exact b5
  · rw [n8]; exact b6
  · rw [n10, joinG_at (by omega) (by omega)]; exact b7
  · rw [n10, ec, jn]; omega
  · rw [joinG_at (by omega) (by omega)]; exact c0
  · rw [joinG_at (by omega) (by omega)]; exact c1
  · rw [joinG_at (by omega) (by omega)]; exact c2
  · rw [joinG_at (by omega) (by omega)]; exact c3
  · rw [joinG_at (by omega) (by omega)]; exact c4
  · rw [joinG_at (by omega) (by omega)]; exact c5
  · rw [jn]; intro b hb
    by_cases e : b = nBr g
    · subst e; rw [joinG_ban]
      obtain ⟨x, x1, x2, x3⟩ := hc
      exact ⟨x, by omega, x2, x3⟩
    · rw [joinG_at (by omega) (by omega)]; exact q0 b (by omega)
  · rw [jn]; intro b hb
    by_cases e : b = nBr g
    · subst e; rw [joinG_step]; exact hs
    · rw [joinG_at (by omega) (by omega)]; exact q2 b (by omega)
  · rw [jn]; intro b hb
    by_cases e : b = nBr g
    · subst e; rw [joinG_lag]; exact hl
    · rw [joinG_at (by omega) (by omega)]; exact q3 b (by omega)
  · rw [jn]; intro b hb
    by_cases e : b = nBr g
    · subst e; rw [joinG_str]; exact ⟨100, by omega, by omega, rfl⟩
    · rw [joinG_at (by omega) (by omega)]; exact q4 b (by omega)
  · rw [jn]; intro b hb
    by_cases e : b = nBr g
    · subst e; rw [joinG_own]; exact hc
    · rw [joinG_at (by omega) (by omega)]; exact q6 b (by omega)
  · rw [n8, jn]; intro j hj
    have ea : aheadG (joinG g c st lg) j = aheadG g j := by unfold aheadG; rw [joinG_at (by omega) (by omega)]
    rw [ea, joinG_at (by omega) (by omega)]
    exact ⟨(qp j hj).1, by have := (qp j hj).2; omega⟩
  · rw [n10]; intro j hj; omega
  · rw [n7]; intro s hs
    obtain ⟨x1, x2, x3⟩ := qs s hs
    have hl : ∀ i, i < ix (g (99 + 12 * s + 2)) → i < 8 := by
      obtain ⟨n, y1, y2, y3⟩ := x2
      intro i hi
      rw [y3, ix_n32 (by omega)] at hi; omega
    rw [joinG_at (by omega) (by omega), joinG_at (by omega) (by omega)]
    refine ⟨x1, x2, fun i hi => ?_⟩
    have := hl i hi
    rw [joinG_at (by omega) (by omega)]; exact x3 i hi
  · rw [joinG_at (by omega) (by omega)]; exact i9
  · intro j hj
    rw [n8] at hj
    rw [joinG_at (by omega) (by omega), joinG_at (by omega) (by omega)]; exact ip j hj
  · unfold SIm
    rw [joinG_at (by omega) (by omega), n8, im]
    congr 1
    exact cnt_congr fun j hj => by rw [joinG_at (by omega) (by omega)]
  · intro b hb
    rw [jn] at hb
    by_cases e : b = nBr g
    · subst e; rw [joinG_pla]
      obtain ⟨x, x1, x2, x3⟩ := c0
      rw [x3, Int32.toInt_mul, Int32.toInt_neg, n32_toInt (by omega), n32_toInt (by omega)]
      have hm : x * nBr g ≤ 999 * 11 := Nat.mul_le_mul x2 (by omega)
      have e1 : (-(x : Int)).bmod (2 ^ 32) = -(x : Int) := by apply Int.bmod_eq_of_le <;> omega
      rw [e1]
      have e2 : -(x : Int) * (nBr g : Int) = -((x * nBr g : Nat) : Int) := by rw [Int.neg_mul]; rfl
      rw [e2]
      have e3 : (-((x * nBr g : Nat) : Int)).bmod (2 ^ 32) = -((x * nBr g : Nat) : Int) := by apply Int.bmod_eq_of_le <;> omega
      rw [e3]
      omega
    · rw [joinG_at (by omega) (by omega)]; exact ix' b (by omega)
  · rw [joinG_at (by omega) (by omega)]; exact d1
  · intro b hb hb2
    rw [jn] at hb
    rw [joinG_at (by omega) (by omega)]; exact z b (by omega) hb2
  · rw [n10]; exact l0
theorem wordG_at {bf : BF} {s s0 : Nat} {g : PG} {j : Nat} : ∀ len, (j < 99 + 12 * s + 4 ∨ 99 + 12 * s + 4 + len ≤ j) → wordG bf s s0 len g j = g j := by
  intro len
  induction len with
  | zero => intro _; rfl
  | succ len ih =>
    intro h
    show gup (wordG bf s s0 len g) _ _ j = _
    rw [gup_ne (by omega), ih (by omega)]
theorem wordG_in {bf : BF} {s s0 : Nat} {g : PG} : ∀ len i, i < len → wordG bf s s0 len g (99 + 12 * s + 4 + i) = n32 (bf (s0 + i)) := by
  intro len
  induction len with
  | zero => intro i h; omega
  | succ len ih =>
    intro i h
    show gup (wordG bf s s0 len g) _ _ _ = _
    by_cases e : i = len
    · subst e; rw [gup_eq]
    · rw [gup_ne (by omega), ih i (by omega)]
section ST96
variable {bf : BF} {g : PG} {side pl : Int32} {s0 len : Nat}
theorem standG_at {j : Nat} (hl : len ≤ 8) (h : j ≠ 7) (h1 : j < 99 + 12 * nSt g ∨ 99 + 12 * nSt g + 12 ≤ j) : standG bf g side pl s0 len j = g j := by
  unfold standG
  rw [gup_ne h, wordG_at _ (by omega), gup_ne (by omega), gup_ne (by omega), gup_ne (by omega), gup_ne (by omega)]
theorem standG_0 : standG bf g side pl s0 len (99 + 12 * nSt g) = side := by
  unfold standG
  rw [gup_ne (by omega), wordG_at _ (by omega), gup_ne (by omega), gup_ne (by omega), gup_ne (by omega), gup_eq]
theorem standG_1 : standG bf g side pl s0 len (99 + 12 * nSt g + 1) = pl := by
  unfold standG
  rw [gup_ne (by omega), wordG_at _ (by omega), gup_ne (by omega), gup_ne (by omega), gup_eq]
theorem standG_3 : standG bf g side pl s0 len (99 + 12 * nSt g + 3) = -(n32 1) := by
  unfold standG
  rw [gup_ne (by omega), wordG_at _ (by omega), gup_ne (by omega), gup_eq]
theorem standG_2 : standG bf g side pl s0 len (99 + 12 * nSt g + 2) = n32 len := by
  unfold standG
  rw [gup_ne (by omega), wordG_at _ (by omega), gup_eq]
theorem standG_w {i : Nat} (hi : i < len) : standG bf g side pl s0 len (99 + 12 * nSt g + 4 + i) = n32 (bf (s0 + i)) := by
  unfold standG
  rw [gup_ne (by omega), wordG_in _ _ hi]
theorem standG_7 (h : nSt g < 6) : standG bf g side pl s0 len 7 = n32 (nSt g + 1) ∧ nSt (standG bf g side pl s0 len) = nSt g + 1 := by
  have e : standG bf g side pl s0 len 7 = n32 (nSt g + 1) := by unfold standG; rw [gup_eq]
  refine ⟨e, ?_⟩
  unfold nSt at *
  rw [e, ix_n32 (by omega)]
theorem PG0_stand (h : PG0 g) (hn : nSt g < 6) (hs : inR side 0 1) (l1 : 1 ≤ len) (l8 : len ≤ 8) (hw : ∀ i, i < len → isL (bf (s0 + i)) = true) : PG0 (standG bf g side pl s0 len) := by
  obtain ⟨⟨w, i9, ip, im, ix', d, d1, d2⟩, z, l0⟩ := h
  have a2 := w.nb
  have a6 := w.np
  obtain ⟨j7, jn⟩ := standG_7 (bf := bf) (side := side) (pl := pl) (s0 := s0) (len := len) hn
  have at' : ∀ j, j ≠ 7 → (j < 99 ∨ 171 ≤ j) → standG bf g side pl s0 len j = g j := fun j h1 h2 => standG_at l8 h1 (by omega)
  have n6 : nBr (standG bf g side pl s0 len) = nBr g := by unfold nBr; rw [at' _ (by omega) (by omega)]
  have n8 : nPl (standG bf g side pl s0 len) = nPl g := by unfold nPl; rw [at' _ (by omega) (by omega)]
  have n10 : nL (standG bf g side pl s0 len) = nL g := by unfold nL; rw [at' _ (by omega) (by omega)]
  have ec : carried (standG bf g side pl s0 len) = carried g := by
    unfold carried
    rw [n6]
    exact cnt_congr fun b hb => by rw [at' _ (by omega) (by omega)]
  obtain ⟨⟨b1, b2⟩, ⟨b3, b4⟩, ⟨b5, b6⟩, ⟨b7, b8⟩, ⟨c0, c1, c2, c3, c4, c5⟩, q0, q2, q3, q4, q6, qp, ql, qs⟩ := w
  refine ⟨⟨⟨⟨?_, ?_⟩, ⟨?_, ?_⟩, ⟨?_, ?_⟩, ⟨?_, ?_⟩, ⟨?_, ?_, ?_, ?_, ?_, ?_⟩, ?_, ?_, ?_, ?_, ?_, ?_, ?_, ?_⟩, ?_, ?_, ?_, ?_, d, ?_, d2⟩, ?_, ?_⟩
  · rw [n6, at' _ (by omega) (by omega)]; exact b1
  · rw [n6]; exact b2
  · rw [jn]; exact j7
  · rw [jn]; omega
  · rw [n8, at' _ (by omega) (by omega)]; exact b5
  · rw [n8]; exact b6
  · rw [n10, at' _ (by omega) (by omega)]; exact b7
  · rw [n10, n6, ec]; exact b8
  · rw [at' _ (by omega) (by omega)]; exact c0
  · rw [at' _ (by omega) (by omega)]; exact c1
  · rw [at' _ (by omega) (by omega)]; exact c2
  · rw [at' _ (by omega) (by omega)]; exact c3
  · rw [at' _ (by omega) (by omega)]; exact c4
  · rw [at' _ (by omega) (by omega)]; exact c5
  · rw [n6]; intro c hc; rw [at' _ (by omega) (by omega)]; exact q0 c hc
  · rw [n6]; intro c hc; rw [at' _ (by omega) (by omega)]; exact q2 c hc
  · rw [n6]; intro c hc; rw [at' _ (by omega) (by omega)]; exact q3 c hc
  · rw [n6]; intro c hc; rw [at' _ (by omega) (by omega)]; exact q4 c hc
  · rw [n6]; intro c hc; rw [at' _ (by omega) (by omega)]; exact q6 c hc
  · rw [n8, n6]; intro j hj
    have ea : aheadG (standG bf g side pl s0 len) j = aheadG g j := by unfold aheadG; rw [at' _ (by omega) (by omega)]
    rw [ea, at' _ (by omega) (by omega)]; exact qp j hj
  · rw [n10]; intro j hj; omega
  · rw [jn]; intro s hs'
    by_cases e : s = nSt g
    · subst e
      rw [standG_0, standG_2, ix_n32 (by omega)]
      refine ⟨hs, ⟨len, l1, l8, rfl⟩, fun i hi => ?_⟩
      rw [standG_w hi]
      have := (isL_iff _).mp (hw i hi)
      exact ⟨bf (s0 + i), this.1, this.2, rfl⟩
    · obtain ⟨x1, x2, x3⟩ := qs s (by omega)
      have hl : ∀ i, i < ix (g (99 + 12 * s + 2)) → i < 8 := by
        obtain ⟨n, y1, y2, y3⟩ := x2
        intro i hi
        rw [y3, ix_n32 (by omega)] at hi; omega
      rw [standG_at l8 (by omega) (by omega), standG_at l8 (by omega) (by omega)]
      refine ⟨x1, x2, fun i hi => ?_⟩
      have := hl i hi
      rw [standG_at l8 (by omega) (by omega)]; exact x3 i hi
  · rw [at' _ (by omega) (by omega)]; exact i9
  · intro j hj
    rw [n8] at hj
    rw [at' _ (by omega) (by omega), at' _ (by omega) (by omega)]; exact ip j hj
  · unfold SIm
    rw [at' _ (by omega) (by omega), n8, im]
    congr 1
    exact cnt_congr fun j hj => by rw [at' _ (by omega) (by omega)]
  · intro b hb
    rw [n6] at hb
    rw [at' _ (by omega) (by omega)]; exact ix' b hb
  · rw [at' _ (by omega) (by omega)]; exact d1
  · intro b hb hb2
    rw [n6] at hb
    rw [at' _ (by omega) (by omega)]; exact z b hb hb2
  · rw [n10]; exact l0
end ST96
theorem PG0_pl {g : PG} {b t : Nat} (h : PG0 g) (hb : b + 1 < nBr g) (h12 : nPl g < 12) (t1 : 1 ≤ t) (t2 : t ≤ 5000) : PG0 (plG g (n32 t) (n32 b)) := by
  have kk := WF_pl (t := n32 t) h.1.w hb h12
  refine ⟨SI_pl h.1 hb h12 t1 t2, ?_, by rw [kk.2.2.2]; exact h.2.2⟩
  intro c hc hc2
  rw [kk.2.1] at hc
  rw [plG_at (by omega) (by omega)]
  exact h.2.1 c hc hc2
/-- the settings, one behind the other -/
def PS0 (g : PG) (k : Nat) : Prop := (∀ j, 6 ≤ j → j < 243 → g j = n32 0) ∧ ∀ j, j < k → inR (g j) (setLo j) (setHi j)
theorem PS0_set {g : PG} {k : Nat} {v : Int32} (h : PS0 g k) (hk : k < 6) (hv : inR v (setLo k) (setHi k)) : PS0 (gup g k v) (k + 1) := by
  refine ⟨fun j h1 h2 => by rw [gup_ne (by omega)]; exact h.1 j h1 h2, fun j hj => ?_⟩
  by_cases e : j = k
  · subst e; rw [gup_eq]; exact hv
  · rw [gup_ne e]; exact h.2 j (by omega)
theorem PS0_all {g : PG} (h : PS0 g 6) : PG0 g := by
  obtain ⟨z, s⟩ := h
  have i0 : ix (n32 0) = 0 := rfl
  have n6 : nBr g = 0 := by unfold nBr; rw [z 6 (by omega) (by omega)]; rfl
  have n7 : nSt g = 0 := by unfold nSt; rw [z 7 (by omega) (by omega)]; rfl
  have n8 : nPl g = 0 := by unfold nPl; rw [z 8 (by omega) (by omega)]; rfl
  have n10 : nL g = 0 := by unfold nL; rw [z 10 (by omega) (by omega)]; rfl
  have ec : carried g = 0 := by unfold carried; rw [n6]; rfl
  refine ⟨⟨⟨⟨?_, ?_⟩, ⟨?_, ?_⟩, ⟨?_, ?_⟩, ⟨?_, ?_⟩, ⟨s 0 (by omega), s 1 (by omega), s 2 (by omega), s 3 (by omega), s 4 (by omega), s 5 (by omega)⟩, ?_, ?_, ?_, ?_, ?_, ?_, ?_, ?_⟩, ?_, ?_, ?_, ?_, 0, ?_, Nat.le_refl _⟩, ?_, n10⟩
  · rw [n6]; exact z 6 (by omega) (by omega)
  · rw [n6]; omega
  · rw [n7]; exact z 7 (by omega) (by omega)
  · rw [n7]; omega
  · rw [n8]; exact z 8 (by omega) (by omega)
  · rw [n8]; omega
  · rw [n10]; exact z 10 (by omega) (by omega)
  · rw [n10, ec, n6]
  · rw [n6]; intro c hc; omega
  · rw [n6]; intro c hc; omega
  · rw [n6]; intro c hc; omega
  · rw [n6]; intro c hc; omega
  · rw [n6]; intro c hc; omega
  · rw [n8]; intro c hc; omega
  · rw [n10]; intro c hc; omega
  · rw [n7]; intro c hc; omega
  · exact z 9 (by omega) (by omega)
  · intro j hj; rw [n8] at hj; omega
  · unfold SIm; rw [n8, z 12 (by omega) (by omega)]; rfl
  · intro b hb; rw [n6] at hb; omega
  · exact z 13 (by omega) (by omega)
  · intro b _ hb2
    exact z _ (by omega) (by omega)
theorem numE_ok {lo hi : Nat} {t : TK} (hl : lo < 2147483648) (hh : hi < 2147483648) (h : numE (n32 lo) (n32 hi) t = 0) : t.2.1 = 2 ∧ inR t.2.2.2 lo hi := by
  unfold numE at h
  by_cases c : t.2.1 = 2
  · rw [if_pos c] at h
    by_cases c1 : t.2.2.2 < n32 lo
    · rw [if_pos c1] at h; omega
    · rw [if_neg c1] at h
      by_cases c2 : t.2.2.2 ≤ n32 hi
      · exact ⟨c, inR_of (Int32.not_lt.mp c1) c2 hl hh⟩
      · rw [if_neg c2] at h; omega
  · rw [if_neg c] at h; omega
theorem numE_le (lo hi : Int32) (t : TK) : numE lo hi t ≤ 2 := by
  unfold numE
  split
  · split
    · omega
    · split <;> omega
  · omega
theorem numE_pl {nb : Nat} {t : TK} (hn : nb ≤ 12) (h : numE (n32 0) (n32 nb - n32 2) t = 0) : t.2.1 = 2 ∧ ∃ b, b + 1 < nb ∧ t.2.2.2 = n32 b := by
  unfold numE at h
  by_cases c : t.2.1 = 2
  · rw [if_pos c] at h
    by_cases c1 : t.2.2.2 < n32 0
    · rw [if_pos c1] at h; omega
    · rw [if_neg c1] at h
      by_cases c2 : t.2.2.2 ≤ n32 nb - n32 2
      · refine ⟨c, ?_⟩
        have e : ∀ k, k < 13 → (n32 k - n32 2).toInt = (k : Int) - 2 := by decide
        rw [Int32.le_iff_toInt_le, e nb (by omega)] at c2
        rw [Int32.lt_iff_toInt_lt, n32_toInt (by omega)] at c1
        refine ⟨t.2.2.2.toInt.toNat, by omega, ?_⟩
        apply Int32.toInt_inj.mp
        rw [n32_toInt (by omega)]; omega
      · rw [if_neg c2] at h; omega
  · rw [if_neg c] at h; omega

