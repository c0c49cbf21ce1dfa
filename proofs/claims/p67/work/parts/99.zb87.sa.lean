/-! Pairs: the bits of a share, what a word wants, whose letter it is, blanks, how far text and word are alike. -/
def fbR : Nat → Int32 → UInt32 → Option Int32
  | 0, e, x => if FP.fsub x FP.fconst1 &&& 0x7fffffff ≤ 0x7f800000 ∧ FP.fmul (FP.fsub x FP.fconst1) (UInt32.ofNat 1258291200) &&& 0x7fffffff ≤ 0x7f800000 then some ((e <<< (n32 23 &&& 31)) + FP.f2i (FP.fmul (FP.fsub x FP.fconst1) (UInt32.ofNat 1258291200))) else none
  | k + 1, e, x => if n32 0 ≤ Op.cmpValue (FP.fcmp x FP.fconst1) .g then
      (if FP.fsub x FP.fconst1 &&& 0x7fffffff ≤ 0x7f800000 ∧ FP.fmul (FP.fsub x FP.fconst1) (UInt32.ofNat 1258291200) &&& 0x7fffffff ≤ 0x7f800000 then some ((e <<< (n32 23 &&& 31)) + FP.f2i (FP.fmul (FP.fsub x FP.fconst1) (UInt32.ofNat 1258291200))) else none)
    else if FP.fmul x FP.fconst2 &&& 0x7fffffff ≤ 0x7f800000 then fbR k (e + -(n32 1)) (FP.fmul x FP.fconst2) else none
theorem fbR_0 (e : Int32) (x : UInt32) : fbR 0 e x = if FP.fsub x FP.fconst1 &&& 0x7fffffff ≤ 0x7f800000 ∧ FP.fmul (FP.fsub x FP.fconst1) (UInt32.ofNat 1258291200) &&& 0x7fffffff ≤ 0x7f800000 then some ((e <<< (n32 23 &&& 31)) + FP.f2i (FP.fmul (FP.fsub x FP.fconst1) (UInt32.ofNat 1258291200))) else none := by rw [fbR]
theorem fbR_s (k : Nat) (e : Int32) (x : UInt32) : fbR (k + 1) e x = if n32 0 ≤ Op.cmpValue (FP.fcmp x FP.fconst1) .g then
      (if FP.fsub x FP.fconst1 &&& 0x7fffffff ≤ 0x7f800000 ∧ FP.fmul (FP.fsub x FP.fconst1) (UInt32.ofNat 1258291200) &&& 0x7fffffff ≤ 0x7f800000 then some ((e <<< (n32 23 &&& 31)) + FP.f2i (FP.fmul (FP.fsub x FP.fconst1) (UInt32.ofNat 1258291200))) else none)
    else if FP.fmul x FP.fconst2 &&& 0x7fffffff ≤ 0x7f800000 then fbR k (e + -(n32 1)) (FP.fmul x FP.fconst2) else none := by rw [fbR]
def fbT (x : UInt32) : Option Int32 := if n32 0 < Op.cmpValue (FP.fcmp x FP.fconst0) .g then fbR 60 (n32 127) x else some (n32 0)
/-- what holds of each share -/
def shOk (x : UInt32) : Bool := fcond x && decide (fbT x = some x.toInt32) && decide (Op.cmpValue (FP.fcmp x x) .l = n32 0)
theorem shOk_all : ((List.range 9).all fun n => (List.range 25).all fun d => Nat.beq d 0 || Nat.blt d n || shOk (FP.fdiv (FP.i2f (n32 n)) (FP.i2f (n32 d)))) = true := by decide +kernel
theorem alm8 {g : PG} (w : WF g) {s : Nat} (hs : s < nSt g) : almG g s ≤ 8 := by
  obtain ⟨l1, l2, l3⟩ := wl w hs
  have := cnt_le (min (txA g s).1 (ix (g (99 + 12 * s + 2)))) fun i => decide ((txA g s).2.2.1 i = g (99 + 12 * s + 4 + i))
  unfold almG; omega
theorem shOk_G {g : PG} (w : WF g) {s : Nat} (hs : s < nSt g) : shOk (shareG g s) = true := by
  obtain ⟨l1, l2, l3⟩ := wl w hs
  have tl := tx_len w s
  have al := alm8 w hs
  have am : almG g s ≤ max (txA g s).1 (ix (g (99 + 12 * s + 2))) := by
    have := cnt_le (min (txA g s).1 (ix (g (99 + 12 * s + 2)))) fun i => decide ((txA g s).2.2.1 i = g (99 + 12 * s + 4 + i))
    unfold almG; omega
  have := List.all_eq_true.mp (List.all_eq_true.mp shOk_all (almG g s) (List.mem_range.mpr (by omega))) (max (txA g s).1 (ix (g (99 + 12 * s + 2)))) (List.mem_range.mpr (by omega))
  rw [Bool.or_eq_true, Bool.or_eq_true] at this
  rcases this with (h | h) | h
  · exact absurd (Nat.eq_of_beq_eq_true h) (by omega)
  · rw [Nat.blt_eq] at h; omega
  · exact h
section S87
variable {D : Nat} {m : XM} {g : PG} {E : Nat → XM → Prop}
/-- the letters that a word wants and nobody carries -/
def wantG (g : PG) (s l : Nat) : Int32 := n32 (cnt (ix (g (99 + 12 * s + 2))) fun i => decide (g (99 + 12 * s + 4 + i) = n32 96 + n32 l)) - n32 (cnt (nBr g) fun b => decide (g (15 + 7 * b) = n32 l))
def missG (g : PG) (s n : Nat) : Int32 := isum n fun j => imax (n32 0) (wantG g s (j + 1))
theorem n32_sub1 (x : Int32) (b : Nat) : x - n32 b - n32 1 = x - n32 (b + 1) := by
  rw [← n32_add, Int32.sub_eq_add_neg, Int32.sub_eq_add_neg, Int32.sub_eq_add_neg, Int32.neg_add, Int32.sub_eq_add_neg, Int32.add_assoc]
theorem n32_sub0 (x : Int32) : x - n32 0 = x := Int32.sub_zero x
theorem txc (g : PG) (s i : Nat) : (txG g s (i + 1)).2.1 = (if seesG g s (ordG g s i) = true then (txG g s i).2.1 + 1 else (txG g s i).2.1) ∧ (txG g s (i + 1)).2.2.2 = (if seesG g s (ordG g s i) = true then (fun j => if j = (txG g s i).2.1 then ordG g s i else (txG g s i).2.2.2 j) else (txG g s i).2.2.2) := by
  have e : txG g s (i + 1) = txStep g s i (txG g s i) := rfl
  rw [e]
  generalize txG g s i = t
  unfold txStep
  by_cases c : seesG g s (ordG g s i) = true
  · rw [if_pos c, if_pos c, if_pos c]
    by_cases c2 : gapG g t (ordG g s i) = true
    · rw [if_pos c2]; exact ⟨rfl, rfl⟩
    · rw [if_neg c2]; exact ⟨rfl, rfl⟩
  · rw [if_neg c, if_neg c, if_neg c]; exact ⟨rfl, rfl⟩
theorem tx_keep (g : PG) (s i k : Nat) (h : k < (txG g s i).2.1) : ∀ d, k < (txG g s (i + d)).2.1 ∧ (txG g s (i + d)).2.2.2 k = (txG g s i).2.2.2 k := by
  intro d
  induction d with
  | zero => exact ⟨h, rfl⟩
  | succ d ih =>
    obtain ⟨h1, h2⟩ := ih
    obtain ⟨e1, e2⟩ := txc g s (i + d)
    rw [← Nat.add_assoc, e1, e2]
    by_cases c : seesG g s (ordG g s (i + d)) = true
    · rw [if_pos c, if_pos c]
      refine ⟨by omega, ?_⟩
      show (if k = (txG g s (i + d)).2.1 then _ else _) = _
      rw [if_neg (by omega)]; exact h2
    · rw [if_neg c, if_neg c]; exact ⟨h1, h2⟩
def oneG (g : PG) (s k : Nat) : Int32 := if k < (txA g s).2.1 then n32 ((txA g s).2.2.2 k) else -(n32 1)
/-- the bytes of a text are letters but for its blanks -/
def blkG (t : TX) : Prop := cnt t.1 (fun j => decide (t.2.2.1 j = n32 32)) + t.2.1 = t.1
theorem cnt_old {n : Nat} {f : Nat → Int32} {v : Int32} : cnt n (fun j => decide ((if j = n then v else f j) = n32 32)) = cnt n (fun j => decide (f j = n32 32)) := cnt_congr fun i hi => by rw [if_neg (by omega)]
theorem blk_1 {t : TX} {v : Int32} {b : Nat} (h : blkG t) (hv : ¬ v = n32 32) : blkG (tx1 t v b) := by
  unfold blkG tx1 at *
  dsimp only
  rw [cnt_succ, cnt_old]
  simp only [if_true, hv, decide_false, Bool.false_eq_true, if_false]
  omega
theorem blk_0 {t : TX} (h : blkG t) : blkG (tx0 t) := by
  unfold blkG tx0 at *
  dsimp only
  rw [cnt_succ, cnt_old]
  simp only [if_true, decide_true]
  omega
theorem blk_G {g : PG} (w : WF g) (s : Nat) : ∀ k, k ≤ nBr g → blkG (txG g s k) := by
  intro k
  induction k with
  | zero => intro _; rfl
  | succ k ih =>
    intro hk
    have e : txG g s (k + 1) = txStep g s k (txG g s k) := rfl
    have ih := ih (by omega)
    rw [e]
    generalize txG g s k = t at ih
    have hv : ¬ n32 96 + g (15 + 7 * ordG g s k) = n32 32 := by
      obtain ⟨n, h1, h2, h3⟩ := w.b0 (ordG_lt (s := s) (show k < nBr g by omega))
      rw [h3, n32_add]
      exact n32_ne (by omega) (by omega) (by omega)
    unfold txStep
    split
    · split
      · exact blk_1 (blk_0 ih) hv
      · exact blk_1 ih hv
    · exact ih
/-- the first of r numbers from i on that is so, or the one behind them -/
def fps (p : Nat → Bool) : Nat → Nat → Nat
  | 0, i => i
  | r + 1, i => if p i = true then i else fps p r (i + 1)
theorem fps_succ (p : Nat → Bool) (r i : Nat) : fps p (r + 1) i = if p i = true then i else fps p r (i + 1) := by rw [fps]
def difG (g : PG) (s i : Nat) : Bool := decide (¬ (txA g s).2.2.1 i = g (99 + 12 * s + 4 + i))
end S87

