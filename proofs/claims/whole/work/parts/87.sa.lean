/-! Pairs: the bits of a share, what a word wants, whose letter it is, blanks, how far text and word are alike. -/
def fbR : Nat → Int32 → UInt32 → Option Int32
  | 0, e, x => if FP.fsub x FP.fconst1 &&& 0x7fffffff ≤ 0x7f800000 ∧ FP.fmul (FP.fsub x FP.fconst1) (UInt32.ofNat 1258291200) &&& 0x7fffffff ≤ 0x7f800000 then some ((e <<< (n32 23 &&& 31)) + FP.f2i (FP.fmul (FP.fsub x FP.fconst1) (UInt32.ofNat 1258291200))) else none
  | k + 1, e, x => if n32 0 ≤ Op.cmpValue (FP.fcmp x FP.fconst1) .g then
      (if FP.fsub x FP.fconst1 &&& 0x7fffffff ≤ 0x7f800000 ∧ FP.fmul (FP.fsub x FP.fconst1) (UInt32.ofNat 1258291200) &&& 0x7fffffff ≤ 0x7f800000 then some ((e <<< (n32 23 &&& 31)) + FP.f2i (FP.fmul (FP.fsub x FP.fconst1) (UInt32.ofNat 1258291200))) else none)
    else if FP.fmul x FP.fconst2 &&& 0x7fffffff ≤ 0x7f800000 then fbR k (e + -(n32 1)) (FP.fmul x FP.fconst2) else none
theorem fbR_0 (e : Int32) (x : UInt32) : fbR 0 e x = if FP.fsub x FP.fconst1 &&& 0x7fffffff ≤ 0x7f800000 ∧ FP.fmul (FP.fsub x FP.fconst1) (UInt32.ofNat 1258291200) &&& 0x7fffffff ≤ 0x7f800000 then some ((e <<< (n32 23 &&& 31)) + FP.f2i (FP.fmul (FP.fsub x FP.fconst1) (UInt32.ofNat 1258291200))) else none := by rw [fbR]
theorem fbR_s (k : Nat) (e : Int32) (x : UInt32) : fbR (k + 1) e x = if n32 0 ≤ Op.cmpValue (FP.fcmp x FP.fconst1) .g then
      (if FP.fsub x FP.fconst1 &&& 0x7fffffff ≤ 0x7f800000 ∧ FP.fmul (FP.fsub x FP.fconst1) (UInt32.ofNat 1258291200) &&& 0x7fffffff ≤ 0x7f800000 then some ((e <<< (n32 23 &&& 31)) + FP.f2i (FP.fmul (FP.fsub x FP.fconst1) (UInt32.ofNat 1258291200))) else none)
    else if FP.fmul x FP.fconst2 &&& 0x7fffffff ≤ 0x7f800000 then fbR k (e + -(n32 1)) (FP.fmul x FP.fconst2) else none := by rw [fbR]
def fbT (x : UInt32) : Option Int32 := if n32 0 < Op.cmpValue (FP.fcmp x FP.fconst0) .g then fbR 60 (n32 127) x else some (n32 0)
/-- what holds of each share -/
def shOk (x : UInt32) : Bool := fcond x && decide (fbT x = some x.toInt32) && decide (Op.cmpValue (FP.fcmp x x) .l = n32 0)
theorem shOk_all : ((List.range 9).all fun n => (List.range 25).all fun d => Nat.beq d 0 || Nat.blt d n || shOk (FP.fdiv (FP.i2f (n32 n)) (FP.i2f (n32 d)))) = true := by decide +kernel
theorem alm8 {g : PG} (w : WF g) {s : Nat} (hs : s < nSt g) : almG g s ≤ 8 := by
  obtain ⟨l1, l2, l3⟩ := wl w hs
  have := cnt_le (min (txA g s).1 (ix (g (99 + 12 * s + 2)))) fun i => decide ((txA g s).2.2.1 i = g (99 + 12 * s + 4 + i))
  unfold almG; omega
theorem shOk_G {g : PG} (w : WF g) {s : Nat} (hs : s < nSt g) : shOk (shareG g s) = true := by
  obtain ⟨l1, l2, l3⟩ := wl w hs
  have tl := tx_len w s
  have al := alm8 w hs
  have am : almG g s ≤ max (txA g s).1 (ix (g (99 + 12 * s + 2))) := by
    have := cnt_le (min (txA g s).1 (ix (g (99 + 12 * s + 2)))) fun i => decide ((txA g s).2.2.1 i = g (99 + 12 * s + 4 + i))
    unfold almG; omega
  have := List.all_eq_true.mp (List.all_eq_true.mp shOk_all (almG g s) (List.mem_range.mpr (by omega))) (max (txA g s).1 (ix (g (99 + 12 * s + 2)))) (List.mem_range.mpr (by omega))
  rw [Bool.or_eq_true, Bool.or_eq_true] at this
  rcases this with (h | h) | h
  · exact absurd (Nat.eq_of_beq_eq_true h) (by omega)
  · rw [Nat.blt_eq] at h; omega
  · exact h
section S87
variable {D : Nat} {m : XM} {g : PG} {E : Nat → XM → Prop}
theorem t170 {Q : Int32 → XM → Prop} : ∀ (k : Nat) (e : Int32) (x : UInt32) (r : Int32), k ≤ 60 → fbR k e x = some r → Q r m → VLI D 170 3 [(1, vI e), (2, vF x), (3, vI (n32 (60 - k)))] [] m Q E := by
  intro k
  induction k with
  | zero =>
    intro e x r _ h hq
    rw [fbR_0] at h
    refine w170_3 ⟨fun _ => ?_, fun c => absurd (n32_rfl _) c⟩
    split at h
    · rename_i c
      cases h
      exact ⟨c.1, c.2, hq⟩
    · cases h
  | succ k ih =>
    intro e x r hk h hq
    rw [fbR_s] at h
    refine w170_3 ⟨fun c => absurd ((n32_le (by omega) (by omega)).mp c) (by omega), fun _ => ⟨fun c1 => ?_, fun c1 => ?_⟩⟩
    · rw [if_pos c1] at h
      split at h
      · rename_i c
        cases h
        exact ⟨c.1, c.2, hq⟩
      · cases h
    · rw [if_neg c1] at h
      split at h
      · rename_i c
        refine ⟨c, ?_⟩
        rw [n32_add, show 60 - (k + 1) + 1 = 60 - k by omega]
        exact ih _ _ _ (by omega) h hq
      · cases h
theorem s170 {x : UInt32} {Q : Int32 → XM → Prop} (hx : shOk x = true) (h : Q x.toInt32 m) : VI D 170 [vF x] m Q E := by
  unfold shOk at hx
  rw [Bool.and_eq_true, Bool.and_eq_true, decide_eq_true_eq, decide_eq_true_eq] at hx
  have hx := hx.1.2
  unfold fbT at hx
  refine w170_0 ⟨fun c => ?_, fun c => ?_⟩
  · rw [if_pos c] at hx
    exact t170 60 _ _ _ (by omega) hx h
  · rw [if_neg c] at hx
    cases hx
    exact h
theorem p_shareBits {v : Int32} {N : Nat} (h : CPL m N) : PRI (D + 12) 108 273 [vR 10 0, vI v] [vR 11 283, vI v] mpSPA m N := by
  unfold PRI
  rcases stand_cases h v with ⟨h1, h2⟩ | ⟨h1, h2, h3, h4⟩ | ⟨h1, h2, hS, s, hs, rfl, h69, h4⟩
  · refine w108_0 ⟨fun _ => ?_, fun c => absurd h1 c⟩
    refine w273_0 (s242 ?_)
    rw [h2]
    exact ⟨fun _ => ⟨⟨um_eq _ _ _ _, by decide, by decide⟩, CPL_th h⟩, fun c => absurd rfl c⟩
  · have rb : VI (D + 12) 273 [vR 11 283, vI v] m (fun _ m2 => (m2 283 0 = n32 (mpSPA 2) ∧ 1 ≤ mpSPA 2 ∧ mpSPA 2 ≤ 3) ∧ CPL m2 N) (fun _ _ => False) := by
      refine w273_0 (s242 ?_)
      rw [h2, h4]
      exact ⟨fun _ => ⟨⟨um_eq _ _ _ _, by decide, by decide⟩, CPL_th h⟩, fun c => absurd rfl c⟩
    refine w108_0 ⟨fun c => absurd (h1.symm.trans c) n01, fun _ => ⟨fun _ => rb, fun c => ⟨fun c2 => ?_, fun _ => rb⟩⟩⟩
    rcases h3 with h3 | h3
    · exact absurd h3 c
    · exact absurd c2 h3
  · obtain ⟨r1, r2, r3, T, hT, si⟩ := hS
    have w := si.w
    have a2 := w.nb
    have a4 := w.ns
    obtain ⟨x1, x2⟩ := fin1 h (show m 284 = m 284 from rfl)
    refine w108_0 ⟨fun c => absurd (h1.symm.trans c) n01, fun _ => ⟨fun c => absurd ((n32_lt (by omega) (by omega)).mp c) (by omega), fun _ => ⟨fun _ => ?_, fun c => absurd (by rw [h69]; exact (n32_lt (by omega) (by omega)).mpr hs) c⟩⟩⟩
    refine s161 w r1 r3 hs ?_
    intro m1 hT1 fd
    have rt1 := RT_fd (r := 278) r3 fd (Or.inr (by omega))
    have f : QF m m1 := QF_fd fd
    have hc : CPL m1 N := CPL_fr h (Nat.le_refl _) f
    have hg : m1 284 = m 284 := funext fun k => f _ _ (by unfold REL; omega)
    have h2' : m1 283 6 = n32 1 := by rw [f _ _ (by unfold REL; omega)]; exact h2
    refine s40 w hT1 rt1 hs ?_
    have ok := shOk_G w hs
    refine s170 ok ?_
    refine w273_0 (s242 ?_)
    rw [h2', hg, h4, code0]
    refine ⟨fun c => absurd c n01, fun _ => ?_⟩
    rw [st0 hg]
    refine s224 w hs ?_
    intro m2 f2
    obtain ⟨z1, z2⟩ := fin0 hc hg f2
    unfold shOk at ok
    rw [Bool.and_eq_true, decide_eq_true_eq] at ok
    exact ⟨fun _ => ⟨⟨rfl, z1⟩, z2⟩, fun c => absurd ok.2 c⟩

/-- the letters that a word wants and nobody carries -/
def wantG (g : PG) (s l : Nat) : Int32 := n32 (cnt (ix (g (99 + 12 * s + 2))) fun i => decide (g (99 + 12 * s + 4 + i) = n32 96 + n32 l)) - n32 (cnt (nBr g) fun b => decide (g (15 + 7 * b) = n32 l))
def missG (g : PG) (s n : Nat) : Int32 := isum n fun j => imax (n32 0) (wantG g s (j + 1))
theorem s46 {a s : Nat} {v : Int32} {Q : Int32 → XM → Prop} (w : WF g) (rt : RT m a g) (hs : s < nSt g) (h : Q (n32 (cnt (ix (g (99 + 12 * s + 2))) fun i => decide (g (99 + 12 * s + 4 + i) = n32 96 + v))) m) : VI (D + 1) 46 [vR 6 a, vI (n32 s), vI v] m Q E := by
  have a4 := w.ns
  obtain ⟨l1, l2, l3⟩ := wl w hs
  obtain ⟨q1, q2, q3, q4⟩ := rt.2 s hs
  rw [l3] at q3
  generalize hL : ix (g (99 + 12 * s + 2)) = L at h l1 l2 l3 q3 q4
  refine w46_0 (up (C := fun i => VLI (D + 1) 46 1 [(0, vR 6 a), (1, vI (n32 s)), (2, vI v), (3, vI (n32 (cnt i fun i => decide (g (99 + 12 * s + 4 + i) = n32 96 + v)))), (4, vI (n32 i))] [] m Q E) (n := L) ?_ ?_ 0 (Nat.zero_le _))
  · intro i hi ih
    refine w46_1 ?_
    simp (disch := omega) only [n32_add, n32_mul, xin_t, ix_n32, q3, q4 i (by omega), le_f, lt_f, false_implies, true_implies, not_false_eq_true, true_and]
    rw [cnt_succ] at ih
    by_cases c : g (99 + 12 * s + 4 + i) = n32 96 + v
    · rw [decide_eq_true c, if_pos rfl] at ih
      exact ⟨fun _ => ih, fun c' => absurd c c'⟩
    · rw [decide_eq_false c, if_neg (by decide)] at ih
      exact ⟨fun c' => absurd c' c, fun _ => ih⟩
  · refine w46_1 ?_
    rw [ix_n32 (show s < 2147483648 by omega), q3]
    exact ⟨xin_n (by omega) (by omega), fun _ => h, fun c => absurd (n32_rfl _) c⟩
theorem t109 {s : Nat} {Q : Int32 → XM → Prop} (w : WF g) (r : RS m 29 g) (rt : RT m 69 g) (hs : s < nSt g) (h : Q (missG g s 26) m) : VLI (D + 2) 109 1 [(0, vR 10 0), (1, vI (n32 s)), (2, vI (n32 0)), (3, vI (n32 1))] [] m Q E := by
  have a2 := w.nb
  refine up (C := fun i => VLI (D + 2) 109 1 [(0, vR 10 0), (1, vI (n32 s)), (2, vI (missG g s i)), (3, vI (n32 (i + 1)))] [] m Q E) (n := 26) ?_ ?_ 0 (Nat.zero_le _)
  · intro i hi ih
    refine w109_1 ?_
    simp (disch := omega) only [lt_f, n32_add, false_implies, true_implies, not_false_eq_true, true_and]
    refine s46 w rt hs ?_
    refine s56 (n := nBr g) (by rw [r.nb]; exact w.1.1) a2 ?_
    refine s385 ?_
    have e : cnt (nBr g) (fun k => decide (m (29 + 3 + 5) k = n32 (i + 1))) = cnt (nBr g) (fun b => decide (g (15 + 7 * b) = n32 (i + 1))) := cnt_congr fun b hb => by rw [r.ban hb]
    rw [e]
    exact ih
  · exact w109_1 ⟨fun _ => h, fun c => absurd ((n32_lt (by omega) (by omega)).mpr (by omega)) c⟩
theorem n32_sub1 (x : Int32) (b : Nat) : x - n32 b - n32 1 = x - n32 (b + 1) := by
  rw [← n32_add, Int32.sub_eq_add_neg, Int32.sub_eq_add_neg, Int32.sub_eq_add_neg, Int32.neg_add, Int32.sub_eq_add_neg, Int32.add_assoc]
theorem n32_sub0 (x : Int32) : x - n32 0 = x := Int32.sub_zero x
theorem t274_11 {s l : Nat} {A z : Int32} {Q : Int32 → XM → Prop} (w : WF g) (_hl : l < 30) (h : VLI (D + 3) 274 3 [(0, vR 11 283), (1, vI (n32 s)), (2, vI (z + imax (n32 0) (A - n32 (cnt (nBr g) fun b => decide (g (15 + 7 * b) = n32 l))))), (3, vI (n32 l + n32 1))] [] (smg m g) Q E) : VLI (D + 3) 274 11 [(0, vR 11 283), (1, vI (n32 s)), (2, vI z), (3, vI (n32 l)), (4, vI A), (5, vI (n32 0))] [] (smg m g) Q E := by
  have a2 := w.nb
  have h6 := w.1.1
  have go : VLI (D + 3) 274 11 [(0, vR 11 283), (1, vI (n32 s)), (2, vI z), (3, vI (n32 l)), (4, vI (A - n32 (cnt 0 fun b => decide (g (15 + 7 * b) = n32 l)))), (5, vI (n32 0))] [] (smg m g) Q E := by
    refine up (C := fun i => VLI (D + 3) 274 11 [(0, vR 11 283), (1, vI (n32 s)), (2, vI z), (3, vI (n32 l)), (4, vI (A - n32 (cnt i fun b => decide (g (15 + 7 * b) = n32 l)))), (5, vI (n32 i))] [] (smg m g) Q E) (n := nBr g) ?_ ?_ 0 (Nat.zero_le _)
    · intro i hi ih
      refine w274_11 ?_
      simp (disch := omega) only [h6, smg_at, n32_mul, n32_add, Nat.add_zero, le_f, xin_t, ix_n32, n32_sub1, n32_sub0, false_implies, true_implies, not_false_eq_true, true_and]
      rw [cnt_succ] at ih
      by_cases c : g (15 + 7 * i) = n32 l
      · rw [decide_eq_true c, if_pos rfl] at ih
        exact ⟨fun _ => ih, fun c' => absurd c c'⟩
      · rw [decide_eq_false c, if_neg (by decide)] at ih
        exact ⟨fun c' => absurd c' c, fun _ => ih⟩
    · refine w274_11 ?_
      simp (disch := omega) only [h6, smg_at, ix_n32]
      exact ⟨fun _ => s385 h, fun c => absurd (n32_rfl _) c⟩
  have e : A - n32 (cnt 0 fun b => decide (g (15 + 7 * b) = n32 l)) = A := n32_sub0 A
  rw [e] at go
  exact go
theorem t274_5 {s l : Nat} {z : Int32} {Q : Int32 → XM → Prop} (w : WF g) (hs : s < nSt g) (hl : l < 30) (h : VLI (D + 3) 274 3 [(0, vR 11 283), (1, vI (n32 s)), (2, vI (z + imax (n32 0) (wantG g s l))), (3, vI (n32 l + n32 1))] [] (smg m g) Q E) : VLI (D + 3) 274 5 [(0, vR 11 283), (1, vI (n32 s)), (2, vI z), (3, vI (n32 l)), (4, vI (n32 0)), (5, vI (n32 0))] [] (smg m g) Q E := by
  have a4 := w.ns
  obtain ⟨l1, l2, l3⟩ := wl w hs
  have eadd : n32 96 + n32 l = n32 (96 + l) := n32_add _ _
  unfold wantG at h
  rw [eadd] at h
  generalize hL : ix (g (99 + 12 * s + 2)) = L at h l1 l2 l3
  refine up (C := fun i => VLI (D + 3) 274 5 [(0, vR 11 283), (1, vI (n32 s)), (2, vI z), (3, vI (n32 l)), (4, vI (n32 (cnt i fun i => decide (g (99 + 12 * s + 4 + i) = n32 (96 + l))))), (5, vI (n32 i))] [] (smg m g) Q E) (n := L) ?_ ?_ 0 (Nat.zero_le _)
  · intro i hi ih
    refine w274_5 ?_
    simp (disch := omega) only [smg_at, n32_mul, n32_add, Nat.add_zero, xin_t, ix_n32, l3, le_f, false_implies, true_implies, not_false_eq_true, true_and]
    rw [show 99 + 12 * s + (4 + i) = 99 + 12 * s + 4 + i by omega]
    rw [cnt_succ] at ih
    by_cases c : g (99 + 12 * s + 4 + i) = n32 (96 + l)
    · rw [decide_eq_true c, if_pos rfl] at ih
      exact ⟨fun _ => ih, fun c' => absurd c c'⟩
    · rw [decide_eq_false c, if_neg (by decide)] at ih
      exact ⟨fun c' => absurd c' c, fun _ => ih⟩
  · refine w274_5 ?_
    simp (disch := omega) only [smg_at, n32_mul, n32_add, xin_t, ix_n32, l3, true_and]
    exact ⟨fun _ => t274_11 w hl h, fun c => absurd (n32_rfl _) c⟩
theorem t274 {s : Nat} {Q : Int32 → XM → Prop} (w : WF g) (hs : s < nSt g) (h : Q (missG g s 26) (smg m g)) : VLI (D + 3) 274 3 [(0, vR 11 283), (1, vI (n32 s)), (2, vI (n32 0)), (3, vI (n32 1))] [] (smg m g) Q E := by
  refine up (C := fun i => VLI (D + 3) 274 3 [(0, vR 11 283), (1, vI (n32 s)), (2, vI (missG g s i)), (3, vI (n32 (i + 1)))] [] (smg m g) Q E) (n := 26) ?_ ?_ 0 (Nat.zero_le _)
  · intro i hi ih
    refine w274_3 ⟨fun c => absurd ((n32_lt (by omega) (by omega)).mp c) (by omega), fun _ => ?_⟩
    refine t274_5 w hs (by omega) ?_
    rw [n32_add]
    exact ih
  · exact w274_3 ⟨fun _ => h, fun c => absurd ((n32_lt (by omega) (by omega)).mpr (by omega)) c⟩
theorem p_missing {v : Int32} {N : Nat} (h : CPL m N) : PRI (D + 12) 109 274 [vR 10 0, vI v] [vR 11 283, vI v] mpSPA m N := by
  unfold PRI
  rcases stand_cases h v with ⟨h1, h2⟩ | ⟨h1, h2, h3, h4⟩ | ⟨h1, h2, hS, s, hs, rfl, h69, h4⟩
  · refine w109_0 ⟨fun _ => ?_, fun c => absurd h1 c⟩
    refine w274_0 (s242 ?_)
    rw [h2]
    exact ⟨fun _ => ⟨⟨um_eq _ _ _ _, by decide, by decide⟩, CPL_th h⟩, fun c => absurd rfl c⟩
  · have rb : VI (D + 12) 274 [vR 11 283, vI v] m (fun _ m2 => (m2 283 0 = n32 (mpSPA 2) ∧ 1 ≤ mpSPA 2 ∧ mpSPA 2 ≤ 3) ∧ CPL m2 N) (fun _ _ => False) := by
      refine w274_0 (s242 ?_)
      rw [h2, h4]
      exact ⟨fun _ => ⟨⟨um_eq _ _ _ _, by decide, by decide⟩, CPL_th h⟩, fun c => absurd rfl c⟩
    refine w109_0 ⟨fun c => absurd (h1.symm.trans c) n01, fun _ => ⟨fun _ => rb, fun c => ⟨fun c2 => ?_, fun _ => rb⟩⟩⟩
    rcases h3 with h3 | h3
    · exact absurd h3 c
    · exact absurd c2 h3
  · obtain ⟨r1, r2, r3, T, hT, si⟩ := hS
    have w := si.w
    have a2 := w.nb
    have a4 := w.ns
    obtain ⟨x1, x2⟩ := fin1 h (show m 284 = m 284 from rfl)
    refine w109_0 ⟨fun c => absurd (h1.symm.trans c) n01, fun _ => ⟨fun c => absurd ((n32_lt (by omega) (by omega)).mp c) (by omega), fun _ => ⟨fun _ => ?_, fun c => absurd (by rw [h69]; exact (n32_lt (by omega) (by omega)).mpr hs) c⟩⟩⟩
    refine t109 w r1 r3 hs ?_
    refine w274_0 (s242 ?_)
    rw [h2, h4, code0]
    refine ⟨fun c => absurd c n01, fun _ => ?_⟩
    rw [st0 (show m 284 = m 284 from rfl)]
    refine t274 w hs ?_
    exact ⟨⟨rfl, x1⟩, x2⟩

theorem txc (g : PG) (s i : Nat) : (txG g s (i + 1)).2.1 = (if seesG g s (ordG g s i) = true then (txG g s i).2.1 + 1 else (txG g s i).2.1) ∧ (txG g s (i + 1)).2.2.2 = (if seesG g s (ordG g s i) = true then (fun j => if j = (txG g s i).2.1 then ordG g s i else (txG g s i).2.2.2 j) else (txG g s i).2.2.2) := by
  have e : txG g s (i + 1) = txStep g s i (txG g s i) := rfl
  rw [e]
  generalize txG g s i = t
  unfold txStep
  by_cases c : seesG g s (ordG g s i) = true
  · rw [if_pos c, if_pos c, if_pos c]
    by_cases c2 : gapG g t (ordG g s i) = true
    · rw [if_pos c2]; exact ⟨rfl, rfl⟩
    · rw [if_neg c2]; exact ⟨rfl, rfl⟩
  · rw [if_neg c, if_neg c, if_neg c]; exact ⟨rfl, rfl⟩
theorem tx_keep (g : PG) (s i k : Nat) (h : k < (txG g s i).2.1) : ∀ d, k < (txG g s (i + d)).2.1 ∧ (txG g s (i + d)).2.2.2 k = (txG g s i).2.2.2 k := by
  intro d
  induction d with
  | zero => exact ⟨h, rfl⟩
  | succ d ih =>
    obtain ⟨h1, h2⟩ := ih
    obtain ⟨e1, e2⟩ := txc g s (i + d)
    rw [← Nat.add_assoc, e1, e2]
    by_cases c : seesG g s (ordG g s (i + d)) = true
    · rw [if_pos c, if_pos c]
      refine ⟨by omega, ?_⟩
      show (if k = (txG g s (i + d)).2.1 then _ else _) = _
      rw [if_neg (by omega)]; exact h2
    · rw [if_neg c, if_neg c]; exact ⟨h1, h2⟩
def oneG (g : PG) (s k : Nat) : Int32 := if k < (txA g s).2.1 then n32 ((txA g s).2.2.2 k) else -(n32 1)
theorem t261 {s k : Nat} {Q : Int32 → XM → Prop} (w : WF g) (hs : s < nSt g) (hk : k < 2147483648) (h : Q (oneG g s k) (smg m g)) : ∀ r i, i + r = nBr g → (txG g s i).2.1 ≤ k → VLI (D + 2) 261 1 [(0, vR 11 283), (1, vI (n32 s)), (3, vI (n32 (k - (txG g s i).2.1))), (4, vI (n32 i))] [] (smg m g) Q E := by
  have a2 := w.nb
  have a4 := w.ns
  have h6 := w.1.1
  obtain ⟨sd, sd1, sd2, sd3⟩ := (w.st hs).1
  intro r
  induction r with
  | zero =>
    intro i hi hc
    have e : i = nBr g := by omega
    subst e
    unfold oneG txA at h
    rw [if_neg (by omega)] at h
    refine w261_1 ?_
    simp (disch := omega) only [smg_at, ix_n32, h6]
    exact ⟨fun _ => h, fun c => absurd (n32_rfl _) c⟩
  | succ r ih =>
    intro i hi hc
    obtain ⟨e1, e2⟩ := txc g s i
    have key : ∀ b, b = ordG g s i → VI (D + 1) 219 [vR 11 283, vI (n32 s), vI (n32 b)] (smg m g) (fun x1 m1 => ((x1 = (n32 0) → VLI (D + 2) 261 1 [(0, vR 11 283), (1, vI (n32 s)), (3, vI (n32 (k - (txG g s i).2.1))), (4, vI (n32 (i + 1)))] [] m1 Q E) ∧ (¬ x1 = (n32 0) → ((n32 (k - (txG g s i).2.1) = (n32 0) → Q (n32 b) m1) ∧ (¬ n32 (k - (txG g s i).2.1) = (n32 0) → VLI (D + 2) 261 1 [(0, vR 11 283), (1, vI (n32 s)), (3, vI (n32 (k - (txG g s i).2.1) + (-(n32 1)))), (4, vI (n32 (i + 1)))] [] m1 Q E))))) E := by
      intro b hb
      have hbb : b < nBr g := by rw [hb]; exact ordG_lt (by omega)
      refine s219 w hs hbb ?_
      rw [← hb] at e1 e2
      by_cases c : seesG g s b = true
      · rw [if_pos c] at e1 e2 ⊢
        refine ⟨fun c => absurd c n01, fun _ => ⟨fun c3 => ?_, fun c3 => ?_⟩⟩
        · have ek : k = (txG g s i).2.1 := by
            have := n32_inj (by omega) (by omega) c3
            omega
          obtain ⟨k1, k2⟩ := tx_keep g s (i + 1) k (by rw [e1]; omega) (nBr g - (i + 1))
          rw [show i + 1 + (nBr g - (i + 1)) = nBr g by omega] at k1 k2
          unfold oneG txA at h
          rw [if_pos k1, k2, e2] at h
          have e3 : (if k = (txG g s i).2.1 then b else (txG g s i).2.2.2 k) = b := if_pos ek
          dsimp only at h
          rw [e3] at h
          exact h
        · have : ¬ k - (txG g s i).2.1 = 0 := fun e => c3 (by rw [e])
          rw [n32_dec (by omega), show k - (txG g s i).2.1 - 1 = k - (txG g s (i + 1)).2.1 by omega]
          exact ih (i + 1) (by omega) (by omega)
      · rw [if_neg c] at e1 e2 ⊢
        refine ⟨fun _ => ?_, fun c => absurd rfl c⟩
        rw [← e1]
        exact ih (i + 1) (by omega) (by omega)
    refine w261_1 ?_
    simp (disch := omega) only [h6, smg_at, n32_mul, n32_add, n32_sub, Nat.add_zero, xin_t, ix_n32, le_f, false_implies, true_implies, not_false_eq_true, true_and]
    refine ⟨fun c => ?_, fun c => ?_⟩
    · exact key i (by unfold ordG; rw [if_pos c])
    · exact key (nBr g - 1 - i) (by unfold ordG; rw [if_neg c])
theorem p_seenAt {v v2 : Int32} {N : Nat} (h : CPL m N) : PRI (D + 12) 110 262 [vR 10 0, vI v, vI v2] [vR 11 283, vI v, vI v2] mpSPA m N := by
  unfold PRI
  rcases stand_cases h v with ⟨h1, h2⟩ | ⟨h1, h2, h3, h4⟩ | ⟨h1, h2, hS, s, hs, rfl, h69, h4⟩
  · refine w110_0 ⟨fun _ => ?_, fun c => absurd h1 c⟩
    refine w262_0 (s242 ?_)
    rw [h2]
    exact ⟨fun _ => ⟨⟨um_eq _ _ _ _, by decide, by decide⟩, CPL_th h⟩, fun c => absurd rfl c⟩
  · have rb : VI (D + 12) 262 [vR 11 283, vI v, vI v2] m (fun _ m2 => (m2 283 0 = n32 (mpSPA 2) ∧ 1 ≤ mpSPA 2 ∧ mpSPA 2 ≤ 3) ∧ CPL m2 N) (fun _ _ => False) := by
      refine w262_0 (s242 ?_)
      rw [h2, h4]
      exact ⟨fun _ => ⟨⟨um_eq _ _ _ _, by decide, by decide⟩, CPL_th h⟩, fun c => absurd rfl c⟩
    refine w110_0 ⟨fun c => absurd (h1.symm.trans c) n01, fun _ => ⟨fun _ => rb, fun c => ⟨fun c2 => ?_, fun _ => rb⟩⟩⟩
    rcases h3 with h3 | h3
    · exact absurd h3 c
    · exact absurd c2 h3
  · obtain ⟨r1, r2, r3, T, hT, si⟩ := hS
    have w := si.w
    have a2 := w.nb
    have a4 := w.ns
    obtain ⟨x1, x2⟩ := fin1 h (show m 284 = m 284 from rfl)
    refine w110_0 ⟨fun c => absurd (h1.symm.trans c) n01, fun _ => ⟨fun c => absurd ((n32_lt (by omega) (by omega)).mp c) (by omega), fun _ => ⟨fun _ => ?_, fun c => absurd (by rw [h69]; exact (n32_lt (by omega) (by omega)).mpr hs) c⟩⟩⟩
    refine s161 w r1 r3 hs ?_
    intro m1 hT1 fd
    have rt1 := RT_fd (r := 278) r3 fd (Or.inr (by omega))
    have f : QF m m1 := QF_fd fd
    have hc : CPL m1 N := CPL_fr h (Nat.le_refl _) f
    have hg : m1 284 = m 284 := funext fun k => f _ _ (by unfold REL; omega)
    have h2' : m1 283 6 = n32 1 := by rw [f _ _ (by unfold REL; omega)]; exact h2
    have tl := txG_ok (m 284) s (nBr (m 284)) (Nat.le_refl _)
    rcases idx_cases v2 (n := (txA (m 284) s).2.1) (by unfold txA; have := tl.1; omega) with c1 | ⟨c1, c2, c3⟩ | ⟨i, hi, rfl⟩
    · refine ⟨fun _ => ?_, fun c => absurd c1 c⟩
      refine w262_0 (s242 ?_)
      rw [h2', hg, h4, code0]
      refine ⟨fun c => absurd c n01, fun _ => ?_⟩
      rw [st0 hg]
      refine ⟨fun c => absurd (Int32.not_lt.mpr c) (fun e => e c1), fun _ => ?_⟩
      obtain ⟨z1, z2⟩ := fin1 hc hg
      exact ⟨⟨rfl, z1⟩, z2⟩
    · refine ⟨fun c => absurd c c1, fun _ => ?_⟩
      rw [hT1.2.1]
      refine ⟨fun _ => ?_, fun c => absurd c2 c⟩
      refine w262_0 (s242 ?_)
      rw [h2', hg, h4, code0]
      refine ⟨fun c => absurd c n01, fun _ => ?_⟩
      rw [st0 hg]
      refine ⟨fun _ => w261_0 ?_, fun c => absurd (Int32.not_lt.mp c1) c⟩
      obtain ⟨z1, z2⟩ := fin1 hc hg
      have c1' := Int32.not_lt.mp c1
      rw [Int32.le_iff_toInt_le, n32_toInt (by omega)] at c1'
      have ev : v2 = n32 v2.toInt.toNat := by
        apply Int32.toInt_inj.mp
        have := Int32.toInt_lt v2
        rw [n32_toInt (by omega)]; omega
      have hk : v2.toInt.toNat < 2147483648 := by
        have := Int32.toInt_lt v2
        omega
      generalize v2.toInt.toNat = k at ev hk
      subst ev
      have hkn : ¬ k < (txA (m 284) s).2.1 := by
        have t1 := tl.1
        have := (n32_le (by unfold txA; omega) hk).mp c2
        omega
      have := t261 (D := D + 9) (m := um m1 283 0 (n32 0)) (E := fun _ _ => False) (s := s) (k := k) (Q := fun r2 m2 => (-(n32 1) = r2 ∧ m2 283 0 = n32 0) ∧ CPL m2 N) w hs hk (by
        unfold oneG
        rw [if_neg hkn]
        exact ⟨⟨rfl, z1⟩, z2⟩) (nBr (m 284)) 0 (by omega) (Nat.zero_le _)
      exact this
    · have t1 : (txA (m 284) s).2.1 ≤ nBr (m 284) := tl.1
      have i12 : i < 12 := by omega
      rw [hT1.2.1]
      simp (disch := omega) only [xin_t, ix_n32, hT1.2.2.2 i hi, lt_f, le_f, false_implies, true_implies, not_false_eq_true, true_and]
      refine w262_0 (s242 ?_)
      rw [h2', hg, h4, code0]
      refine ⟨fun c => absurd c n01, fun _ => ?_⟩
      rw [st0 hg]
      refine ⟨fun _ => w261_0 ?_, fun c => absurd ((n32_le (by omega) (by omega)).mpr (Nat.zero_le _)) c⟩
      obtain ⟨z1, z2⟩ := fin1 hc hg
      have := t261 (D := D + 9) (m := um m1 283 0 (n32 0)) (E := fun _ _ => False) (s := s) (k := i) (Q := fun r2 m2 => (n32 ((txA (m 284) s).2.2.2 i) = r2 ∧ m2 283 0 = n32 0) ∧ CPL m2 N) w hs (by omega) (by
        unfold oneG
        rw [if_pos hi]
        exact ⟨⟨rfl, z1⟩, z2⟩) (nBr (m 284)) 0 (by omega) (Nat.zero_le _)
      exact this

/-- the bytes of a text are letters but for its blanks -/
def blkG (t : TX) : Prop := cnt t.1 (fun j => decide (t.2.2.1 j = n32 32)) + t.2.1 = t.1
theorem cnt_old {n : Nat} {f : Nat → Int32} {v : Int32} : cnt n (fun j => decide ((if j = n then v else f j) = n32 32)) = cnt n (fun j => decide (f j = n32 32)) := cnt_congr fun i hi => by rw [if_neg (by omega)]
theorem blk_1 {t : TX} {v : Int32} {b : Nat} (h : blkG t) (hv : ¬ v = n32 32) : blkG (tx1 t v b) := by
  unfold blkG tx1 at *
  dsimp only
  rw [cnt_succ, cnt_old]
  simp only [if_true, hv, decide_false, Bool.false_eq_true, if_false]
  omega
theorem blk_0 {t : TX} (h : blkG t) : blkG (tx0 t) := by
  unfold blkG tx0 at *
  dsimp only
  rw [cnt_succ, cnt_old]
  simp only [if_true, decide_true]
  omega
theorem blk_G {g : PG} (w : WF g) (s : Nat) : ∀ k, k ≤ nBr g → blkG (txG g s k) := by
  intro k
  induction k with
  | zero => intro _; rfl
  | succ k ih =>
    intro hk
    have e : txG g s (k + 1) = txStep g s k (txG g s k) := rfl
    have ih := ih (by omega)
    rw [e]
    generalize txG g s k = t at ih
    have hv : ¬ n32 96 + g (15 + 7 * ordG g s k) = n32 32 := by
      obtain ⟨n, h1, h2, h3⟩ := w.b0 (ordG_lt (s := s) (show k < nBr g by omega))
      rw [h3, n32_add]
      exact n32_ne (by omega) (by omega) (by omega)
    unfold txStep
    split
    · split
      · exact blk_1 (blk_0 ih) hv
      · exact blk_1 ih hv
    · exact ih
theorem t263 {t : TX} {Q : Int32 → XM → Prop} (hT : TXF m t) (tl : t.1 ≤ 24) (h : Q (n32 (cnt t.1 (fun j => decide (t.2.2.1 j = n32 32)))) (smg m g)) : VLI (D + 3) 263 3 [(0, vR 11 283), (2, vI (n32 0)), (3, vI (n32 0))] [] (smg m g) Q E := by
  obtain ⟨t1, t2⟩ := hT
  refine up (C := fun i => VLI (D + 3) 263 3 [(0, vR 11 283), (2, vI (n32 (cnt i (fun j => decide (t.2.2.1 j = n32 32))))), (3, vI (n32 i))] [] (smg m g) Q E) (n := t.1) ?_ ?_ 0 (Nat.zero_le _)
  · intro i hi ih
    refine w263_3 ?_
    simp (disch := omega) only [smg_ne, t1, t2 i hi, n32_add, Nat.add_zero, xin_t, ix_n32, le_f, false_implies, true_implies, not_false_eq_true, true_and]
    rw [cnt_succ] at ih
    by_cases c : t.2.2.1 i = n32 32
    · rw [decide_eq_true c, if_pos rfl] at ih
      exact ⟨fun _ => ih, fun c' => absurd c c'⟩
    · rw [decide_eq_false c, if_neg (by decide)] at ih
      exact ⟨fun c' => absurd c' c, fun _ => ih⟩
  · refine w263_3 ?_
    rw [smg_ne (by omega), t1]
    exact ⟨fun _ => h, fun c => absurd (n32_rfl _) c⟩
theorem p_blanks {v : Int32} {N : Nat} (h : CPL m N) : PRI (D + 12) 111 263 [vR 10 0, vI v] [vR 11 283, vI v] mpSPA m N := by
  unfold PRI
  rcases stand_cases h v with ⟨h1, h2⟩ | ⟨h1, h2, h3, h4⟩ | ⟨h1, h2, hS, s, hs, rfl, h69, h4⟩
  · refine w111_0 ⟨fun _ => ?_, fun c => absurd h1 c⟩
    refine w263_0 (s242 ?_)
    rw [h2]
    exact ⟨fun _ => ⟨⟨um_eq _ _ _ _, by decide, by decide⟩, CPL_th h⟩, fun c => absurd rfl c⟩
  · have rb : VI (D + 12) 263 [vR 11 283, vI v] m (fun _ m2 => (m2 283 0 = n32 (mpSPA 2) ∧ 1 ≤ mpSPA 2 ∧ mpSPA 2 ≤ 3) ∧ CPL m2 N) (fun _ _ => False) := by
      refine w263_0 (s242 ?_)
      rw [h2, h4]
      exact ⟨fun _ => ⟨⟨um_eq _ _ _ _, by decide, by decide⟩, CPL_th h⟩, fun c => absurd rfl c⟩
    refine w111_0 ⟨fun c => absurd (h1.symm.trans c) n01, fun _ => ⟨fun _ => rb, fun c => ⟨fun c2 => ?_, fun _ => rb⟩⟩⟩
    rcases h3 with h3 | h3
    · exact absurd h3 c
    · exact absurd c2 h3
  · obtain ⟨r1, r2, r3, T, hT, si⟩ := hS
    have w := si.w
    have a2 := w.nb
    have a4 := w.ns
    obtain ⟨x1, x2⟩ := fin1 h (show m 284 = m 284 from rfl)
    refine w111_0 ⟨fun c => absurd (h1.symm.trans c) n01, fun _ => ⟨fun c => absurd ((n32_lt (by omega) (by omega)).mp c) (by omega), fun _ => ⟨fun _ => ?_, fun c => absurd (by rw [h69]; exact (n32_lt (by omega) (by omega)).mpr hs) c⟩⟩⟩
    refine s161 w r1 r3 hs ?_
    intro m1 hT1 fd
    have rt1 := RT_fd (r := 278) r3 fd (Or.inr (by omega))
    have f : QF m m1 := QF_fd fd
    have hc : CPL m1 N := CPL_fr h (Nat.le_refl _) f
    have hg : m1 284 = m 284 := funext fun k => f _ _ (by unfold REL; omega)
    have h2' : m1 283 6 = n32 1 := by rw [f _ _ (by unfold REL; omega)]; exact h2
    rw [hT1.1, hT1.2.1]
    refine w263_0 (s242 ?_)
    rw [h2', hg, h4, code0]
    refine ⟨fun c => absurd c n01, fun _ => ?_⟩
    rw [st0 hg]
    refine s220 w hs ?_
    intro m2 f2 hT2
    obtain ⟨z1, z2⟩ := fin0 hc hg f2
    have tl := tx_len w s
    have bk : blkG (txA (m 284) s) := blk_G w s (nBr (m 284)) (Nat.le_refl _)
    have ok := txG_ok (m 284) s (nBr (m 284)) (Nat.le_refl _)
    refine t263 hT2 tl ?_
    refine ⟨⟨?_, z1⟩, z2⟩
    unfold blkG at bk
    rw [n32_sub (show (txA (m 284) s).2.1 ≤ (txA (m 284) s).1 by omega)]
    congr 1
    omega

/-- the first of r numbers from i on that is so, or the one behind them -/
def fps (p : Nat → Bool) : Nat → Nat → Nat
  | 0, i => i
  | r + 1, i => if p i = true then i else fps p r (i + 1)
theorem fps_succ (p : Nat → Bool) (r i : Nat) : fps p (r + 1) i = if p i = true then i else fps p r (i + 1) := by rw [fps]
def difG (g : PG) (s i : Nat) : Bool := decide (¬ (txA g s).2.2.1 i = g (99 + 12 * s + 4 + i))
theorem s38 {r rt s : Nat} {Q : Int32 → XM → Prop} (w : WF g) (hT : RR m r (txA g s)) (rr : RT m rt g) (hs : s < nSt g) (h : Q (n32 (fps (difG g s) (min (txA g s).1 (ix (g (99 + 12 * s + 2)))) 0)) m) : VI (D + 1) 38 [vR 5 r, vR 6 rt, vI (n32 s)] m Q E := by
  have a4 := w.ns
  obtain ⟨h1, h2, h3, h4⟩ := hT
  obtain ⟨q1, q2, q3, q4⟩ := rr.2 s hs
  obtain ⟨l1, l2, l3⟩ := wl w hs
  have tl := tx_len w s
  rw [l3] at q3
  generalize hL : ix (g (99 + 12 * s + 2)) = L at h l1 l2 l3 q3 q4
  refine w38_0 ?_
  rw [ix_n32 (show s < 2147483648 by omega), h1, q3]
  refine ⟨xin_n (by omega) (by omega), s386 ?_⟩
  rw [imin_n (by omega) (by omega)]
  have key : ∀ q i, i + q = min (txA g s).1 L → Q (n32 (fps (difG g s) q i)) m → VLI (D + 1) 38 1 [(0, vR 5 r), (1, vR 6 rt), (2, vI (n32 s)), (3, vI (n32 (min (txA g s).1 L))), (4, vI (n32 i))] [] m Q E := by
    intro q
    induction q with
    | zero =>
      intro i hi hq
      have e : i = min (txA g s).1 L := by omega
      subst e
      exact w38_1 ⟨fun _ => hq, fun c => absurd (n32_rfl _) c⟩
    | succ q ih =>
      intro i hi hq
      rw [fps_succ] at hq
      refine w38_1 ?_
      rw [ix_n32 (show s < 2147483648 by omega), q3]
      simp (disch := omega) only [n32_add, n32_mul, xin_t, ix_n32, h3 i (by omega), q4 i (by omega), le_f, lt_f, false_implies, true_implies, not_false_eq_true, true_and]
      by_cases c : (txA g s).2.2.1 i = g (99 + 12 * s + 4 + i)
      · have e : difG g s i = false := decide_eq_false (fun e => e c)
        rw [e, if_neg (by decide)] at hq
        exact ⟨fun _ => ih (i + 1) (by omega) hq, fun c' => absurd c c'⟩
      · have e : difG g s i = true := decide_eq_true c
        rw [e, if_pos rfl] at hq
        exact ⟨fun c' => absurd c' c, fun _ => hq⟩
  exact key _ 0 (by omega) h
theorem t264 {s : Nat} {Q : Int32 → XM → Prop} (w : WF g) (hs : s < nSt g) (hT : TXF m (txA g s)) (h : Q (n32 (fps (difG g s) (min (txA g s).1 (ix (g (99 + 12 * s + 2)))) 0)) (smg m g)) : VLI (D + 3) 264 3 [(0, vR 11 283), (1, vI (n32 s)), (2, vI (n32 0))] [] (smg m g) Q E := by
  have a4 := w.ns
  obtain ⟨t1, t2⟩ := hT
  obtain ⟨l1, l2, l3⟩ := wl w hs
  have tl := tx_len w s
  generalize hL : ix (g (99 + 12 * s + 2)) = L at h l1 l2 l3
  have key : ∀ q i, i + q = min (txA g s).1 L → Q (n32 (fps (difG g s) q i)) (smg m g) → VLI (D + 3) 264 3 [(0, vR 11 283), (1, vI (n32 s)), (2, vI (n32 i))] [] (smg m g) Q E := by
    intro q
    induction q with
    | zero =>
      intro i hi hq
      refine w264_3 ?_
      simp (disch := omega) only [smg_at, smg_ne, t1, n32_mul, n32_add, xin_t, ix_n32, l3, true_and]
      by_cases c : (txA g s).1 ≤ L
      · have e : i = (txA g s).1 := by omega
        exact ⟨fun _ => hq, fun c => absurd (by rw [e]; exact n32_rfl _) c⟩
      · have e : i = L := by omega
        exact ⟨fun _ => hq, fun _ => ⟨fun _ => hq, fun c => absurd (by rw [e]; exact n32_rfl _) c⟩⟩
    | succ q ih =>
      intro i hi hq
      rw [fps_succ] at hq
      refine w264_3 ?_
      simp (disch := omega) only [smg_at, smg_ne, t1, t2 i (by omega), n32_mul, n32_add, xin_t, ix_n32, l3, le_f, false_implies, true_implies, not_false_eq_true, true_and]
      rw [show 99 + 12 * s + (4 + i) = 99 + 12 * s + 4 + i by omega]
      by_cases c : (txA g s).2.2.1 i = g (99 + 12 * s + 4 + i)
      · have e : difG g s i = false := decide_eq_false (fun e => e c)
        rw [e, if_neg (by decide)] at hq
        exact ⟨fun _ => ih (i + 1) (by omega) hq, fun c' => absurd c c'⟩
      · have e : difG g s i = true := decide_eq_true c
        rw [e, if_pos rfl] at hq
        exact ⟨fun c' => absurd c' c, fun _ => hq⟩
  exact key _ 0 (by omega) h
theorem p_alst {v : Int32} {N : Nat} (h : CPL m N) : PRI (D + 12) 112 264 [vR 10 0, vI v] [vR 11 283, vI v] mpSPA m N := by
  unfold PRI
  rcases stand_cases h v with ⟨h1, h2⟩ | ⟨h1, h2, h3, h4⟩ | ⟨h1, h2, hS, s, hs, rfl, h69, h4⟩
  · refine w112_0 ⟨fun _ => ?_, fun c => absurd h1 c⟩
    refine w264_0 (s242 ?_)
    rw [h2]
    exact ⟨fun _ => ⟨⟨um_eq _ _ _ _, by decide, by decide⟩, CPL_th h⟩, fun c => absurd rfl c⟩
  · have rb : VI (D + 12) 264 [vR 11 283, vI v] m (fun _ m2 => (m2 283 0 = n32 (mpSPA 2) ∧ 1 ≤ mpSPA 2 ∧ mpSPA 2 ≤ 3) ∧ CPL m2 N) (fun _ _ => False) := by
      refine w264_0 (s242 ?_)
      rw [h2, h4]
      exact ⟨fun _ => ⟨⟨um_eq _ _ _ _, by decide, by decide⟩, CPL_th h⟩, fun c => absurd rfl c⟩
    refine w112_0 ⟨fun c => absurd (h1.symm.trans c) n01, fun _ => ⟨fun _ => rb, fun c => ⟨fun c2 => ?_, fun _ => rb⟩⟩⟩
    rcases h3 with h3 | h3
    · exact absurd h3 c
    · exact absurd c2 h3
  · obtain ⟨r1, r2, r3, T, hT, si⟩ := hS
    have w := si.w
    have a2 := w.nb
    have a4 := w.ns
    obtain ⟨x1, x2⟩ := fin1 h (show m 284 = m 284 from rfl)
    refine w112_0 ⟨fun c => absurd (h1.symm.trans c) n01, fun _ => ⟨fun c => absurd ((n32_lt (by omega) (by omega)).mp c) (by omega), fun _ => ⟨fun _ => ?_, fun c => absurd (by rw [h69]; exact (n32_lt (by omega) (by omega)).mpr hs) c⟩⟩⟩
    refine s161 w r1 r3 hs ?_
    intro m1 hT1 fd
    have rt1 := RT_fd (r := 278) r3 fd (Or.inr (by omega))
    have f : QF m m1 := QF_fd fd
    have hc : CPL m1 N := CPL_fr h (Nat.le_refl _) f
    have hg : m1 284 = m 284 := funext fun k => f _ _ (by unfold REL; omega)
    have h2' : m1 283 6 = n32 1 := by rw [f _ _ (by unfold REL; omega)]; exact h2
    refine s38 w hT1 rt1 hs ?_
    refine w264_0 (s242 ?_)
    rw [h2', hg, h4, code0]
    refine ⟨fun c => absurd c n01, fun _ => ?_⟩
    rw [st0 hg]
    refine s220 w hs ?_
    intro m2 f2 hT2
    obtain ⟨z1, z2⟩ := fin0 hc hg f2
    refine t264 w hs hT2 ?_
    exact ⟨⟨rfl, z1⟩, z2⟩

end S87
