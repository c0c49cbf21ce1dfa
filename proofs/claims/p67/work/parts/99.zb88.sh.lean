/-! Shares compared; pairs: what a stand's share will be, the best of them, the best swap, the best stand. -/
def shL : List UInt32 := [0, 1026206379, 1026692675, 1027223180, 1027804209, 1028443341, 1029149750, 1029934649, 1030811889, 1031798784, 1032358025, 1032997157, 1033734617, 1034594987, 1035081283, 1035611788, 1036192817, 1036831949, 1037538358, 1038323257, 1039200497, 1040187392, 1040552114, 1040746633, 1040949993, 1041385765, 1041865114, 1042123225, 1042394920, 1042983595, 1043469891, 1043641525, 1044000396, 1044381696, 1044581425, 1045220557, 1045779797, 1045926966, 1046179255, 1046387667, 1046711865, 1047050799, 1047285445, 1047589105, 1047777085, 1048576000, 1048940722, 1049017506, 1049135241, 1049338601, 1049508068, 1049774373, 1049974101, 1050056343, 1050253722, 1050399610, 1050511833, 1050673152, 1050783528, 1050863802, 1051372203, 1051858499, 1051931443, 1052030133, 1052171118, 1052389004, 1052549551, 1052770304, 1052970033, 1053092943, 1053236338, 1053609165, 1054003923, 1054168405, 1054315574, 1054567863, 1054867456, 1055100473, 1055439407, 1055674053, 1055846127, 1055977713, 1056964608, 1057523849, 1057609886, 1057727209, 1057896676, 1058162981, 1058362709, 1058642330, 1058900441, 1059061760, 1059252410, 1059760811, 1060320051, 1060559726, 1060777612, 1061158912, 1061624946, 1061997773, 1062557013, 1062956471, 1063256064, 1063489081, 1065353216, 1066551589, 1066751317, 1067030938, 1067450368, 1068149419, 1068708659, 1069547520, 1070386381, 1070945621, 1071644672, 1073741824, 1075139925, 1075838976, 1076538027, 1077936128, 1080033280, 1082130432, 1084227584, 1086324736, 1088421888, 1090519040]
def cmpL (x y : UInt32) : Int32 := Op.cmpValue (FP.fcmp x y) .l
/-- two shares compare alike by all the ways that are used -/
def shCmp (a b : UInt32) : Bool := decide (FP.fIsNaN a = false) && decide (Native.java_lang_Math.nans.pick32 true a b = if cmpL b a ≤ n32 0 then a else b) && decide (n32 0 < Op.cmpValue (FP.fcmp b a) .g ↔ ¬ cmpL b a ≤ n32 0) && decide (¬ cmpL a (UInt32.ofNat 3212836864) ≤ n32 0)
theorem shL_all : (shL.all fun a => shL.all fun b => shCmp a b) = true := by decide +kernel
theorem shL_mem : ((List.range 9).all fun n => (List.range 25).all fun d => Nat.beq d 0 || shL.contains (FP.fdiv (FP.i2f (n32 n)) (FP.i2f (n32 d)))) = true := by decide +kernel
theorem share_in {g : PG} (w : WF g) {s : Nat} (hs : s < nSt g) : shareG g s ∈ shL := by
  obtain ⟨l1, l2, l3⟩ := wl w hs
  have tl := tx_len w s
  have al := alm8 w hs
  have := List.all_eq_true.mp (List.all_eq_true.mp shL_mem (almG g s) (List.mem_range.mpr (by omega))) (max (txA g s).1 (ix (g (99 + 12 * s + 2)))) (List.mem_range.mpr (by omega))
  rw [Bool.or_eq_true] at this
  rcases this with h | h
  · exact absurd (Nat.eq_of_beq_eq_true h) (by omega)
  · exact List.contains_iff_mem.mp h
theorem sh_cmp {a b : UInt32} (ha : a ∈ shL) (hb : b ∈ shL) : FP.fIsNaN a = false ∧ Native.java_lang_Math.nans.pick32 true a b = (if cmpL b a ≤ n32 0 then a else b) ∧ (n32 0 < Op.cmpValue (FP.fcmp b a) .g ↔ ¬ cmpL b a ≤ n32 0) ∧ ¬ cmpL a (UInt32.ofNat 3212836864) ≤ n32 0 := by
  have := List.all_eq_true.mp (List.all_eq_true.mp shL_all a ha) b hb
  unfold shCmp at this
  simp only [Bool.and_eq_true, decide_eq_true_eq] at this
  exact ⟨this.1.1.1, this.1.1.2, this.1.2, this.2⟩
section S88
variable {D : Nat} {m : XM} {g : PG} {E : Nat → XM → Prop}
/-- the best share within n ticks -/
def bshG (g : PG) (s : Nat) : Nat → UInt32
  | 0 => shareG g s
  | n + 1 => if cmpL (shareG (tkn g (n + 1)) s) (bshG g s n) ≤ n32 0 then bshG g s n else shareG (tkn g (n + 1)) s
theorem bshG_0 (g : PG) (s : Nat) : bshG g s 0 = shareG g s := by rw [bshG]
theorem bshG_s (g : PG) (s n : Nat) : bshG g s (n + 1) = if cmpL (shareG (tkn g (n + 1)) s) (bshG g s n) ≤ n32 0 then bshG g s n else shareG (tkn g (n + 1)) s := by rw [bshG]
theorem bshG_in {T X s : Nat} (si : SI g T X) (hT : T ≤ 5000) (hs : s < nSt g) : ∀ n, n ≤ 4000 → bshG g s n ∈ shL := by
  intro n
  induction n with
  | zero => intro _; rw [bshG_0]; exact share_in si.w hs
  | succ n ih =>
    intro hn
    have kk := tkn_keeps si hT (n + 1) hn
    rw [bshG_s]
    split
    · exact ih (by omega)
    · exact share_in kk.1 (by rw [kk.2.2.1]; exact hs)
def bsG (g : PG) (n : Nat) : Int32 := bst n (fun _ => true) (fun k b => decide (¬ cmpL (shareG g k) (shareG g b) ≤ n32 0))
theorem bsG_succ (g : PG) (n : Nat) : bsG g (n + 1) = if (bsG g n == -(n32 1) || decide (¬ cmpL (shareG g n) (shareG g (ix (bsG g n))) ≤ n32 0)) = true then n32 n else bsG g n := by
  unfold bsG
  rw [bst_succ, Bool.true_and]
def gvG (g : PG) (x : Int32) : UInt32 := if x = -(n32 1) then UInt32.ofNat 3212836864 else shareG g (ix x)
def dstG (g : PG) (k : Nat) : Int32 := g (15 + 7 * (k - 1) + 1) - g (15 + 7 * k + 1)
def wdG (g : PG) (n : Nat) : Int32 := bst n (fun k => decide (¬ k = 0)) (fun k b => decide (¬ dstG g k ≤ dstG g b))
theorem wdG_succ (g : PG) {n : Nat} (hn : ¬ n = 0) : wdG g (n + 1) = if (wdG g n == -(n32 1) || decide (¬ dstG g n ≤ dstG g (ix (wdG g n)))) = true then n32 n else wdG g n := by
  unfold wdG
  rw [bst_succ, decide_eq_true hn, Bool.true_and]
theorem wdG_rng (g : PG) {i : Nat} (hi : i < 2147483648) : wdG g i = -(n32 1) ∨ ∃ k, 1 ≤ k ∧ k < i ∧ wdG g i = n32 k := by
  rcases bst_rng i (fun k => decide (¬ k = 0)) (fun k b => decide (¬ dstG g k ≤ dstG g b)) hi with hb | ⟨j, hj, h1, hb⟩
  · exact Or.inl hb
  · exact Or.inr ⟨j, by have := of_decide_eq_true h1; omega, hj, hb⟩
theorem exchG_at {g : PG} {b j : Nat} (h : j ≠ 15 + 7 * b) (h1 : j ≠ 15 + 7 * (b + 1)) : exchG g b j = g j := by
  unfold exchG; rw [gup_ne h1, gup_ne h]
theorem exchG_two (g : PG) (b : Nat) : exchG (exchG g b) b = g := by
  funext j
  have ea : exchG g b (15 + 7 * b) = g (15 + 7 * (b + 1)) := by unfold exchG; rw [gup_ne (by omega), gup_eq]
  have eb : exchG g b (15 + 7 * (b + 1)) = g (15 + 7 * b) := by unfold exchG; rw [gup_eq]
  by_cases h1 : j = 15 + 7 * (b + 1)
  · subst h1
    show gup _ _ _ _ = _
    rw [gup_eq, ea]
  · by_cases h2 : j = 15 + 7 * b
    · subst h2
      show gup (gup _ _ _) _ _ _ = _
      rw [gup_ne h1, gup_eq, eb]
    · rw [exchG_at h2 h1, exchG_at h2 h1]
theorem RS_exch {a b : Nat} (w : WF g) (r : RS m a g) (hb : b + 1 < nBr g) : RS (um (um m (a + 3 + 5) b (g (15 + 7 * (b + 1)))) (a + 3 + 5) (b + 1) (g (15 + 7 * b))) a (exchG g b) := by
  have a2 := w.nb
  have b2 := w.nl
  have b3 := w.np
  have r1 : RS (um m (a + 3 + 5) b (g (15 + 7 * (b + 1)))) a (gup g (15 + 7 * b) (g (15 + 7 * (b + 1)))) := RS_gup (d0 := 8) w r (lv_ban (by omega)) (by omega) (by omega) (by omega)
  have n1 : nBr (gup g (15 + 7 * b) (g (15 + 7 * (b + 1)))) = nBr g := nBr_upd (by omega)
  have n2 : nL (gup g (15 + 7 * b) (g (15 + 7 * (b + 1)))) = nL g := nL_upd (by omega)
  have n3 : nPl (gup g (15 + 7 * b) (g (15 + 7 * (b + 1)))) = nPl g := nPl_upd (by omega)
  have k2 : keeps g (exchG g b) := WF_exchG w hb
  unfold RS at r1 ⊢
  have n2' : nL (exchG g b) = nL g := by unfold exchG; rw [nL_upd (by omega), nL_upd (by omega)]
  rw [n1, n2, n3] at r1
  rw [k2.2.1, n2', k2.2.2.2]
  exact RSn_gup (d0 := 8) r1 (by omega) (by omega) b3 (lv_ban (by omega))
theorem RT_exch {a b : Nat} (w : WF g) (rt : RT m a g) (hb : b + 1 < nBr g) : RT m a (exchG g b) := by
  have a2 := w.nb
  have a4 := w.ns
  have k2 : keeps g (exchG g b) := WF_exchG w hb
  refine ⟨by rw [exchG_at (by omega) (by omega)]; exact rt.1, fun s hs => ?_⟩
  rw [k2.2.2.1] at hs
  obtain ⟨q1, q2, q3, q4⟩ := rt.2 s hs
  rw [exchG_at (by omega) (by omega), exchG_at (by omega) (by omega), exchG_at (by omega) (by omega)]
  exact ⟨q1, q2, q3, fun i hi => by rw [exchG_at (by omega) (by omega)]; exact q4 i hi⟩
/-- the best swap so far and its share -/
def bwG (g : PG) (s n : Nat) : Int32 × UInt32 := itr n (fun b q => if cmpL (shareG (exchG g b) s) q.2 ≤ n32 0 then q else (n32 b, shareG (exchG g b) s)) (-(n32 1), shareG g s)
theorem bwG_succ (g : PG) (s n : Nat) : bwG g s (n + 1) = if cmpL (shareG (exchG g n) s) (bwG g s n).2 ≤ n32 0 then bwG g s n else (n32 n, shareG (exchG g n) s) := rfl
theorem bwG_in {s : Nat} (w : WF g) (hs : s < nSt g) : ∀ n, n < nBr g → (bwG g s n).2 ∈ shL := by
  intro n
  induction n with
  | zero => intro _; exact share_in w hs
  | succ n ih =>
    intro hn
    rw [bwG_succ]
    split
    · exact ih (by omega)
    · have kk := WF_exchG w (b := n) (by omega)
      exact share_in kk.1 (by rw [kk.2.2.1]; exact hs)
end S88

