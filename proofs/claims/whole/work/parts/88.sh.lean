/-! Shares compared; pairs: what a stand's share will be, the best of them, the best swap, the best stand. -/
def shL : List UInt32 := [0, 1026206379, 1026692675, 1027223180, 1027804209, 1028443341, 1029149750, 1029934649, 1030811889, 1031798784, 1032358025, 1032997157, 1033734617, 1034594987, 1035081283, 1035611788, 1036192817, 1036831949, 1037538358, 1038323257, 1039200497, 1040187392, 1040552114, 1040746633, 1040949993, 1041385765, 1041865114, 1042123225, 1042394920, 1042983595, 1043469891, 1043641525, 1044000396, 1044381696, 1044581425, 1045220557, 1045779797, 1045926966, 1046179255, 1046387667, 1046711865, 1047050799, 1047285445, 1047589105, 1047777085, 1048576000, 1048940722, 1049017506, 1049135241, 1049338601, 1049508068, 1049774373, 1049974101, 1050056343, 1050253722, 1050399610, 1050511833, 1050673152, 1050783528, 1050863802, 1051372203, 1051858499, 1051931443, 1052030133, 1052171118, 1052389004, 1052549551, 1052770304, 1052970033, 1053092943, 1053236338, 1053609165, 1054003923, 1054168405, 1054315574, 1054567863, 1054867456, 1055100473, 1055439407, 1055674053, 1055846127, 1055977713, 1056964608, 1057523849, 1057609886, 1057727209, 1057896676, 1058162981, 1058362709, 1058642330, 1058900441, 1059061760, 1059252410, 1059760811, 1060320051, 1060559726, 1060777612, 1061158912, 1061624946, 1061997773, 1062557013, 1062956471, 1063256064, 1063489081, 1065353216, 1066551589, 1066751317, 1067030938, 1067450368, 1068149419, 1068708659, 1069547520, 1070386381, 1070945621, 1071644672, 1073741824, 1075139925, 1075838976, 1076538027, 1077936128, 1080033280, 1082130432, 1084227584, 1086324736, 1088421888, 1090519040]
def cmpL (x y : UInt32) : Int32 := Op.cmpValue (FP.fcmp x y) .l
/-- two shares compare alike by all the ways that are used -/
def shCmp (a b : UInt32) : Bool := decide (FP.fIsNaN a = false) && decide (Native.java_lang_Math.nans.pick32 true a b = if cmpL b a ≤ n32 0 then a else b) && decide (n32 0 < Op.cmpValue (FP.fcmp b a) .g ↔ ¬ cmpL b a ≤ n32 0) && decide (¬ cmpL a (UInt32.ofNat 3212836864) ≤ n32 0)
theorem shL_all : (shL.all fun a => shL.all fun b => shCmp a b) = true := by decide +kernel
theorem shL_mem : ((List.range 9).all fun n => (List.range 25).all fun d => Nat.beq d 0 || shL.contains (FP.fdiv (FP.i2f (n32 n)) (FP.i2f (n32 d)))) = true := by decide +kernel
theorem share_in {g : PG} (w : WF g) {s : Nat} (hs : s < nSt g) : shareG g s ∈ shL := by
  obtain ⟨l1, l2, l3⟩ := wl w hs
  have tl := tx_len w s
  have al := alm8 w hs
  have := List.all_eq_true.mp (List.all_eq_true.mp shL_mem (almG g s) (List.mem_range.mpr (by omega))) (max (txA g s).1 (ix (g (99 + 12 * s + 2)))) (List.mem_range.mpr (by omega))
  rw [Bool.or_eq_true] at this
  rcases this with h | h
  · exact absurd (Nat.eq_of_beq_eq_true h) (by omega)
  · exact List.contains_iff_mem.mp h
theorem sh_cmp {a b : UInt32} (ha : a ∈ shL) (hb : b ∈ shL) : FP.fIsNaN a = false ∧ Native.java_lang_Math.nans.pick32 true a b = (if cmpL b a ≤ n32 0 then a else b) ∧ (n32 0 < Op.cmpValue (FP.fcmp b a) .g ↔ ¬ cmpL b a ≤ n32 0) ∧ ¬ cmpL a (UInt32.ofNat 3212836864) ≤ n32 0 := by
  have := List.all_eq_true.mp (List.all_eq_true.mp shL_all a ha) b hb
  unfold shCmp at this
  simp only [Bool.and_eq_true, decide_eq_true_eq] at this
  exact ⟨this.1.1.1, this.1.1.2, this.1.2, this.2⟩
section S88
variable {D : Nat} {m : XM} {g : PG} {E : Nat → XM → Prop}
theorem s297 {v1 v2 : Int32} {Q : Int32 → XM → Prop} (h : Q (if codeOf (m 283 6) (inI v1 (n32 0) (m 284 7 - n32 1)) (inI v2 (n32 0) (n32 300)) = 0 then n32 1 else n32 0) (um m 283 0 (n32 (codeOf (m 283 6) (inI v1 (n32 0) (m 284 7 - n32 1)) (inI v2 (n32 0) (n32 300)))))) : VI (D + 2) 297 [vR 11 283, vI v1, vI v2] m Q E := by
  refine w297_0 ?_
  simp (disch := omega) only [ix_n32]
  unfold inI at h
  by_cases c1 : v1 < n32 0
  · rw [if_pos c1] at h
    refine ⟨fun _ => ?_, fun c => absurd c1 c⟩
    by_cases c3 : v2 < n32 0
    · rw [if_pos c3] at h
      exact ⟨fun _ => s176 ⟨xrt_if, h⟩, fun c => absurd c3 c⟩
    · rw [if_neg c3] at h
      refine ⟨fun c => absurd c c3, fun _ => ?_⟩
      by_cases c4 : n32 300 < v2
      · rw [if_pos c4] at h
        exact ⟨fun _ => s176 ⟨xrt_if, h⟩, fun c => absurd c4 c⟩
      · rw [if_neg c4] at h
        exact ⟨fun c => absurd c c4, fun _ => s176 ⟨xrt_if, h⟩⟩
  · rw [if_neg c1] at h
    refine ⟨fun c => absurd c c1, fun _ => ?_⟩
    by_cases c2 : m 284 7 - n32 1 < v1
    · rw [if_pos c2] at h
      refine ⟨fun _ => ?_, fun c => absurd c2 c⟩
      by_cases c3 : v2 < n32 0
      · rw [if_pos c3] at h
        exact ⟨fun _ => s176 ⟨xrt_if, h⟩, fun c => absurd c3 c⟩
      · rw [if_neg c3] at h
        refine ⟨fun c => absurd c c3, fun _ => ?_⟩
        by_cases c4 : n32 300 < v2
        · rw [if_pos c4] at h
          exact ⟨fun _ => s176 ⟨xrt_if, h⟩, fun c => absurd c4 c⟩
        · rw [if_neg c4] at h
          exact ⟨fun c => absurd c c4, fun _ => s176 ⟨xrt_if, h⟩⟩
    · rw [if_neg c2] at h
      refine ⟨fun c => absurd c c2, fun _ => ?_⟩
      by_cases c3 : v2 < n32 0
      · rw [if_pos c3] at h
        exact ⟨fun _ => s176 ⟨xrt_if, h⟩, fun c => absurd c3 c⟩
      · rw [if_neg c3] at h
        refine ⟨fun c => absurd c c3, fun _ => ?_⟩
        by_cases c4 : n32 300 < v2
        · rw [if_pos c4] at h
          exact ⟨fun _ => s176 ⟨xrt_if, h⟩, fun c => absurd c4 c⟩
        · rw [if_neg c4] at h
          exact ⟨fun c => absurd c c4, fun _ => s176 ⟨xrt_if, h⟩⟩
theorem p_shareIn {v1 v2 : Int32} {N : Nat} (h : CPL m N) : PRF (D + 12) 133 298 [vR 10 0, vI v1, vI v2] [vR 11 283, vI v1, vI v2] mpSPA m N := by
  unfold PRF
  have no : ∀ c, codeOf (m 283 6) (inI v1 (n32 0) (m 284 7 - n32 1)) (inI v2 (n32 0) (n32 300)) = c → 1 ≤ c → c ≤ 3 → VF (D + 12) 298 [vR 11 283, vI v1, vI v2] m (fun _ m2 => (m2 283 0 = n32 c ∧ 1 ≤ c ∧ c ≤ 3) ∧ CPL m2 N) (fun _ _ => False) := by
    intro c hc y1 y3
    have cn : ¬ c = 0 := by omega
    refine w298_0 (s297 ?_)
    rw [hc, if_neg cn]
    exact ⟨fun _ => ⟨⟨um_eq _ _ _ _, y1, y3⟩, CPL_th h⟩, fun c => absurd rfl c⟩
  rcases stand_cases h v1 with ⟨h1, h2⟩ | ⟨h1, h2, h3, h4⟩ | ⟨h1, h2, hS, s, hs, rfl, h69, h4⟩
  · exact w133_0 ⟨fun _ => no 1 (by rw [h2, code1]) (by omega) (by omega), fun c => absurd h1 c⟩
  · have rb := no 2 (by rw [h2, h4, code2]) (by omega) (by omega)
    refine w133_0 ⟨fun c => absurd (h1.symm.trans c) n01, fun _ => ⟨fun _ => rb, fun d1 => ⟨fun d2 => ?_, fun _ => rb⟩⟩⟩
    rcases h3 with h3 | h3
    · exact absurd h3 d1
    · exact absurd d2 h3
  · obtain ⟨r1, r2, r3, T, hT, si⟩ := hS
    have w := si.w
    have a2 := w.nb
    have a4 := w.ns
    have b0 : ¬ n32 s < n32 0 := by rw [n32_lt (by omega) (by omega)]; omega
    have bn : n32 s < m 69 0 := by rw [h69, n32_lt (by omega) (by omega)]; omega
    rcases rng_cases v2 300 (by omega) with ⟨d1, e1⟩ | ⟨d1, d2, e1⟩ | ⟨n, hn, rfl, e1⟩
    · exact w133_0 ⟨fun c => absurd (h1.symm.trans c) n01, fun _ => ⟨fun c => absurd c b0, fun _ => ⟨fun _ => ⟨fun _ => no 3 (by rw [h2, h4, e1, code3]) (by omega) (by omega), fun c => absurd d1 c⟩, fun c => absurd bn c⟩⟩⟩
    · exact w133_0 ⟨fun c => absurd (h1.symm.trans c) n01, fun _ => ⟨fun c => absurd c b0, fun _ => ⟨fun _ => ⟨fun c => absurd c d1, fun _ => ⟨fun _ => no 3 (by rw [h2, h4, e1, code3]) (by omega) (by omega), fun c => absurd d2 c⟩⟩, fun c => absurd bn c⟩⟩⟩
    · have n0 : ¬ n32 n < n32 0 := by rw [n32_lt (by omega) (by omega)]; omega
      have nk : ¬ n32 300 < n32 n := by rw [n32_lt (by omega) (by omega)]; omega
      refine w133_0 ⟨fun c => absurd (h1.symm.trans c) n01, fun _ => ⟨fun c => absurd c b0, fun _ => ⟨fun _ => ⟨fun c => absurd c n0, fun _ => ⟨fun c => absurd c nk, fun _ => ?_⟩⟩, fun c => absurd bn c⟩⟩⟩
      refine s163 si hT hn r1 ?_
      intro m1 rl fl
      have kk := tkn_keeps si hT n (by omega)
      have hs' : s < nSt (tkn (m 284) n) := by rw [kk.2.2.1]; exact hs
      have rt1 := RT_flr fl.r r3
      refine s162 si hT (by omega) rl rt1 hs ?_
      intro m2 hT2 fd
      have fr : FLR m m2 := fl.r.tr fd.r
      refine s40 kk.1 hT2 (RT_tkn si hT (by omega) (RT_flr fr r3)) hs' ?_
      have f := QF_flr fr
      have hc : CPL m2 N := CPL_fr h (Nat.le_refl _) f
      have hg : m2 284 = m 284 := funext fun k => f _ _ (by unfold REL; omega)
      have h2' : m2 283 6 = n32 1 := by rw [f _ _ (by unfold REL; omega)]; exact h2
      refine w298_0 (s297 ?_)
      rw [h2', hg, h4, e1, code0]
      refine ⟨fun c => absurd c n01, fun _ => ?_⟩
      rw [st0 hg]
      refine s284 (s229 si hT (by omega) ?_)
      intro m3 f3
      refine s224 kk.1 hs' ?_
      intro m4 f4
      refine s286 (asd_at (f3.tr f4)) (fun k hk => tkn_hi si hT hk n (by omega)) ?_
      obtain ⟨z1, z2⟩ := finA hc hg ((asd_rfa _ _).tr (f3.tr f4).a)
      exact ⟨⟨rfl, z1⟩, z2⟩

/-- the best share within n ticks -/
def bshG (g : PG) (s : Nat) : Nat → UInt32
  | 0 => shareG g s
  | n + 1 => if cmpL (shareG (tkn g (n + 1)) s) (bshG g s n) ≤ n32 0 then bshG g s n else shareG (tkn g (n + 1)) s
theorem bshG_0 (g : PG) (s : Nat) : bshG g s 0 = shareG g s := by rw [bshG]
theorem bshG_s (g : PG) (s n : Nat) : bshG g s (n + 1) = if cmpL (shareG (tkn g (n + 1)) s) (bshG g s n) ≤ n32 0 then bshG g s n else shareG (tkn g (n + 1)) s := by rw [bshG]
theorem bshG_in {T X s : Nat} (si : SI g T X) (hT : T ≤ 5000) (hs : s < nSt g) : ∀ n, n ≤ 4000 → bshG g s n ∈ shL := by
  intro n
  induction n with
  | zero => intro _; rw [bshG_0]; exact share_in si.w hs
  | succ n ih =>
    intro hn
    have kk := tkn_keeps si hT (n + 1) hn
    rw [bshG_s]
    split
    · exact ih (by omega)
    · exact share_in kk.1 (by rw [kk.2.2.1]; exact hs)
theorem c134 {s n T X : Nat} {Q : UInt32 → XM → Prop} (si : SI g T X) (hT : T ≤ 5000) (hn : n ≤ 300) (hs : s < nSt g) {m0 : XM} (r0 : RS m0 49 (tkn g 0)) (rt : RT m 69 g) (f0 : FLR m m0) (h : ∀ m', FLR m m' → Q (bshG g s n) m') : VLF (D + 5) 134 1 [(0, vR 10 0), (1, vI (n32 s)), (2, vI (n32 n)), (3, vF (bshG g s 0)), (4, vI (n32 0))] [] m0 Q E := by
  have a4 := si.w.ns
  refine upm (C := fun i m' => VLF (D + 5) 134 1 [(0, vR 10 0), (1, vI (n32 s)), (2, vI (n32 n)), (3, vF (bshG g s i)), (4, vI (n32 i))] [] m' Q E) (Inv := fun i m' => RS m' 49 (tkn g i) ∧ FLR m m') (n := n) ?_ ?_ 0 m0 (Nat.zero_le _) ⟨r0, f0⟩
  · intro i m1 hi hI ih
    obtain ⟨r1, f1⟩ := hI
    refine w134_1 ⟨fun c => absurd ((n32_le (by omega) (by omega)).mp c) (by omega), fun _ => ?_⟩
    refine s70l si hT (by omega) r1 ?_
    intro m2 rs2 fl2
    have f2 := f1.tr fl2.r
    have kk := tkn_keeps si hT (i + 1) (by omega)
    have hs' : s < nSt (tkn g (i + 1)) := by rw [kk.2.2.1]; exact hs
    refine s162 si hT (by omega) rs2 (RT_flr f2 rt) hs ?_
    intro m3 hT3 fd
    have f3 := f2.tr fd.r
    refine s40 kk.1 hT3 (RT_tkn si hT (by omega) (RT_flr f3 rt)) hs' ?_
    have ih := ih m3 ⟨RS_fd49 rs2 fd, f3⟩
    rw [bshG_s] at ih
    rw [n32_add]
    by_cases c : cmpL (shareG (tkn g (i + 1)) s) (bshG g s i) ≤ n32 0
    · rw [if_pos c] at ih
      exact ⟨fun _ => ih, fun c' => absurd c c'⟩
    · rw [if_neg c] at ih
      exact ⟨fun c' => absurd c' c, fun _ => ih⟩
  · intro m1 hI
    exact w134_1 ⟨fun _ => h m1 hI.2, fun c => absurd (n32_rfl _) c⟩
theorem c299 {s n T X : Nat} {Q : UInt32 → XM → Prop} (si : SI g T X) (hT : T ≤ 5000) (hn : n ≤ 300) (hs : s < nSt g) {m0 : XM} (f0 : rfr (asd m g) m0) (h : ∀ m', rfr (asd m g) m' → Q (bshG g s n) (smg m' g)) : VLF (D + 6) 299 3 [(0, vR 11 283), (1, vI (n32 s)), (2, vI (n32 n)), (3, vF (bshG g s 0)), (4, vI (n32 0))] [] (smg m0 (tkn g 0)) Q E := by
  have a4 := si.w.ns
  refine upm (C := fun i m' => VLF (D + 6) 299 3 [(0, vR 11 283), (1, vI (n32 s)), (2, vI (n32 n)), (3, vF (bshG g s i)), (4, vI (n32 i))] [] (smg m' (tkn g i)) Q E) (Inv := fun i m' => rfr (asd m g) m') (n := n) ?_ ?_ 0 m0 (Nat.zero_le _) f0
  · intro i m1 hi f1 ih
    have kk := tkn_keeps si hT i (by omega)
    have kk2 := tkn_keeps si hT (i + 1) (by omega)
    have hs' : s < nSt (tkn g (i + 1)) := by rw [kk2.2.2.1]; exact hs
    refine w299_3 ⟨fun c => absurd ((n32_le (by omega) (by omega)).mp c) (by omega), fun _ => ?_⟩
    refine s228 kk.1 ?_
    intro m2 f2
    rw [← tkn_succ]
    refine s224 kk2.1 hs' ?_
    intro m3 f3
    have ih := ih m3 ((f1.tr f2).tr f3)
    obtain ⟨p1, p2, -, -⟩ := sh_cmp (bshG_in si hT hs i (by omega)) (share_in kk2.1 hs')
    obtain ⟨p3, -⟩ := sh_cmp (share_in kk2.1 hs') (bshG_in si hT hs i (by omega))
    rw [bshG_s, ← p2] at ih
    rw [n32_add]
    exact ⟨⟨p1, p3⟩, ih⟩
  · intro m1 f1
    refine w299_3 ⟨fun _ => ?_, fun c => absurd (n32_rfl _) c⟩
    exact s286 (asd_at f1) (fun k hk => tkn_hi si hT hk n (by omega)) (h m1 f1)
theorem p_bestShare {v1 v2 : Int32} {N : Nat} (h : CPL m N) : PRF (D + 12) 134 299 [vR 10 0, vI v1, vI v2] [vR 11 283, vI v1, vI v2] mpSPA m N := by
  unfold PRF
  have no : ∀ c, codeOf (m 283 6) (inI v1 (n32 0) (m 284 7 - n32 1)) (inI v2 (n32 0) (n32 300)) = c → 1 ≤ c → c ≤ 3 → VF (D + 12) 299 [vR 11 283, vI v1, vI v2] m (fun _ m2 => (m2 283 0 = n32 c ∧ 1 ≤ c ∧ c ≤ 3) ∧ CPL m2 N) (fun _ _ => False) := by
    intro c hc y1 y3
    have cn : ¬ c = 0 := by omega
    refine w299_0 (s297 ?_)
    rw [hc, if_neg cn]
    exact ⟨fun _ => ⟨⟨um_eq _ _ _ _, y1, y3⟩, CPL_th h⟩, fun c => absurd rfl c⟩
  rcases stand_cases h v1 with ⟨h1, h2⟩ | ⟨h1, h2, h3, h4⟩ | ⟨h1, h2, hS, s, hs, rfl, h69, h4⟩
  · exact w134_0 ⟨fun _ => no 1 (by rw [h2, code1]) (by omega) (by omega), fun c => absurd h1 c⟩
  · have rb := no 2 (by rw [h2, h4, code2]) (by omega) (by omega)
    refine w134_0 ⟨fun c => absurd (h1.symm.trans c) n01, fun _ => ⟨fun _ => rb, fun d1 => ⟨fun d2 => ?_, fun _ => rb⟩⟩⟩
    rcases h3 with h3 | h3
    · exact absurd h3 d1
    · exact absurd d2 h3
  · obtain ⟨r1, r2, r3, T, hT, si⟩ := hS
    have w := si.w
    have a2 := w.nb
    have a4 := w.ns
    have b0 : ¬ n32 s < n32 0 := by rw [n32_lt (by omega) (by omega)]; omega
    have bn : n32 s < m 69 0 := by rw [h69, n32_lt (by omega) (by omega)]; omega
    rcases rng_cases v2 300 (by omega) with ⟨d1, e1⟩ | ⟨d1, d2, e1⟩ | ⟨n, hn, rfl, e1⟩
    · exact w134_0 ⟨fun c => absurd (h1.symm.trans c) n01, fun _ => ⟨fun c => absurd c b0, fun _ => ⟨fun _ => ⟨fun _ => no 3 (by rw [h2, h4, e1, code3]) (by omega) (by omega), fun c => absurd d1 c⟩, fun c => absurd bn c⟩⟩⟩
    · exact w134_0 ⟨fun c => absurd (h1.symm.trans c) n01, fun _ => ⟨fun c => absurd c b0, fun _ => ⟨fun _ => ⟨fun c => absurd c d1, fun _ => ⟨fun _ => no 3 (by rw [h2, h4, e1, code3]) (by omega) (by omega), fun c => absurd d2 c⟩⟩, fun c => absurd bn c⟩⟩⟩
    · have n0 : ¬ n32 n < n32 0 := by rw [n32_lt (by omega) (by omega)]; omega
      have nk : ¬ n32 300 < n32 n := by rw [n32_lt (by omega) (by omega)]; omega
      refine w134_0 ⟨fun c => absurd (h1.symm.trans c) n01, fun _ => ⟨fun c => absurd c b0, fun _ => ⟨fun _ => ⟨fun c => absurd c n0, fun _ => ⟨fun c => absurd c nk, fun _ => ?_⟩⟩, fun c => absurd bn c⟩⟩⟩
      refine s68l w r1 ?_
      intro m1 rl fl
      refine s162 (n := 0) si hT (by omega) rl (RT_flr fl.r r3) hs ?_
      intro m2 hT2 fd
      have fr : FLR m m2 := fl.r.tr fd.r
      refine s40 w hT2 (RT_flr fr r3) hs ?_
      refine c134 si hT hn hs (RS_fd49 rl fd) r3 fr ?_
      intro m3 fr3
      have f := QF_flr fr3
      have hc : CPL m3 N := CPL_fr h (Nat.le_refl _) f
      have hg : m3 284 = m 284 := funext fun k => f _ _ (by unfold REL; omega)
      have h2' : m3 283 6 = n32 1 := by rw [f _ _ (by unfold REL; omega)]; exact h2
      refine w299_0 (s297 ?_)
      rw [h2', hg, h4, e1, code0]
      refine ⟨fun c => absurd c n01, fun _ => ?_⟩
      rw [st0 hg]
      refine s284 (s224 w hs ?_)
      intro m4 f4
      refine c299 (m := um m3 283 0 (n32 0)) si hT hn hs f4 ?_
      intro m5 f5
      obtain ⟨z1, z2⟩ := finA hc hg ((asd_rfa _ _).tr f5.a)
      exact ⟨⟨rfl, z1⟩, z2⟩

def bsG (g : PG) (n : Nat) : Int32 := bst n (fun _ => true) (fun k b => decide (¬ cmpL (shareG g k) (shareG g b) ≤ n32 0))
theorem bsG_succ (g : PG) (n : Nat) : bsG g (n + 1) = if (bsG g n == -(n32 1) || decide (¬ cmpL (shareG g n) (shareG g (ix (bsG g n))) ≤ n32 0)) = true then n32 n else bsG g n := by
  unfold bsG
  rw [bst_succ, Bool.true_and]
def gvG (g : PG) (x : Int32) : UInt32 := if x = -(n32 1) then UInt32.ofNat 3212836864 else shareG g (ix x)
theorem t119 {Q : Int32 → XM → Prop} (w : WF g) (r : RS m 29 g) (rt : RT m 69 g) (h : ∀ m', FD 278 m m' → Q (bsG g (nSt g)) m') : VLI (D + 4) 119 1 [(0, vR 10 0), (1, vI (-(n32 1))), (2, vF (UInt32.ofNat 3212836864)), (3, vI (n32 0))] [] m Q E := by
  have a4 := w.ns
  refine upm (C := fun i m' => VLI (D + 4) 119 1 [(0, vR 10 0), (1, vI (bsG g i)), (2, vF (gvG g (bsG g i))), (3, vI (n32 i))] [] m' Q E) (Inv := fun _ m' => FD 278 m m') (n := nSt g) ?_ ?_ 0 m (Nat.zero_le _) (FD.rf _ _)
  · intro i m1 hi f1 ih
    have h7 : m1 69 0 = n32 (nSt g) := by rw [f1 _ _ (by omega), rt.1]; exact w.2.1.1
    refine w119_1 ?_
    rw [h7]
    refine ⟨fun c => absurd ((n32_le (by omega) (by omega)).mp c) (by omega), fun _ => ?_⟩
    refine s161 w (RS_fd r f1 (Or.inr (by omega))) (RT_fd rt f1 (Or.inr (by omega))) hi ?_
    intro m2 hT2 fd
    have f2 := f1.tr fd
    refine s40 w hT2 (RT_fd rt f2 (Or.inr (by omega))) hi ?_
    have ih := ih m2 f2
    rw [n32_add]
    rw [bsG_succ] at ih
    have hin := share_in w hi
    rcases bst_rng i (fun _ => true) (fun k b => decide (¬ cmpL (shareG g k) (shareG g b) ≤ n32 0)) (by omega) with hb | ⟨j, hj, -, hb⟩
    · have hb : bsG g i = -(n32 1) := hb
      have e : gvG g (bsG g i) = UInt32.ofNat 3212836864 := by unfold gvG; rw [if_pos hb]
      rw [e]
      rw [hb] at ih ⊢
      rw [BEq.rfl, Bool.true_or, if_pos rfl] at ih
      have e2 : gvG g (n32 i) = shareG g i := by unfold gvG; rw [if_neg (n32_nm1 (by omega)), ix_n32 (by omega)]
      rw [e2] at ih
      exact ⟨fun c => absurd c (sh_cmp hin hin).2.2.2, fun _ => ih⟩
    · have hb : bsG g i = n32 j := hb
      have hne : ¬ n32 j = -(n32 1) := n32_nm1 (by omega)
      have hne2 : (n32 j == -(n32 1)) = false := by rw [beq_eq_false_iff_ne]; exact hne
      have e : gvG g (n32 j) = shareG g j := by unfold gvG; rw [if_neg hne, ix_n32 (by omega)]
      rw [hb] at ih ⊢
      rw [e]
      rw [hne2, Bool.false_or, ix_n32 (by omega)] at ih
      by_cases c3 : cmpL (shareG g i) (shareG g j) ≤ n32 0
      · rw [decide_eq_false (fun e => e c3), if_neg (by decide), e] at ih
        exact ⟨fun _ => ih, fun c => absurd c3 c⟩
      · have e2 : gvG g (n32 i) = shareG g i := by unfold gvG; rw [if_neg (n32_nm1 (by omega)), ix_n32 (by omega)]
        rw [decide_eq_true c3, if_pos rfl, e2] at ih
        exact ⟨fun c => absurd c c3, fun _ => ih⟩
  · intro m1 f1
    have h7 : m1 69 0 = n32 (nSt g) := by rw [f1 _ _ (by omega), rt.1]; exact w.2.1.1
    refine w119_1 ?_
    rw [h7]
    exact ⟨fun _ => h m1 f1, fun c => absurd (n32_rfl _) c⟩
theorem t276 {Q : Int32 → XM → Prop} (w : WF g) (h : ∀ m', rfr m m' → Q (bsG g (nSt g)) (smg m' g)) : VLI (D + 5) 276 3 [(0, vR 11 283), (1, vI (-(n32 1))), (2, vI (n32 0))] [] (smg m g) Q E := by
  have a4 := w.ns
  have h7 := w.2.1.1
  refine upm (C := fun i m' => VLI (D + 5) 276 3 [(0, vR 11 283), (1, vI (bsG g i)), (2, vI (n32 i))] [] (smg m' g) Q E) (Inv := fun _ m' => rfr m m') (n := nSt g) ?_ ?_ 0 m (Nat.zero_le _) (rfr.rf m)
  · intro i m1 hi f1 ih
    refine w276_3 ?_
    simp (disch := omega) only [smg_at, ix_n32, h7, le_f, n32_add, false_implies, true_implies, not_false_eq_true, true_and]
    rcases bst_rng i (fun _ => true) (fun k b => decide (¬ cmpL (shareG g k) (shareG g b) ≤ n32 0)) (by omega) with hb | ⟨j, hj, -, hb⟩
    · have hb : bsG g i = -(n32 1) := hb
      have ih := ih m1 f1
      rw [bsG_succ] at ih
      rw [hb] at ih ⊢
      rw [BEq.rfl, Bool.true_or, if_pos rfl] at ih
      exact ⟨fun _ => ih, fun c => absurd rfl c⟩
    · have hb : bsG g i = n32 j := hb
      have hne : ¬ n32 j = -(n32 1) := n32_nm1 (by omega)
      have hne2 : (n32 j == -(n32 1)) = false := by rw [beq_eq_false_iff_ne]; exact hne
      rw [hb]
      refine ⟨fun c => absurd c hne, fun _ => ?_⟩
      refine s224 w hi ?_
      intro m2 f2
      refine s224 w (by omega) ?_
      intro m3 f3
      have ih := ih m3 ((f1.tr f2).tr f3)
      rw [bsG_succ, hb] at ih
      rw [hne2, Bool.false_or, ix_n32 (by omega)] at ih
      by_cases c3 : cmpL (shareG g i) (shareG g j) ≤ n32 0
      · rw [decide_eq_false (fun e => e c3), if_neg (by decide)] at ih
        exact ⟨fun _ => ih, fun c => absurd c3 c⟩
      · rw [decide_eq_true c3, if_pos rfl] at ih
        exact ⟨fun c => absurd c c3, fun _ => ih⟩
  · intro m1 f1
    refine w276_3 ?_
    simp (disch := omega) only [smg_at, ix_n32, h7]
    exact ⟨fun _ => h m1 f1, fun c => absurd (n32_rfl _) c⟩
theorem p_bestStand {N : Nat} (h : CPL m N) : PRI (D + 12) 119 276 [vR 10 0] [vR 11 283] mpSA m N := by
  unfold PRI
  rcases h.ld with ⟨h1, h2⟩ | ⟨h1, h2, r1, r2, r3, T, hT, si⟩
  · refine w119_0 ⟨fun _ => ?_, fun c => absurd h1 c⟩
    refine w276_0 (s275 ?_)
    rw [h2]
    exact ⟨fun _ => ⟨⟨um_eq _ _ _ _, by decide, by decide⟩, CPL_th h⟩, fun c => absurd rfl c⟩
  · have w := si.w
    have a2 := w.nb
    have a4 := w.ns
    obtain ⟨x1, x2⟩ := fin1 h (show m 284 = m 284 from rfl)
    refine w119_0 ⟨fun c => absurd (h1.symm.trans c) n01, fun _ => ?_⟩
    refine t119 w r1 r3 ?_
    intro m1 fd
    have f : QF m m1 := QF_fd fd
    have hc : CPL m1 N := CPL_fr h (Nat.le_refl _) f
    have hg : m1 284 = m 284 := funext fun k => f _ _ (by unfold REL; omega)
    have h2' : m1 283 6 = n32 1 := by rw [f _ _ (by unfold REL; omega)]; exact h2
    refine w276_0 (s275 ?_)
    rw [h2', code0]
    refine ⟨fun c => absurd c n01, fun _ => ?_⟩
    rw [st0 hg]
    refine t276 w ?_
    intro m2 f2
    obtain ⟨z1, z2⟩ := fin0 hc hg f2
    exact ⟨⟨rfl, z1⟩, z2⟩

def dstG (g : PG) (k : Nat) : Int32 := g (15 + 7 * (k - 1) + 1) - g (15 + 7 * k + 1)
def wdG (g : PG) (n : Nat) : Int32 := bst n (fun k => decide (¬ k = 0)) (fun k b => decide (¬ dstG g k ≤ dstG g b))
theorem wdG_succ (g : PG) {n : Nat} (hn : ¬ n = 0) : wdG g (n + 1) = if (wdG g n == -(n32 1) || decide (¬ dstG g n ≤ dstG g (ix (wdG g n)))) = true then n32 n else wdG g n := by
  unfold wdG
  rw [bst_succ, decide_eq_true hn, Bool.true_and]
theorem wdG_rng (g : PG) {i : Nat} (hi : i < 2147483648) : wdG g i = -(n32 1) ∨ ∃ k, 1 ≤ k ∧ k < i ∧ wdG g i = n32 k := by
  rcases bst_rng i (fun k => decide (¬ k = 0)) (fun k b => decide (¬ dstG g k ≤ dstG g b)) hi with hb | ⟨j, hj, h1, hb⟩
  · exact Or.inl hb
  · exact Or.inr ⟨j, by have := of_decide_eq_true h1; omega, hj, hb⟩
theorem t122 {Q : Int32 → XM → Prop} (w : WF g) (r : RS m 29 g) (h : Q (wdG g (nBr g)) m) : VLI (D + 1) 122 1 [(0, vR 10 0), (1, vI (-(n32 1))), (2, vI (n32 1))] [] m Q E := by
  have a2 := w.nb
  have h6 : m (29 + 3) 0 = n32 (nBr g) := by rw [r.nb]; exact w.1.1
  by_cases h0 : nBr g = 0
  · refine w122_1 ?_
    rw [h6]
    rw [h0] at h ⊢
    exact ⟨fun _ => h, fun c => absurd ((n32_le (by omega) (by omega)).mpr (by omega)) c⟩
  · have go : VLI (D + 1) 122 1 [(0, vR 10 0), (1, vI (wdG g 1)), (2, vI (n32 1))] [] m Q E := by
      refine up (C := fun i => 1 ≤ i → VLI (D + 1) 122 1 [(0, vR 10 0), (1, vI (wdG g i)), (2, vI (n32 i))] [] m Q E) (n := nBr g) ?_ ?_ 1 (by omega) (Nat.le_refl _)
      · intro i hi ih h1
        have ih := ih (by omega)
        rw [wdG_succ g (by omega)] at ih
        refine w122_1 ?_
        rw [h6]
        simp (disch := omega) only [le_f, n32_add, false_implies, not_false_eq_true, true_implies, true_and]
        rcases wdG_rng g (show i < 2147483648 by omega) with hb | ⟨j, hj0, hj, hb⟩
        · rw [hb] at ih ⊢
          rw [BEq.rfl, Bool.true_or, if_pos rfl] at ih
          exact ⟨fun _ => ih, fun c => absurd rfl c⟩
        · have hne : ¬ n32 j = -(n32 1) := n32_nm1 (by omega)
          have hne2 : (n32 j == -(n32 1)) = false := by rw [beq_eq_false_iff_ne]; exact hne
          rw [hb] at ih ⊢
          rw [hne2, Bool.false_or, ix_n32 (by omega)] at ih
          refine ⟨fun c => absurd c hne, fun _ => ?_⟩
          simp (disch := omega) only [le_f, n32_sub, xin_t, ix_n32, r.pla hi, r.pla (show i - 1 < nBr g by omega), r.pla (show j < nBr g by omega), r.pla (show j - 1 < nBr g by omega), false_implies, not_false_eq_true, true_implies, true_and]
          by_cases c3 : dstG g i ≤ dstG g j
          · rw [decide_eq_false (fun e => e c3), if_neg (by decide)] at ih
            exact ⟨fun _ => ih, fun c => absurd c3 c⟩
          · rw [decide_eq_true c3, if_pos rfl] at ih
            exact ⟨fun c => absurd c c3, fun _ => ih⟩
      · intro _
        refine w122_1 ?_
        rw [h6]
        exact ⟨fun _ => h, fun c => absurd (n32_rfl _) c⟩
    exact go
theorem t279 {Q : Int32 → XM → Prop} (w : WF g) (h : Q (wdG g (nBr g)) (smg m g)) : VLI (D + 2) 279 3 [(0, vR 11 283), (1, vI (-(n32 1))), (2, vI (n32 1))] [] (smg m g) Q E := by
  have a2 := w.nb
  have h6 := w.1.1
  by_cases h0 : nBr g = 0
  · refine w279_3 ?_
    simp (disch := omega) only [smg_at, ix_n32, h6]
    rw [h0] at h ⊢
    exact ⟨fun _ => h, fun c => absurd ((n32_le (by omega) (by omega)).mpr (by omega)) c⟩
  · have go : VLI (D + 2) 279 3 [(0, vR 11 283), (1, vI (wdG g 1)), (2, vI (n32 1))] [] (smg m g) Q E := by
      refine up (C := fun i => 1 ≤ i → VLI (D + 2) 279 3 [(0, vR 11 283), (1, vI (wdG g i)), (2, vI (n32 i))] [] (smg m g) Q E) (n := nBr g) ?_ ?_ 1 (by omega) (Nat.le_refl _)
      · intro i hi ih h1
        have ih := ih (by omega)
        rw [wdG_succ g (by omega)] at ih
        refine w279_3 ?_
        simp (disch := omega) only [smg_at, ix_n32, h6, le_f, n32_add, false_implies, not_false_eq_true, true_implies, true_and]
        rcases wdG_rng g (show i < 2147483648 by omega) with hb | ⟨j, hj0, hj, hb⟩
        · rw [hb] at ih ⊢
          rw [BEq.rfl, Bool.true_or, if_pos rfl] at ih
          exact ⟨fun _ => ih, fun c => absurd rfl c⟩
        · have hne : ¬ n32 j = -(n32 1) := n32_nm1 (by omega)
          have hne2 : (n32 j == -(n32 1)) = false := by rw [beq_eq_false_iff_ne]; exact hne
          rw [hb] at ih ⊢
          rw [hne2, Bool.false_or, ix_n32 (by omega)] at ih
          refine ⟨fun c => absurd c hne, fun _ => ?_⟩
          simp (disch := omega) only [smg_at, n32_sub, n32_mul, n32_add, xin_t, ix_n32, true_and]
          by_cases c3 : dstG g i ≤ dstG g j
          · rw [decide_eq_false (fun e => e c3), if_neg (by decide)] at ih
            exact ⟨fun _ => ih, fun c => absurd c3 c⟩
          · rw [decide_eq_true c3, if_pos rfl] at ih
            exact ⟨fun c => absurd c c3, fun _ => ih⟩
      · intro _
        refine w279_3 ?_
        simp (disch := omega) only [smg_at, ix_n32, h6]
        exact ⟨fun _ => h, fun c => absurd (n32_rfl _) c⟩
    exact go
theorem p_widest {N : Nat} (h : CPL m N) : PRI (D + 12) 122 279 [vR 10 0] [vR 11 283] mpSA m N := by
  unfold PRI
  rcases h.ld with ⟨h1, h2⟩ | ⟨h1, h2, r1, r2, r3, T, hT, si⟩
  · refine w122_0 ⟨fun _ => ?_, fun c => absurd h1 c⟩
    refine w279_0 (s275 ?_)
    rw [h2]
    exact ⟨fun _ => ⟨⟨um_eq _ _ _ _, by decide, by decide⟩, CPL_th h⟩, fun c => absurd rfl c⟩
  · have w := si.w
    have a2 := w.nb
    have a4 := w.ns
    obtain ⟨x1, x2⟩ := fin1 h (show m 284 = m 284 from rfl)
    refine w122_0 ⟨fun c => absurd (h1.symm.trans c) n01, fun _ => ?_⟩
    refine t122 w r1 ?_
    refine w279_0 (s275 ?_)
    rw [h2, code0]
    refine ⟨fun c => absurd c n01, fun _ => ?_⟩
    rw [st0 (show m 284 = m 284 from rfl)]
    refine t279 w ?_
    exact ⟨⟨rfl, x1⟩, x2⟩

theorem exchG_at {g : PG} {b j : Nat} (h : j ≠ 15 + 7 * b) (h1 : j ≠ 15 + 7 * (b + 1)) : exchG g b j = g j := by
  unfold exchG; rw [gup_ne h1, gup_ne h]
theorem exchG_two (g : PG) (b : Nat) : exchG (exchG g b) b = g := by
  funext j
  have ea : exchG g b (15 + 7 * b) = g (15 + 7 * (b + 1)) := by unfold exchG; rw [gup_ne (by omega), gup_eq]
  have eb : exchG g b (15 + 7 * (b + 1)) = g (15 + 7 * b) := by unfold exchG; rw [gup_eq]
  by_cases h1 : j = 15 + 7 * (b + 1)
  · subst h1
    show gup _ _ _ _ = _
    rw [gup_eq, ea]
  · by_cases h2 : j = 15 + 7 * b
    · subst h2
      show gup (gup _ _ _) _ _ _ = _
      rw [gup_ne h1, gup_eq, eb]
    · rw [exchG_at h2 h1, exchG_at h2 h1]
theorem RS_exch {a b : Nat} (w : WF g) (r : RS m a g) (hb : b + 1 < nBr g) : RS (um (um m (a + 3 + 5) b (g (15 + 7 * (b + 1)))) (a + 3 + 5) (b + 1) (g (15 + 7 * b))) a (exchG g b) := by
  have a2 := w.nb
  have b2 := w.nl
  have b3 := w.np
  have r1 : RS (um m (a + 3 + 5) b (g (15 + 7 * (b + 1)))) a (gup g (15 + 7 * b) (g (15 + 7 * (b + 1)))) := RS_gup (d0 := 8) w r (lv_ban (by omega)) (by omega) (by omega) (by omega)
  have n1 : nBr (gup g (15 + 7 * b) (g (15 + 7 * (b + 1)))) = nBr g := nBr_upd (by omega)
  have n2 : nL (gup g (15 + 7 * b) (g (15 + 7 * (b + 1)))) = nL g := nL_upd (by omega)
  have n3 : nPl (gup g (15 + 7 * b) (g (15 + 7 * (b + 1)))) = nPl g := nPl_upd (by omega)
  have k2 : keeps g (exchG g b) := WF_exchG w hb
  unfold RS at r1 ⊢
  have n2' : nL (exchG g b) = nL g := by unfold exchG; rw [nL_upd (by omega), nL_upd (by omega)]
  rw [n1, n2, n3] at r1
  rw [k2.2.1, n2', k2.2.2.2]
  exact RSn_gup (d0 := 8) r1 (by omega) (by omega) b3 (lv_ban (by omega))
theorem RT_exch {a b : Nat} (w : WF g) (rt : RT m a g) (hb : b + 1 < nBr g) : RT m a (exchG g b) := by
  have a2 := w.nb
  have a4 := w.ns
  have k2 : keeps g (exchG g b) := WF_exchG w hb
  refine ⟨by rw [exchG_at (by omega) (by omega)]; exact rt.1, fun s hs => ?_⟩
  rw [k2.2.2.1] at hs
  obtain ⟨q1, q2, q3, q4⟩ := rt.2 s hs
  rw [exchG_at (by omega) (by omega), exchG_at (by omega) (by omega), exchG_at (by omega) (by omega)]
  exact ⟨q1, q2, q3, fun i hi => by rw [exchG_at (by omega) (by omega)]; exact q4 i hi⟩
/-- the best swap so far and its share -/
def bwG (g : PG) (s n : Nat) : Int32 × UInt32 := itr n (fun b q => if cmpL (shareG (exchG g b) s) q.2 ≤ n32 0 then q else (n32 b, shareG (exchG g b) s)) (-(n32 1), shareG g s)
theorem bwG_succ (g : PG) (s n : Nat) : bwG g s (n + 1) = if cmpL (shareG (exchG g n) s) (bwG g s n).2 ≤ n32 0 then bwG g s n else (n32 n, shareG (exchG g n) s) := rfl
theorem bwG_in {s : Nat} (w : WF g) (hs : s < nSt g) : ∀ n, n < nBr g → (bwG g s n).2 ∈ shL := by
  intro n
  induction n with
  | zero => intro _; exact share_in w hs
  | succ n ih =>
    intro hn
    rw [bwG_succ]
    split
    · exact ih (by omega)
    · have kk := WF_exchG w (b := n) (by omega)
      exact share_in kk.1 (by rw [kk.2.2.1]; exact hs)
theorem t135 {s : Nat} {Q : Int32 → XM → Prop} (w : WF g) (hs : s < nSt g) {m0 : XM} (r0 : RS m0 49 g) (rt : RT m 69 g) (f0 : FLR m m0) (h : ∀ m', FLR m m' → Q (bwG g s (nBr g - 1)).1 m') : VLI (D + 4) 135 1 [(0, vR 10 0), (1, vI (n32 s)), (2, vI (-(n32 1))), (3, vF (shareG g s)), (4, vI (n32 0))] [] m0 Q E := by
  have a2 := w.nb
  have a4 := w.ns
  refine upm (C := fun i m' => VLI (D + 4) 135 1 [(0, vR 10 0), (1, vI (n32 s)), (2, vI (bwG g s i).1), (3, vF (bwG g s i).2), (4, vI (n32 i))] [] m' Q E) (Inv := fun i m' => RS m' 49 g ∧ FLR m m') (n := nBr g - 1) ?_ ?_ 0 m0 (Nat.zero_le _) ⟨r0, f0⟩
  · intro i m1 hi hI ih
    obtain ⟨r1, f1⟩ := hI
    have hi1 : i + 1 < nBr g := by omega
    have h6 : m1 (49 + 3) 0 = n32 (nBr g) := by rw [r1.nb]; exact w.1.1
    have kk := WF_exchG w hi1
    have hs' : s < nSt (exchG g i) := by rw [kk.2.2.1]; exact hs
    have e1 : m1 (49 + 3 + 5) i = g (15 + 7 * i) := r1.ban (by omega)
    have e2 : m1 (49 + 3 + 5) (i + 1) = g (15 + 7 * (i + 1)) := r1.ban hi1
    refine w135_1 ?_
    rw [h6, n32_add, ix_n32 (show i < 2147483648 by omega), ix_n32 (show i + 1 < 2147483648 by omega), e1, e2]
    refine ⟨fun c => absurd ((n32_le (by omega) (by omega)).mp c) (by omega), fun _ => ⟨fun c => absurd ((n32_lt (by omega) (by omega)).mp c) (by omega), fun _ => ⟨fun _ => ⟨xin_n (by omega) (by omega), xin_n (by omega) (by omega), ?_⟩, fun c => absurd ((n32_lt (by omega) (by omega)).mpr hi1) c⟩⟩⟩
    have rx := RS_exch w r1 hi1
    have fx : FLR m1 (um (um m1 (49 + 3 + 5) i (g (15 + 7 * (i + 1)))) (49 + 3 + 5) (i + 1) (g (15 + 7 * i))) := fun b k c1 c2 => by rw [um_a (by omega), um_a (by omega)]
    generalize um (um m1 (49 + 3 + 5) i (g (15 + 7 * (i + 1)))) (49 + 3 + 5) (i + 1) (g (15 + 7 * i)) = m2 at rx fx
    have f2 := f1.tr fx
    refine w162_0 (s33 kk.1 rx (RT_exch w (RT_flr f2 rt) hi1) hs' (Or.inr (by omega)) (Or.inr (by omega)) ?_)
    intro m3 hT3 fd
    have f3 := f2.tr fd.r
    refine s40 kk.1 hT3 (RT_exch w (RT_flr f3 rt) hi1) hs' ?_
    have r3 : RS m3 49 (exchG g i) := RS_fd49 rx fd
    have h63 : m3 (49 + 3) 0 = n32 (nBr g) := by rw [r3.nb, kk.1.1.1, kk.2.1]
    have e3 : m3 (49 + 3 + 5) i = exchG g i (15 + 7 * i) := r3.ban (by rw [kk.2.1]; omega)
    have e4 : m3 (49 + 3 + 5) (i + 1) = exchG g i (15 + 7 * (i + 1)) := r3.ban (by rw [kk.2.1]; exact hi1)
    rw [h63, e3, e4]
    refine ⟨fun _ => ?_, fun c => absurd ((n32_lt (by omega) (by omega)).mpr hi1) c⟩
    have ry := RS_exch kk.1 r3 (b := i) (by rw [kk.2.1]; exact hi1)
    rw [exchG_two] at ry
    have fy : FLR m3 (um (um m3 (49 + 3 + 5) i (exchG g i (15 + 7 * (i + 1)))) (49 + 3 + 5) (i + 1) (exchG g i (15 + 7 * i))) := fun b k c1 c2 => by rw [um_a (by omega), um_a (by omega)]
    generalize um (um m3 (49 + 3 + 5) i (exchG g i (15 + 7 * (i + 1)))) (49 + 3 + 5) (i + 1) (exchG g i (15 + 7 * i)) = m4 at ry fy
    have ih := ih m4 ⟨ry, f3.tr fy⟩
    rw [bwG_succ] at ih
    by_cases c : cmpL (shareG (exchG g i) s) (bwG g s i).2 ≤ n32 0
    · rw [if_pos c] at ih
      exact ⟨fun _ => ih, fun c' => absurd c c'⟩
    · rw [if_neg c] at ih
      exact ⟨fun c' => absurd c' c, fun _ => ih⟩
  · intro m1 hI
    have h6 : m1 (49 + 3) 0 = n32 (nBr g) := by rw [hI.1.nb]; exact w.1.1
    refine w135_1 ?_
    rw [h6, n32_add]
    exact ⟨fun _ => h m1 hI.2, fun c => absurd ((n32_le (by omega) (by omega)).mpr (by omega)) c⟩
theorem t300 {s : Nat} {Q : Int32 → XM → Prop} (w : WF g) (hs : s < nSt g) {m0 : XM} (f0 : rfr m m0) (h : ∀ m', rfr m m' → Q (bwG g s (nBr g - 1)).1 (smg m' g)) : VLI (D + 5) 300 3 [(0, vR 11 283), (1, vI (n32 s)), (2, vF (shareG g s)), (3, vI (-(n32 1))), (4, vI (n32 0))] [] (smg m0 g) Q E := by
  have a2 := w.nb
  have a4 := w.ns
  have h6 := w.1.1
  refine upm (C := fun i m' => VLI (D + 5) 300 3 [(0, vR 11 283), (1, vI (n32 s)), (2, vF (bwG g s i).2), (3, vI (bwG g s i).1), (4, vI (n32 i))] [] (smg m' g) Q E) (Inv := fun i m' => rfr m m') (n := nBr g - 1) ?_ ?_ 0 m0 (Nat.zero_le _) f0
  · intro i m1 hi f1 ih
    have hi1 : i + 1 < nBr g := by omega
    have kk := WF_exchG w hi1
    have hs' : s < nSt (exchG g i) := by rw [kk.2.2.1]; exact hs
    refine w300_3 ?_
    simp (disch := omega) only [smg_at, h6, n32_mul, n32_add, Nat.add_zero, le_f, xin_t, ix_n32, um_smg, false_implies, not_false_eq_true, true_implies, true_and]
    rintro μ rfl
    refine s224 (g := exchG g i) kk.1 hs' ?_
    intro m2 f2
    simp (disch := omega) only [smg_at, um_smg]
    rintro μ rfl
    have e2 : gup (gup (exchG g i) (15 + 7 * i) (exchG g i (15 + 7 * (i + 1)))) (15 + 7 * (i + 1)) (exchG g i (15 + 7 * i)) = g := exchG_two g i
    rw [e2]
    have ih := ih m2 (f1.tr f2)
    rw [bwG_succ] at ih
    obtain ⟨-, -, p3, -⟩ := sh_cmp (bwG_in w hs i (by omega)) (share_in kk.1 hs')
    by_cases c : cmpL (shareG (exchG g i) s) (bwG g s i).2 ≤ n32 0
    · rw [if_pos c] at ih
      exact ⟨fun c' => absurd c (p3.mp c'), fun _ => ih⟩
    · rw [if_neg c] at ih
      exact ⟨fun _ => ih, fun c' => absurd (p3.mpr c) c'⟩
  · intro m1 f1
    refine w300_3 ?_
    simp (disch := omega) only [smg_at, ix_n32, h6, n32_add]
    exact ⟨fun _ => h m1 f1, fun c => absurd ((n32_le (by omega) (by omega)).mpr (by omega)) c⟩
theorem p_bestSwap {v : Int32} {N : Nat} (h : CPL m N) : PRI (D + 12) 135 300 [vR 10 0, vI v] [vR 11 283, vI v] mpSPA m N := by
  unfold PRI
  rcases stand_cases h v with ⟨h1, h2⟩ | ⟨h1, h2, h3, h4⟩ | ⟨h1, h2, hS, s, hs, rfl, h69, h4⟩
  · refine w135_0 ⟨fun _ => ?_, fun c => absurd h1 c⟩
    refine w300_0 (s242 ?_)
    rw [h2]
    exact ⟨fun _ => ⟨⟨um_eq _ _ _ _, by decide, by decide⟩, CPL_th h⟩, fun c => absurd rfl c⟩
  · have rb : VI (D + 12) 300 [vR 11 283, vI v] m (fun _ m2 => (m2 283 0 = n32 (mpSPA 2) ∧ 1 ≤ mpSPA 2 ∧ mpSPA 2 ≤ 3) ∧ CPL m2 N) (fun _ _ => False) := by
      refine w300_0 (s242 ?_)
      rw [h2, h4]
      exact ⟨fun _ => ⟨⟨um_eq _ _ _ _, by decide, by decide⟩, CPL_th h⟩, fun c => absurd rfl c⟩
    refine w135_0 ⟨fun c => absurd (h1.symm.trans c) n01, fun _ => ⟨fun _ => rb, fun c => ⟨fun c2 => ?_, fun _ => rb⟩⟩⟩
    rcases h3 with h3 | h3
    · exact absurd h3 c
    · exact absurd c2 h3
  · obtain ⟨r1, r2, r3, T, hT, si⟩ := hS
    have w := si.w
    have a2 := w.nb
    have a4 := w.ns
    obtain ⟨x1, x2⟩ := fin1 h (show m 284 = m 284 from rfl)
    refine w135_0 ⟨fun c => absurd (h1.symm.trans c) n01, fun _ => ⟨fun c => absurd ((n32_lt (by omega) (by omega)).mp c) (by omega), fun _ => ⟨fun _ => ?_, fun c => absurd (by rw [h69]; exact (n32_lt (by omega) (by omega)).mpr hs) c⟩⟩⟩
    refine s161 w r1 r3 hs ?_
    intro m1 hT1 fd
    have rt1 := RT_fd (r := 278) r3 fd (Or.inr (by omega))
    refine s40 w hT1 rt1 hs ?_
    refine s68l w (RS_fd r1 fd (Or.inr (by omega))) ?_
    intro m2 rl fl
    have fr : FLR m m2 := fd.r.tr fl.r
    refine t135 w hs rl r3 fr ?_
    intro m3 fr3
    have f := QF_flr fr3
    have hc : CPL m3 N := CPL_fr h (Nat.le_refl _) f
    have hg : m3 284 = m 284 := funext fun k => f _ _ (by unfold REL; omega)
    have h2' : m3 283 6 = n32 1 := by rw [f _ _ (by unfold REL; omega)]; exact h2
    refine w300_0 (s242 ?_)
    rw [h2', hg, h4, code0]
    refine ⟨fun c => absurd c n01, fun _ => ?_⟩
    rw [st0 hg]
    refine s224 w hs ?_
    intro m4 f4
    refine t300 w hs f4 ?_
    intro m5 f5
    obtain ⟨z1, z2⟩ := fin0 hc hg f5
    exact ⟨⟨rfl, z1⟩, z2⟩

end S88
