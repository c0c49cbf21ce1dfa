/-! X's call is one of the machine's calls. -/
theorem xini_ret : ((List.range 398).all fun y => !(xinit y) || (yret y).isNone) = true := by decide +kernel
def xirc (y : Nat) : Bool := match xmt y with
  | some (_, _, rc, _, _, _) => !(rc == 99)
  | none => true
theorem xini_rcs : ((List.range 398).all fun y => !(xinit y) || xirc y) = true := by decide +kernel
theorem xini_rc {y na ml rc rt : Nat} {hd : List (Nat × Nat × Nat)} {bs : List XB} (h9 : y < 398) (hv : xinit y = true) (hm : xmt y = some (na, ml, rc, rt, hd, bs)) : ¬ rc = 99 := by
  have h1 := List.all_eq_true.mp xini_rcs y (List.mem_range.mpr h9)
  rw [hv] at h1
  unfold xirc at h1
  rw [hm] at h1
  simpa using h1
theorem yr_lt {y : Nat} (h : yr y = true) : y < 398 := by
  unfold yr at h
  rw [Bool.and_eq_true, decide_eq_true_eq] at h
  exact h.1
theorem xup_0 : xup 220 = true := by decide +kernel
theorem xup_1 : xup 221 = true := by decide +kernel
theorem xini_0 : xinit 220 = false := by decide +kernel
theorem xini_1 : xinit 221 = false := by decide +kernel
theorem xsta_0 : xstat 220 = false := by decide +kernel
theorem xsta_1 : xstat 221 = false := by decide +kernel
theorem xln_of {y : Nat} (h0 : y ≠ 220) (h1 : y ≠ 221) : xln y = y := by unfold xln; rw [if_neg h0, if_neg h1]
theorem xln_up {y : Nat} (h : xup y = false) : xln y = y := xln_of (fun q => by rw [q, xup_0] at h; cases h) (fun q => by rw [q, xup_1] at h; cases h)
theorem xln_ini {y : Nat} (h : xinit y = true) : xln y = y := xln_of (fun q => by rw [q, xini_0] at h; cases h) (fun q => by rw [q, xini_1] at h; cases h)
theorem xln_sta {y : Nat} (h : xstat y = true) : xln y = y := xln_of (fun q => by rw [q, xsta_0] at h; cases h) (fun q => by rw [q, xsta_1] at h; cases h)
theorem yok_spec {y : Nat} (h : xyok y = true) : ∃ (na ml rc rt : Nat) (bs : List XB), xmt y = some (na, ml, rc, rt, [], bs) ∧ ml = yml y ∧ ml ≤ 21 ∧ xrtk rt (yret y) = true ∧ (ypcs y)[0]? = some 0 ∧ (ypcs y).length = bs.length ∧
    (((ypcs y).zip bs).all fun q => xchk (yown y) ml (xinit y) (ycc y) (ypcs y) q.1 q.2.2) = true ∧ yhh y = [] ∧
    ((rc < 15 ∧ xow rc = (xnm y).cls) ∨ (rc = 30 ∧ (xnm y).cls = "java/lang/String") ∨ rc = 99 ∨ (rc = 12 ∧ (xup y = true ∨ xsu y = true ∨ xinit y = true)) ∨ (rc = 13 ∧ xinit y = true) ∨ (rc = 31 ∧ (xnm y).cls = "jdk/internal/misc/Unsafe")) := by
  unfold xyok at h
  cases hm : xmt y with
  | none => rw [hm] at h; cases h
  | some z =>
    obtain ⟨na, ml, rc, rt, hd, bs⟩ := z
    rw [hm] at h
    dsimp only at h
    simp only [Bool.and_eq_true, beq_iff_eq, decide_eq_true_eq, List.isEmpty_iff] at h
    obtain ⟨⟨⟨⟨⟨⟨⟨⟨w1, w2⟩, w3⟩, w4⟩, w5⟩, w6⟩, w7⟩, w8⟩, w9⟩ := h
    subst w7
    refine ⟨na, ml, rc, rt, bs, rfl, w1, w2, w3, w4, w5, w6, w8, ?_⟩
    unfold xrc at w9
    simp only [Bool.and_eq_true, Bool.or_eq_true, beq_iff_eq, decide_eq_true_eq] at w9
    rcases w9 with ((((a | a) | a) | a) | a) | a
    · exact Or.inl a
    · exact Or.inr (Or.inl a)
    · exact Or.inr (Or.inr (Or.inl a))
    · refine Or.inr (Or.inr (Or.inr (Or.inl ⟨a.1, ?_⟩)))
      rcases a.2 with (b | b) | b
      · exact Or.inl b
      · exact Or.inr (Or.inl b)
      · exact Or.inr (Or.inr b)
    · exact Or.inr (Or.inr (Or.inr (Or.inr (Or.inl a))))
    · exact Or.inr (Or.inr (Or.inr (Or.inr (Or.inr a))))
section XRuns
variable {p : Program} {l : Launch} {e : Env} {R : Room} {s : State} {m : MethodId} {args : Array Value} {below : List Frame} {meth : Method} {c : Code} {D : va_G} {cA : Nat → ClassId} {A : Nat → Prop} {sv : Value} {adc ad : Nat → Nat} {own : Nat} {cc : ByteArray} {nL : Nat} {nm : MethodName} {pc : Nat} {H : Heap} {locs : List Loc} {lsA : Array Slot} {cells slots : Nat} {K : XK}
variable {y k d : Nat} {st : List Value} {σ σ1 : XS} {v : Option Value} {na ml rc rt : Nat} {bs : List XB}
/-- a stack whose topmost values are the call's -/
theorem xst_split {na : Nat} {st As0 : List Value} {b : Nat} (hasr : (st.take na).reverse = .ref b :: As0) : st = As0.reverse ++ .ref b :: st.drop na := by
  have h2 : st.take na = As0.reverse ++ [.ref b] := by
    have := congrArg List.reverse hasr
    rw [List.reverse_reverse] at this
    rw [this, List.reverse_cons]
  have h3 := List.take_append_drop na st
  rw [h2] at h3
  rw [List.append_assoc] at h3
  exact h3.symm
theorem xrefd {rc : Nat} {S : List XC} {vs : List Value} (h99 : rc ≠ 99) (h : xrecv rc S vs = true) : ∃ (b : Nat) (As0 : List Value), vs = .ref b :: As0 := by
  cases vs with
  | nil => unfold xrecv at h; simp [h99] at h
  | cons v0 As0 => cases v0 with
    | ref b => exact ⟨b, As0, rfl⟩
    | _ => unfold xrecv at h; simp [h99] at h
/-- the receiver of kind rc -/
theorem xrecv_at (C : xCx p s m args meth c D cA A sv adc own cc nL nm) (hw : xWf D cA A s adc ad σ H locs) {rc b : Nat} {As0 : List Value} (h99 : rc ≠ 99) (hrv : xrecv rc σ.1 (.ref b :: As0) = true) :
    ∃ cellB : Cell, H[ad b]? = some cellB ∧ cellB.vm.isStatics = false ∧ ((rc < 15 ∧ s.vm.findClass (xow rc) = some cellB.cls) ∨ (rc = 30 ∧ s.vm.findClass "java/lang/String" = some cellB.cls) ∨ (rc = 31 ∧ s.vm.findClass "jdk/internal/misc/Unsafe" = some cellB.cls)) := by
  obtain ⟨hx, hb, hml, hown, hts, hK, hA, hE, hin⟩ := C
  unfold xrecv at hrv
  dsimp only at hrv
  rw [if_neg h99] at hrv
  cases hS : σ.1[b]? with
  | some x =>
    obtain ⟨ci, n, rs⟩ := x
    rw [hS] at hrv
    dsimp only at hrv
    simp only [Bool.and_eq_true, Bool.or_eq_true, beq_iff_eq, decide_eq_true_eq] at hrv
    have hlt : ci < 15 := by omega
    obtain ⟨Cn, T, N, ty, x1, x2, -⟩ := xcls hlt
    have hat := xws_at (ad := ad) (cA := cA) hS
    rw [xcell_o hlt] at hat
    obtain ⟨cellB, r1, r2, r3⟩ := va_recv hK hw.1 x1 hat
    dsimp only at r3
    rw [x2] at r3
    refine ⟨cellB, r1, r2, ?_⟩
    rcases hrv with ⟨rfl, h2⟩ | ⟨rfl, rfl⟩
    · exact Or.inl ⟨h2, r3⟩
    · exact Or.inr (Or.inl ⟨rfl, r3⟩)
  | none =>
    rw [hS] at hrv
    simp only [Bool.and_eq_true, Bool.or_eq_true, beq_iff_eq, decide_eq_true_eq] at hrv
    rcases hrv with ⟨⟨rfl, h1⟩, h2⟩ | ⟨rfl, rfl⟩
    · obtain ⟨j, hj⟩ := Nat.exists_eq_add_of_le (show (1000010 : Nat) ≤ b from h1)
      have h3 : j < 18 := by have h4 : (1000010 + j : Nat) < 1000028 := hj ▸ h2; omega
      obtain ⟨cellB, r1, r2, r3, -⟩ := (hE.2.2.2.2.2.1.1 j h3).1.kept hw.2.2.1.2.1
      have hk2 : ad b = adc (1000010 + j) := by rw [hw.2.2.2 b (Nat.le_trans (by decide) h1), hj]
      exact ⟨cellB, by rw [hk2]; exact r1, r2, Or.inr (Or.inl ⟨rfl, r3⟩)⟩
    · obtain ⟨-, -, -, ⟨-, -, -, -, hU, -⟩, -⟩ := hE
      obtain ⟨cellB, r1, r2, r3, -⟩ := hU.kept hw.2.2.1.2.1
      exact ⟨cellB, by rw [hw.2.2.2 1000004 (by decide)]; exact r1, r2, Or.inr (Or.inr ⟨rfl, r3⟩)⟩
theorem x_runV (C : xCx p s m args meth c D cA A sv adc own cc nL nm) (hsc : xSc K adc A s) (hw : xWf D cA A s adc ad σ H locs) (hy : xyok y = true) (hyw : xyw y = true) (hm : xmt y = some (na, ml, rc, rt, [], bs)) (hv : xvirt y = true) (hup : xup y = false) (hsu : xsu y = false)
    (hM : xMt K l D cA A sv adc ad d y (st.take na).reverse σ v σ1) (hR : d + 2 ≤ R.frames ∧ (d + 2) * 40 ≤ R.locals) (hlink : Cond.methodLink (xow own) k (xnm (xln y)) ∈ xWS) (hlen : na ≤ st.length) (hrv : xrecv rc σ.1 (st.take na).reverse = true) (hcat : xcat (st.drop na) ≤ 8)
    (hdg : decode cc pc = .ok (.invokevirtual k, 3)) (hls : lsA.size = nL) (hf : cells + (nC σ1 - nC σ) ≤ R.cells ∧ slots + (nS σ1 - nS σ) ≤ R.slots) :
    ∃ aa, va_Run p l e R s m args below meth c H locs cells slots (nC σ1 - nC σ) (nS σ1 - nS σ) (F0 m pc lsA (st.map (xre ad sv))) ((st.drop na).map (xre ad sv)) (xQc D cA A sv adc ad σ σ1 v aa) A := by
  obtain ⟨na1, ml1, rc1, rt1, bs1, hm1, v1, v2, v3, v4, v5, v6, v7, v10⟩ := yok_spec hy
  rw [hm] at hm1; cases hm1
  obtain ⟨na1, ml1, rc1, rt1, hd1, bs1, hm1, w1, w2, w3, w4, w5, w6, w7, w8, w9⟩ := yw_spec hyw
  rw [hm] at hm1; cases hm1
  have C0 := C
  obtain ⟨hx, hb, hml, hown, hts, hK, hA, hE, hin⟩ := C
  have hsv := hE.2.2.2.2.2.2.2.2.2.2.2.1
  rw [xln_up hup] at hlink
  have hvi : rc ≠ 99 ∧ xinit y = false := by
    unfold xvirt at hv; rw [hm] at hv; dsimp only at hv; simpa using hv
  have h99 := hvi.1
  have hns : xstat y = false := by rw [w9]; simp [hvi.1]
  have hna : (st.take na).reverse.length = na := by rw [List.length_reverse, List.length_take]; omega
  obtain ⟨b, As0, hasr⟩ := xrefd h99 hrv
  have hst := xst_split hasr
  rw [hasr] at hrv hM hna
  have hln : (As0.map (xre ad sv)).length = na - 1 := by
    rw [List.length_map]; simp only [List.length_cons] at hna; omega
  have hstk : (F0 m pc lsA (st.map (xre ad sv))).stack = (As0.map (xre ad sv)).reverse ++ .ref (ad b) :: (st.drop na).map (xre ad sv) := by
    show st.map (xre ad sv) = _
    conv => lhs; rw [hst]
    rw [List.map_append, List.map_cons, List.map_reverse]
    rfl
  obtain ⟨cellB, r1, r2, r3⟩ := xrecv_at C0 hw h99 hrv
  have hcl : s.vm.findClass (xnm y).cls = some cellB.cls := by
    rcases v10 with ⟨q1, q2⟩ | ⟨q1, q2⟩ | q1 | ⟨q1, q2⟩ | ⟨q1, q2⟩ | ⟨q1, q2⟩
    · rcases r3 with ⟨-, r⟩ | ⟨r, -⟩ | ⟨r, -⟩
      · rw [← q2]; exact r
      · omega
      · omega
    · rcases r3 with ⟨r, -⟩ | ⟨-, r⟩ | ⟨r, -⟩
      · omega
      · rw [q2]; exact r
      · omega
    · exact absurd q1 h99
    · rcases q2 with q2 | q2 | q2
      · rw [hup] at q2; cases q2
      · rw [hsu] at q2; cases q2
      · rw [hvi.2] at q2; cases q2
    · rw [hvi.2] at q2; cases q2
    · rcases r3 with ⟨r, -⟩ | ⟨r, -⟩ | ⟨-, r⟩
      · omega
      · omega
      · rw [q2]; exact r
  rw [hns] at w2 w7
  have cb : CallB R s args (xow own) k (xnm y) (ycc y) (yml y) (yret y) (xwsy y) (xrm d σ σ1) (nC σ1 - nC σ) (nS σ1 - nS σ) (na - 1) :=
    callB_of (Ts := xWS) (na - 1) hts (xwsy_good y w1) rfl rfl rfl (hts _ w4) (hts _ hlink) ⟨w6.1, w6.2, w7⟩ ⟨by show d + 1 + 1 ≤ _; omega, by show 8 + (yml y + 11) + (d + 1) * 40 ≤ _; omega⟩
  exact ⟨_, va_runV (Ts := xWS) ⟨hx, hb, hml, hown, hts⟩ hM ⟨cb, hts _ (by simpa using w2), hts _ (w3 hvi.1 hvi.2 hup hsu)⟩ (b := ad b) (As := As0.map (xre ad sv)) ⟨xblind, ⟨cellB, r1, r2, hcl⟩, fun U hU hWU => ⟨rfl, xpres C0 hsc hw hU hWU⟩⟩ rfl hln hls hstk (lv_room (by rw [xcat_re hsv]; exact hcat)) hdg hf⟩
/-- what a builder's method of the upper class is named and selected as -/
theorem xup_spec {y : Nat} (h : xup y = true) : Cond.selects RSB (xnm (xln y)) (xnm y) ∈ xWS ∧ Cond.sameMethod RAB RAB (xnm (xln y)).name (xnm (xln y)).desc ∈ xWS ∧ (xnm (xln y)).cls = RAB := by
  unfold xup at h
  obtain ⟨e, he, h1⟩ := List.any_eq_true.mp h
  rw [beq_iff_eq] at h1
  subst h1
  have h2 := List.all_eq_true.mp xUps_ok e he
  simp only [Bool.and_eq_true, beq_iff_eq] at h2
  exact ⟨xat_in h2.1.1, xat_in h2.1.2, h2.2⟩
theorem xsu_spec {y : Nat} (h : xsu y = true) : Cond.sameMethod RAB RAB (xnm y).name (xnm y).desc ∈ xWS ∧ (xnm y).cls = RAB ∧ (xnm y).name ≠ "<init>" := by
  unfold xsu at h
  obtain ⟨e, he, h1⟩ := List.any_eq_true.mp h
  rw [beq_iff_eq] at h1
  subst h1
  have h2 := List.all_eq_true.mp xSus_ok e he
  simp only [Bool.and_eq_true, beq_iff_eq, Bool.not_eq_true', beq_eq_false_iff_ne] at h2
  exact ⟨xat_in h2.1.1, h2.1.2, h2.2⟩
def xrc9 (y : Nat) : Bool := match xmt y with
  | some (_, _, rc, _, _, _) => rc == 12
  | none => false
theorem xup_rcs : (xUps.all fun e => xrc9 e.1 && decide ((xnm (xln e.1)).desc = (xnm e.1).desc ∨ e.1 = 220) && yr (xln e.1)) = true := by decide +kernel
theorem xsu_rcs : (xSus.all fun e => xrc9 e.1) = true := by decide +kernel
theorem xup_rc {y na ml rc rt : Nat} {hd : List (Nat × Nat × Nat)} {bs : List XB} (h : xup y = true) (hm : xmt y = some (na, ml, rc, rt, hd, bs)) : rc = 12 ∧ yr (xln y) = true := by
  unfold xup at h
  obtain ⟨e, he, h1⟩ := List.any_eq_true.mp h
  rw [beq_iff_eq] at h1
  subst h1
  have h2 := List.all_eq_true.mp xup_rcs e he
  simp only [Bool.and_eq_true] at h2
  refine ⟨?_, h2.2⟩
  have h3 := h2.1.1
  unfold xrc9 at h3
  rw [hm] at h3
  simpa using h3
theorem xsu_rc {y na ml rc rt : Nat} {hd : List (Nat × Nat × Nat)} {bs : List XB} (h : xsu y = true) (hm : xmt y = some (na, ml, rc, rt, hd, bs)) : rc = 12 := by
  unfold xsu at h
  obtain ⟨e, he, h1⟩ := List.any_eq_true.mp h
  rw [beq_iff_eq] at h1
  subst h1
  have h2 := List.all_eq_true.mp xsu_rcs e he
  unfold xrc9 at h2
  rw [hm] at h2
  simpa using h2
theorem xlens_d : (xUps.all fun e => decide ((parseMethodDescriptor (xnm (xln e.1)).desc).map (fun d => d.parameters.length) = (parseMethodDescriptor (xnm e.1).desc).map (fun d => d.parameters.length))) = true := by decide +kernel
theorem xlen_d {y : Nat} (h : xup y = true) : (parseMethodDescriptor (xnm (xln y)).desc).map (fun d => d.parameters.length) = (parseMethodDescriptor (xnm y).desc).map (fun d => d.parameters.length) := by
  unfold xup at h
  obtain ⟨e, he, h1⟩ := List.any_eq_true.mp h
  rw [beq_iff_eq] at h1
  subst h1
  exact of_decide_eq_true (List.all_eq_true.mp xlens_d e he)
theorem xinst_of {y : Nat} (h : xyw y = true) (hs : xstat y = false) : Cond.instanceMethod (xnm y) ∈ xWS ∧ xhead y ∈ xWS := by
  obtain ⟨na1, ml1, rc1, rt1, hd1, bs1, hm1, w1, w2, -⟩ := yw_spec h
  rw [hs] at w2
  exact ⟨by simpa using w2, w1⟩
theorem xlns : (xUps.all fun e => !(xstat (xln e.1)) && (xnm (xln e.1)).cls == RAB) = true := by decide +kernel
theorem xln_ns {y : Nat} (h : xup y = true) : xstat (xln y) = false := by
  unfold xup at h
  obtain ⟨e, he, h1⟩ := List.any_eq_true.mp h
  rw [beq_iff_eq] at h1
  subst h1
  have h2 := List.all_eq_true.mp xlns e he
  simp only [Bool.and_eq_true, Bool.not_eq_true'] at h2
  exact h2.1
theorem mname_eta (x : MethodName) {c : String} (h : x.cls = c) : (⟨c, x.name, x.desc⟩ : MethodName) = x := by subst h; rfl
theorem x_runU (C : xCx p s m args meth c D cA A sv adc own cc nL nm) (hsc : xSc K adc A s) (hw : xWf D cA A s adc ad σ H locs) (hy : xyok y = true) (hyw : xyw y = true) (hm : xmt y = some (na, ml, rc, rt, [], bs)) (hv : xvirt y = true) (hup : xup y = true) (hyl : xyw (xln y) = true)
    (hM : xMt K l D cA A sv adc ad d y (st.take na).reverse σ v σ1) (hR : d + 2 ≤ R.frames ∧ (d + 2) * 40 ≤ R.locals) (hlink : Cond.methodLink (xow own) k (xnm (xln y)) ∈ xWS) (hlen : na ≤ st.length) (hrv : xrecv rc σ.1 (st.take na).reverse = true) (hcat : xcat (st.drop na) ≤ 8)
    (hdg : decode cc pc = .ok (.invokevirtual k, 3)) (hls : lsA.size = nL) (hf : cells + (nC σ1 - nC σ) ≤ R.cells ∧ slots + (nS σ1 - nS σ) ≤ R.slots) :
    ∃ aa, va_Run p l e R s m args below meth c H locs cells slots (nC σ1 - nC σ) (nS σ1 - nS σ) (F0 m pc lsA (st.map (xre ad sv))) ((st.drop na).map (xre ad sv)) (xQc D cA A sv adc ad σ σ1 v aa) A := by
  obtain ⟨na1, ml1, rc1, rt1, bs1, hm1, v1, v2, v3, v4, v5, v6, v7, v10⟩ := yok_spec hy
  rw [hm] at hm1; cases hm1
  obtain ⟨na1, ml1, rc1, rt1, hd1, bs1, hm1, w1, w2, w3, w4, w5, w6, w7, w8, w9⟩ := yw_spec hyw
  rw [hm] at hm1; cases hm1
  have C0 := C
  obtain ⟨hx, hb, hml, hown, hts, hK, hA, hE, hin⟩ := C
  have hsv := hE.2.2.2.2.2.2.2.2.2.2.2.1
  have hvi : rc ≠ 99 ∧ xinit y = false := by
    unfold xvirt at hv; rw [hm] at hv; dsimp only at hv; simpa using hv
  have h99 := hvi.1
  have hns : xstat y = false := by rw [w9]; simp [hvi.1]
  have hna : (st.take na).reverse.length = na := by rw [List.length_reverse, List.length_take]; omega
  obtain ⟨b, As0, hasr⟩ := xrefd h99 hrv
  have hst := xst_split hasr
  rw [hasr] at hrv hM hna
  have hln : (As0.map (xre ad sv)).length = na - 1 := by
    rw [List.length_map]; simp only [List.length_cons] at hna; omega
  have hstk : (F0 m pc lsA (st.map (xre ad sv))).stack = (As0.map (xre ad sv)).reverse ++ .ref (ad b) :: (st.drop na).map (xre ad sv) := by
    show st.map (xre ad sv) = _
    conv => lhs; rw [hst]
    rw [List.map_append, List.map_cons, List.map_reverse]
    rfl
  obtain ⟨cellB, r1, r2, r3⟩ := xrecv_at C0 hw h99 hrv
  have h12 := (xup_rc hup hm).1
  have hcl : s.vm.findClass RSB = some cellB.cls := by
    rcases r3 with ⟨-, r⟩ | ⟨r, -⟩ | ⟨r, -⟩
    · rw [h12] at r; exact r
    · omega
    · omega
  rw [hns] at w2 w7
  obtain ⟨u1, u2, u3⟩ := xup_spec hup
  obtain ⟨i1, i2⟩ := xinst_of hyl (xln_ns hup)
  have hG := xwsy_good y w1
  have cb : va_CU R s args (xow own) RSB RAB k (xnm (xln y)) (xnm y) (ycc y) (yml y) (yret y) (xwsy y) (xrm d σ σ1) (nC σ1 - nC σ) (nS σ1 - nS σ) (na - 1) :=
    ⟨⟨rfl, rfl, by show d + 1 + 1 ≤ _; omega, by show 8 + (yml y + 11) + (d + 1) * 40 ≤ _; omega, pay_in hts hG, List.mem_cons_self⟩, hts _ w1, hts _ w4, ⟨by decide, by decide⟩, (fun sig h => by
      have h2 := (xlen_d hup).trans w7
      rw [h] at h2
      exact (Option.some.inj h2).symm), hts _ hlink, by rw [u3]; exact hts _ u2, by rw [mname_eta _ u3]; exact va_Decl.of (hts _ i1) (hts _ i2), hts _ u1, hts _ (by simpa using w2)⟩
  exact ⟨_, va_runU (Ts := xWS) ⟨hx, hb, hml, hown, hts⟩ hM cb (b := ad b) (As := As0.map (xre ad sv)) ⟨xblind, ⟨cellB, r1, r2, hcl⟩, fun U hU hWU => ⟨rfl, xpres C0 hsc hw hU hWU⟩⟩ rfl hln hls hstk (lv_room (by rw [xcat_re hsv]; exact hcat)) hdg hf⟩
theorem x_runSU (C : xCx p s m args meth c D cA A sv adc own cc nL nm) (hsc : xSc K adc A s) (hw : xWf D cA A s adc ad σ H locs) (hy : xyok y = true) (hyw : xyw y = true) (hm : xmt y = some (na, ml, rc, rt, [], bs)) (hsu : xsu y = true) (hi : xinit y = false)
    (hM : xMt K l D cA A sv adc ad d y (st.take na).reverse σ v σ1) (hR : d + 2 ≤ R.frames ∧ (d + 2) * 40 ≤ R.locals) (howr : xow own = RSB) (hlink : Cond.methodLink (xow own) k (xnm y) ∈ xWS) (hlen : na ≤ st.length) (hrv : xrecv rc σ.1 (st.take na).reverse = true) (hcat : xcat (st.drop na) ≤ 8)
    (hdg : decode cc pc = .ok (.invokespecial k, 3)) (hls : lsA.size = nL) (hf : cells + (nC σ1 - nC σ) ≤ R.cells ∧ slots + (nS σ1 - nS σ) ≤ R.slots) :
    ∃ aa, va_Run p l e R s m args below meth c H locs cells slots (nC σ1 - nC σ) (nS σ1 - nS σ) (F0 m pc lsA (st.map (xre ad sv))) ((st.drop na).map (xre ad sv)) (xQc D cA A sv adc ad σ σ1 v aa) A := by
  obtain ⟨na1, ml1, rc1, rt1, bs1, hm1, v1, v2, v3, v4, v5, v6, v7, v10⟩ := yok_spec hy
  rw [hm] at hm1; cases hm1
  obtain ⟨na1, ml1, rc1, rt1, hd1, bs1, hm1, w1, w2, w3, w4, w5, w6, w7, w8, w9⟩ := yw_spec hyw
  rw [hm] at hm1; cases hm1
  have C0 := C
  obtain ⟨hx, hb, hml, hown, hts, hK, hA, hE, hin⟩ := C
  have hsv := hE.2.2.2.2.2.2.2.2.2.2.2.1
  have h12 := xsu_rc hsu hm
  have h99 : rc ≠ 99 := by omega
  have hns : xstat y = false := by rw [w9]; simp [h99]
  have hna : (st.take na).reverse.length = na := by rw [List.length_reverse, List.length_take]; omega
  obtain ⟨b, As0, hasr⟩ := xrefd h99 hrv
  have hst := xst_split hasr
  rw [hasr] at hrv hM hna
  have hln : (As0.map (xre ad sv)).length = na - 1 := by
    rw [List.length_map]; simp only [List.length_cons] at hna; omega
  have hstk : (F0 m pc lsA (st.map (xre ad sv))).stack = (As0.map (xre ad sv)).reverse ++ .ref (ad b) :: (st.drop na).map (xre ad sv) := by
    show st.map (xre ad sv) = _
    conv => lhs; rw [hst]
    rw [List.map_append, List.map_cons, List.map_reverse]
    rfl
  obtain ⟨cellB, r1, r2, r3⟩ := xrecv_at C0 hw h99 hrv
  have hcl : s.vm.findClass RSB = some cellB.cls := by
    rcases r3 with ⟨-, r⟩ | ⟨r, -⟩ | ⟨r, -⟩
    · rw [h12] at r; exact r
    · omega
    · omega
  rw [hns] at w2 w7
  obtain ⟨u2, u3, u4⟩ := xsu_spec hsu
  have hG := xwsy_good y w1
  have hat : ClassAt s RSB (D.1 12) := (hK.1 12 _ (show vwCl[12]? = some (RJ4, TJ4, 4) from rfl)).2
  have cb : va_CS R s args (xow own) k (xnm y) (ycc y) (yml y) (yret y) (xwsy y) (xrm d σ σ1) (nC σ1 - nC σ) (nS σ1 - nS σ) (na - 1) :=
    ⟨⟨rfl, rfl, by show d + 1 + 1 ≤ _; omega, by show 8 + (yml y + 11) + (d + 1) * 40 ≤ _; omega, pay_in hts hG, List.mem_cons_self⟩, hts _ hlink, by rw [u3]; exact hts _ u2, by rw [howr, u3]; exact hts _ xsuper, hts _ (by simpa using w2), hts _ w4, hts _ w1, u4, (fun sig h => by
      have h2 := w7
      rw [h] at h2
      exact (Option.some.inj h2).symm)⟩
  exact ⟨_, va_runSU (Ts := xWS) hat ⟨hx, hb, hml, hown, hts⟩ hM cb (b := ad b) (As := As0.map (xre ad sv)) ⟨xblind, ⟨cellB, r1, r2, hcl⟩, fun U hU hWU => ⟨rfl, xpres C0 hsc hw hU hWU⟩⟩ rfl hln hls hstk (lv_room (by rw [xcat_re hsv]; exact hcat)) hdg hf⟩
theorem x_runI (C : xCx p s m args meth c D cA A sv adc own cc nL nm) (hsc : xSc K adc A s) (hw : xWf D cA A s adc ad σ H locs) (hy : xyok y = true) (hyw : xyw y = true) (hm : xmt y = some (na, ml, rc, rt, [], bs)) (hy9 : y < 398) (hv : xinit y = true)
    (hM : xMt K l D cA A sv adc ad d y (st.take na).reverse σ v σ1) (hR : d + 2 ≤ R.frames ∧ (d + 2) * 40 ≤ R.locals) {nest : Nat} (hfd : fdM own k = some (y, nest)) (hlen : na ≤ st.length) (hrv : xrecv rc σ.1 (st.take na).reverse = true) (hcat : xcat (st.drop na) ≤ 8)
    (hdg : decode cc pc = .ok (.invokespecial k, 3)) (hls : lsA.size = nL) (hf : cells + (nC σ1 - nC σ) ≤ R.cells ∧ slots + (nS σ1 - nS σ) ≤ R.slots) :
    ∃ aa, va_Run p l e R s m args below meth c H locs cells slots (nC σ1 - nC σ) (nS σ1 - nS σ) (F0 m pc lsA (st.map (xre ad sv))) ((st.drop na).map (xre ad sv)) (xQc D cA A sv adc ad σ σ1 v aa) A := by
  obtain ⟨na1, ml1, rc1, rt1, bs1, hm1, v1, v2, v3, v4, v5, v6, v7, v10⟩ := yok_spec hy
  rw [hm] at hm1; cases hm1
  obtain ⟨na1, ml1, rc1, rt1, hd1, bs1, hm1, w1, w2, w3, w4, w5, w6, w7, w8, w9⟩ := yw_spec hyw
  rw [hm] at hm1; cases hm1
  have C0 := C
  obtain ⟨hx, hb, hml, hown, hts, hK, hA, hE, hin⟩ := C
  have hsv := hE.2.2.2.2.2.2.2.2.2.2.2.1
  have h99 : rc ≠ 99 := xini_rc hy9 hv hm
  have hns : xstat y = false := by rw [w9, hv]; simp
  have hret : yret y = none := by
    have h1 := List.all_eq_true.mp xini_ret y (List.mem_range.mpr hy9)
    rw [hv] at h1
    simpa using h1
  have hnm : (xnm y).name = "<init>" := by unfold xinit at hv; simpa using hv
  rw [hns] at w2 w7
  have hna : (st.take na).reverse.length = na := by rw [List.length_reverse, List.length_take]; omega
  obtain ⟨b, As0, hasr⟩ := xrefd h99 hrv
  have hst := xst_split hasr
  rw [hasr] at hrv hM hna
  have hln : (As0.map (xre ad sv)).length = na - 1 := by
    rw [List.length_map]; simp only [List.length_cons] at hna; omega
  have hstk : (F0 m pc lsA (st.map (xre ad sv))).stack = (As0.map (xre ad sv)).reverse ++ .ref (ad b) :: (st.drop na).map (xre ad sv) := by
    show st.map (xre ad sv) = _
    conv => lhs; rw [hst]
    rw [List.map_append, List.map_cons, List.map_reverse]
    rfl
  have hlk := fdM_ok hfd
  have hhd : xwsy y = Cond.code (xnm y) (ycc y) (yml y) none :: xWS := by unfold xwsy xhead; rw [hret]
  by_cases hn : nest = 0
  · rw [if_pos hn, xln_ini hv] at hlk
    have cb : CallB R s args (xow own) k (xnm y) (ycc y) (yml y) none (xwsy y) (xrm d σ σ1) (nC σ1 - nC σ) (nS σ1 - nS σ) (na - 1) :=
      callB_of (Ts := xWS) (na - 1) hts (xwsy_good y w1) hhd rfl rfl (hts _ w4) (hts _ hlk) ⟨w6.1, w6.2, w7⟩ ⟨by show d + 1 + 1 ≤ _; omega, by show 8 + (yml y + 11) + (d + 1) * 40 ≤ _; omega⟩
    exact ⟨_, va_runI (Ts := xWS) ⟨hx, hb, hml, hown, hts⟩ hM ⟨cb, hnm, hts _ (by simpa using w2)⟩ (b := ad b) (As := As0.map (xre ad sv)) ⟨xblind, fun U hU hWU => ⟨rfl, xpres C0 hsc hw hU hWU⟩⟩ rfl hln hls hstk (lv_room (by rw [xcat_re hsv]; exact hcat)) hdg hf⟩
  · rw [if_neg hn] at hlk
    have cb : va_CN R s args (xow own) k (xnm y) (xhost nest) (ycc y) (yml y) none (xwsy y) (xrm d σ σ1) (nC σ1 - nC σ) (nS σ1 - nS σ) (na - 1) :=
      va_cnB (Ts := xWS) (na - 1) hts (xwsy_good y w1) hhd rfl rfl (hE.2.2.2.2.2.2.2.2.2.1 _ hlk.1) (hts _ w4) ⟨w6.1, w6.2, w7⟩ ⟨by show d + 1 + 1 ≤ _; omega, by show 8 + (yml y + 11) + (d + 1) * 40 ≤ _; omega⟩
    exact ⟨_, va_runIN (Ts := xWS) ⟨hx, hb, hml, hown, hts⟩ hM ⟨cb, hnm, hts _ (by simpa using w2)⟩ (b := ad b) (As := As0.map (xre ad sv)) ⟨xblind, fun U hU hWU => ⟨rfl, xpres C0 hsc hw hU hWU⟩⟩ rfl hln hls hstk (lv_room (by rw [xcat_re hsv]; exact hcat)) hdg hf⟩
theorem x_runS (C : xCx p s m args meth c D cA A sv adc own cc nL nm) (hsc : xSc K adc A s) (hw : xWf D cA A s adc ad σ H locs) (hy : xyok y = true) (hyw : xyw y = true) (hm : xmt y = some (na, ml, rc, rt, [], bs)) (hv : xstat y = true)
    (hM : xMt K l D cA A sv adc ad d y (st.take na).reverse σ v σ1) (hR : d + 2 ≤ R.frames ∧ (d + 2) * 40 ≤ R.locals) {nest : Nat} (hfd : fdM own k = some (y, nest)) (hlen : na ≤ st.length) (hcat : xcat (st.drop na) ≤ 8)
    (hdg : decode cc pc = .ok (.invokestatic k, 3)) (hls : lsA.size = nL) (hf : cells + (nC σ1 - nC σ) ≤ R.cells ∧ slots + (nS σ1 - nS σ) ≤ R.slots) :
    ∃ aa, va_Run p l e R s m args below meth c H locs cells slots (nC σ1 - nC σ) (nS σ1 - nS σ) (F0 m pc lsA (st.map (xre ad sv))) ((st.drop na).map (xre ad sv)) (xQc D cA A sv adc ad σ σ1 v aa) A := by
  obtain ⟨na1, ml1, rc1, rt1, bs1, hm1, v1, v2, v3, v4, v5, v6, v7, v10⟩ := yok_spec hy
  rw [hm] at hm1; cases hm1
  obtain ⟨na1, ml1, rc1, rt1, hd1, bs1, hm1, w1, w2, w3, w4, w5, w6, w7, w8, w9⟩ := yw_spec hyw
  rw [hm] at hm1; cases hm1
  have C0 := C
  obtain ⟨hx, hb, hml, hown, hts, hK, hA, hE, hin⟩ := C
  have hsv := hE.2.2.2.2.2.2.2.2.2.2.2.1
  rw [hv] at w2 w7
  have hna : (st.take na).reverse.length = na := by rw [List.length_reverse, List.length_take]; omega
  have hln : ((st.take na).reverse.map (xre ad sv)).length = na := by rw [List.length_map]; exact hna
  have hstk : (F0 m pc lsA (st.map (xre ad sv))).stack = ((st.take na).reverse.map (xre ad sv)).reverse ++ (st.drop na).map (xre ad sv) := by
    show st.map (xre ad sv) = _
    rw [List.map_reverse, List.reverse_reverse, ← List.map_append, List.take_append_drop]
  have hpre : PreS s H (va_Pc ((st.take na).reverse.map (xre ad sv)) (xPre K D cA A sv adc ad σ)) ((st.take na).reverse.map (xre ad sv)) := ⟨xblind, fun U hU hWU => ⟨rfl, xpres C0 hsc hw hU hWU⟩⟩
  have hd7 : (xnm y).cls ≠ "java/lang/invoke/MethodHandle" ∧ (xnm y).cls ≠ "java/lang/invoke/VarHandle" ∧ (parseMethodDescriptor (xnm y).desc).map (fun d => d.parameters.length) = some na := ⟨w6.1, w6.2, w7⟩
  have hRR : (xrm d σ σ1).frames + 1 ≤ R.frames ∧ 8 + (yml y + 11) + (xrm d σ σ1).locals ≤ R.locals := ⟨by show d + 1 + 1 ≤ _; omega, by show 8 + (yml y + 11) + (d + 1) * 40 ≤ _; omega⟩
  have hlk := fdM_ok hfd
  by_cases hn : nest = 0
  · rw [if_pos hn, xln_sta hv] at hlk
    have cb : CallB R s args (xow own) k (xnm y) (ycc y) (yml y) (yret y) (xwsy y) (xrm d σ σ1) (nC σ1 - nC σ) (nS σ1 - nS σ) na :=
      callB_of (Ts := xWS) na hts (xwsy_good y w1) rfl rfl rfl (hts _ w4) (hts _ hlk) hd7 hRR
    exact ⟨_, va_runS (Ts := xWS) ⟨hx, hb, hml, hown, hts⟩ hM ⟨cb, hts _ (by simpa using w2)⟩ hpre rfl hln hls hstk (lv_room (by rw [xcat_re hsv]; exact hcat)) hdg hf⟩
  · rw [if_neg hn] at hlk
    have cb : va_CN R s args (xow own) k (xnm y) (xhost nest) (ycc y) (yml y) (yret y) (xwsy y) (xrm d σ σ1) (nC σ1 - nC σ) (nS σ1 - nS σ) na :=
      va_cnB (Ts := xWS) na hts (xwsy_good y w1) rfl rfl rfl (hE.2.2.2.2.2.2.2.2.2.1 _ hlk.1) (hts _ w4) hd7 hRR
    exact ⟨_, va_runSN (Ts := xWS) ⟨hx, hb, hml, hown, hts⟩ hM ⟨cb, hts _ (by simpa using w2), trivial⟩ hpre rfl hln hls hstk (lv_room (by rw [xcat_re hsv]; exact hcat)) hdg hf⟩
end XRuns
