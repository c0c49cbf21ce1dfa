/-! X's call is one of the machine's three calls. -/
theorem xini_ret : ((List.range 398).all fun y => !(xinit y) || (yret y).isNone) = true := by decide +kernel
def xirc (y : Nat) : Bool := match xmt y with
  | some (_, _, rc, _, _, _) => !(rc == 99)
  | none => true
theorem xini_rcs : ((List.range 398).all fun y => !(xinit y) || xirc y) = true := by decide +kernel
theorem xini_rc {y na ml rc rt : Nat} {hd : List (Nat × Nat × Nat)} {bs : List XB} (h9 : y < 398) (hv : xinit y = true) (hm : xmt y = some (na, ml, rc, rt, hd, bs)) : ¬ rc = 99 := by
  have h1 := List.all_eq_true.mp xini_rcs y (List.mem_range.mpr h9)
  rw [hv] at h1
  unfold xirc at h1
  rw [hm] at h1
  simpa using h1
theorem xnest_hh : (cpM.all fun e => e.2.2.2.1 == 0 || (yhh e.2.2.1).isEmpty) = true := by decide +kernel
theorem fdM_nest {own k y nest : Nat} (h : fdM own k = some (y, nest)) (hn : nest ≠ 0) : yhh y = [] := by
  unfold fdM at h
  cases hz : cpM.find? (fun e => e.1 == own && e.2.1 == k) with
  | none => rw [hz] at h; cases h
  | some e =>
    rw [hz] at h; cases h
    obtain ⟨h1, h2⟩ := find_in hz xnest_hh
    simp only [Bool.or_eq_true, beq_iff_eq, List.isEmpty_iff] at h1
    rcases h1 with h1 | h1
    · exact absurd h1 hn
    · exact h1
theorem yok_spec {y : Nat} (h : xyok y = true) : ∃ (na ml rc rt : Nat) (hd : List (Nat × Nat × Nat)) (bs : List XB), xmt y = some (na, ml, rc, rt, hd, bs) ∧ ml = yml y ∧ ml ≤ 60 ∧ xrtk rt (yret y) = true ∧ (ypcs y)[0]? = some 0 ∧ (ypcs y).length = bs.length ∧
    (((ypcs y).zip bs).all fun q => xchk (yown y) ml (xinit y) (ycc y) (ypcs y) (yhh y) q.1 q.2.2) = true ∧ hd.length = (yhh y).length ∧ (hd.zip (yhh y)).all (xhok (yown y) ml (ycc y) (ypcs y)) = true ∧ ((yhh y).isEmpty = true ∨ xstat y = true) ∧
    ((rc < 12 ∧ xow rc = (xnm y).cls) ∨ (rc = 30 ∧ (xnm y).cls = "java/lang/String") ∨ rc = 99) := by
  unfold xyok at h
  cases hm : xmt y with
  | none => rw [hm] at h; cases h
  | some z =>
    obtain ⟨na, ml, rc, rt, hd, bs⟩ := z
    rw [hm] at h
    dsimp only at h
    simp only [Bool.and_eq_true, Bool.or_eq_true, beq_iff_eq, decide_eq_true_eq] at h
    obtain ⟨⟨⟨⟨⟨⟨⟨⟨⟨w1, w2⟩, w3⟩, w4⟩, w5⟩, w6⟩, w7⟩, w8⟩, w9⟩, w10⟩ := h
    refine ⟨na, ml, rc, rt, hd, bs, rfl, w1, w2, w3, w4, w5, w6, w7, w8, w9, ?_⟩
    rcases w10 with (a | a) | a
    · exact Or.inl a
    · exact Or.inr (Or.inl a)
    · exact Or.inr (Or.inr a)
section XRuns
variable {p : Program} {l : Launch} {e : Env} {R : Room} {s : State} {m : MethodId} {args : Array Value} {below : List Frame} {meth : Method} {c : Code} {D : va_G} {cA : Nat → ClassId} {A : Nat → Prop} {sv : Value} {adc ad : Nat → Nat} {own : Nat} {cc : ByteArray} {nL : Nat} {nm : MethodName} {pc : Nat} {H : Heap} {locs : List Loc} {lsA : Array Slot} {cells slots : Nat}
variable {y k d : Nat} {st : List Value} {σ σ1 : XS} {r : XR} {na ml rc rt : Nat} {hd : List (Nat × Nat × Nat)} {bs : List XB}
theorem x_runV (C : xCx p s m args meth c D cA A sv adc own cc nL nm) (hw : xWf D cA A s adc ad σ H locs) (hy : xyok y = true) (hyw : xyw y = true) (hm : xmt y = some (na, ml, rc, rt, hd, bs)) (hv : xvirt y = true)
    (hM : xMt l D cA A sv adc ad d y (st.take na).reverse σ r σ1) (hR : d + 11 ≤ R.frames ∧ (d + 2) * 100 ≤ R.locals) (hlink : Cond.methodLink (xow own) k (xnm y) ∈ xWS) (hlen : na ≤ st.length) (hrv : xrecv rc σ.1 (st.take na).reverse = true) (hcat : xcat (st.drop na) ≤ 8)
    (hdg : decode cc pc = .ok (.invokevirtual k, 3)) (hls : lsA.size = nL) (hf : cells + (nC σ1 - nC σ) ≤ R.cells ∧ slots + (nS σ1 - nS σ) ≤ R.slots) :
    ∃ aa, vx_Run p l e R s m args below meth c H locs cells slots (nC σ1 - nC σ) (nS σ1 - nS σ) (F0 m pc lsA (st.map (xre ad sv))) ((st.drop na).map (xre ad sv)) (xQc D cA A sv adc ad σ σ1 r aa) (xXc D cA A adc ad σ σ1 r) A := by
  obtain ⟨na1, ml1, rc1, rt1, hd1, bs1, hm1, v1, v2, v3, v4, v5, v6, v7, v8, v9, v10⟩ := yok_spec hy
  rw [hm] at hm1; cases hm1
  obtain ⟨na1, ml1, rc1, rt1, hd1, bs1, hm1, w1, w2, w3, w4, w5, w6, w7, w8, w9⟩ := yw_spec hyw
  rw [hm] at hm1; cases hm1
  have C0 := C
  obtain ⟨hx, hb, hml, hown, hts, hK, hA, hE, hin⟩ := C
  have hsv := hE.2.2.2.2.2.2.2.2.2.2.2.1
  have hvi : rc ≠ 99 ∧ xinit y = false := by
    unfold xvirt at hv; rw [hm] at hv; dsimp only at hv; simpa using hv
  have hns : xstat y = false := by rw [w9]; simp [hvi.1]
  have hh0 : yhh y = [] := by
    rcases v9 with q | q
    · exact List.isEmpty_iff.mp q
    · rw [hns] at q; cases q
  have hna : (st.take na).reverse.length = na := by rw [List.length_reverse, List.length_take]; omega
  cases hasr : (st.take na).reverse with
  | nil => rw [hasr] at hrv; unfold xrecv at hrv; simp [hvi.1] at hrv
  | cons v0 As0 =>
    rw [hasr] at hrv hM hna
    cases v0 with
    | ref b =>
      have hst : st = As0.reverse ++ .ref b :: st.drop na := by
        have h2 : st.take na = As0.reverse ++ [.ref b] := by
          have := congrArg List.reverse hasr
          rw [List.reverse_reverse] at this
          rw [this, List.reverse_cons]
        have h3 := List.take_append_drop na st
        rw [h2] at h3
        rw [List.append_assoc] at h3
        exact h3.symm
      have hrecv : ∃ cellB : Cell, H[ad b]? = some cellB ∧ cellB.vm.isStatics = false ∧ s.vm.findClass (xnm y).cls = some cellB.cls := by
        unfold xrecv at hrv
        dsimp only at hrv
        rw [if_neg hvi.1] at hrv
        cases hS : σ.1[b]? with
        | some x =>
          obtain ⟨ci, n, rs⟩ := x
          rw [hS] at hrv
          dsimp only at hrv
          simp only [Bool.and_eq_true, beq_iff_eq, decide_eq_true_eq] at hrv
          obtain ⟨rfl, hlt⟩ := hrv
          obtain ⟨Cn, T, N, ty, x1, x2, -⟩ := xcls hlt
          have hat := xws_at (ad := ad) (cA := cA) hS
          rw [xcell_o hlt] at hat
          have := va_recv hK hw.1 x1 hat
          dsimp only at this
          rw [x2] at this
          rcases v10 with ⟨-, q⟩ | ⟨q, -⟩ | q
          · rw [← q]; exact this
          · omega
          · exact absurd q hvi.1
        | none =>
          rw [hS] at hrv
          simp only [Bool.and_eq_true, beq_iff_eq, decide_eq_true_eq] at hrv
          obtain ⟨⟨rfl, h1⟩, h2⟩ := hrv
          obtain ⟨j, hj⟩ := Nat.exists_eq_add_of_le (show (1000010 : Nat) ≤ b from h1)
          have h3 : j < 18 := by have h4 : (1000010 + j : Nat) < 1000028 := hj ▸ h2; omega
          have hk1 : vk_S 1 [xlens.getD j 0] [xstr.getD j []] (fun _ => adc (1000010 + j)) (fun _ => adc (1000040 + j)) A s s.heap := ⟨fun i hi => by
            have : i = 0 := by omega
            subst this
            exact hE.2.2.2.2.2.1.1 j h3, fun i k hi hk _ => by omega⟩
          have hk := vk_recv (i := 0) hk1 (by omega) hw.2.2.1
          have hk2 : ad b = adc (1000010 + j) := by rw [hw.2.2.2 b (Nat.le_trans (by decide) h1), hj]
          rw [← hk2] at hk
          rcases v10 with ⟨q, -⟩ | ⟨-, q⟩ | q
          · omega
          · rw [q]; exact hk
          · omega
      have hhd : xhead y = Cond.code (xnm y) (ycc y) (yml y) (yret y) := by unfold xhead; rw [if_pos hh0]
      have hln : (As0.map (xre ad sv)).length = na - 1 := by
        rw [List.length_map]; simp only [List.length_cons] at hna; omega
      rw [hns] at w2 w7
      have cb : CallB R s args (xow own) k (xnm y) (ycc y) (yml y) (yret y) (xwsy y) (xrm d σ σ1) (nC σ1 - nC σ) (nS σ1 - nS σ) (na - 1) :=
        callB_of (Ts := xWS) (na - 1) hts (xwsy_good y w1) (by unfold xwsy; rw [hhd]) rfl rfl (hts _ w4) (hts _ hlink) ⟨w6.1, w6.2, w7⟩ ⟨by show d + 10 + 1 ≤ _; omega, by show 8 + (yml y + 11) + (d + 1) * 100 ≤ _; omega⟩
      refine ⟨_, vx_runV (Ts := xWS) ⟨hx, hb, hml, hown, hts⟩ hM ⟨cb, hts _ (by simpa using w2), hts _ (w3 hvi.1 hvi.2)⟩ (b := ad b) (As := As0.map (xre ad sv)) ⟨xblind, hrecv, fun U hU hWU => ⟨rfl, xpres C0 hw hU hWU⟩⟩ rfl hln hls ?_ (lv_room (by rw [xcat_re hsv]; exact hcat)) hdg hf⟩
      show st.map (xre ad sv) = _
      conv => lhs; rw [hst]
      rw [List.map_append, List.map_cons, List.map_reverse]
      rfl
    | _ => unfold xrecv at hrv; simp [hvi.1] at hrv
theorem x_runI (C : xCx p s m args meth c D cA A sv adc own cc nL nm) (hw : xWf D cA A s adc ad σ H locs) (hy : xyok y = true) (hyw : xyw y = true) (hy9 : y < 398) (hm : xmt y = some (na, ml, rc, rt, hd, bs)) (hv : xinit y = true)
    (hM : xMt l D cA A sv adc ad d y (st.take na).reverse σ r σ1) (hR : d + 11 ≤ R.frames ∧ (d + 2) * 100 ≤ R.locals) {nest : Nat} (hfd : fdM own k = some (y, nest)) (hlen : na ≤ st.length) (hrv : xrecv rc σ.1 (st.take na).reverse = true) (hcat : xcat (st.drop na) ≤ 8)
    (hdg : decode cc pc = .ok (.invokespecial k, 3)) (hls : lsA.size = nL) (hf : cells + (nC σ1 - nC σ) ≤ R.cells ∧ slots + (nS σ1 - nS σ) ≤ R.slots) :
    ∃ aa, vx_Run p l e R s m args below meth c H locs cells slots (nC σ1 - nC σ) (nS σ1 - nS σ) (F0 m pc lsA (st.map (xre ad sv))) ((st.drop na).map (xre ad sv)) (xQc D cA A sv adc ad σ σ1 r aa) (xXc D cA A adc ad σ σ1 r) A := by
  obtain ⟨na1, ml1, rc1, rt1, hd1, bs1, hm1, v1, v2, v3, v4, v5, v6, v7, v8, v9, v10⟩ := yok_spec hy
  rw [hm] at hm1; cases hm1
  obtain ⟨na1, ml1, rc1, rt1, hd1, bs1, hm1, w1, w2, w3, w4, w5, w6, w7, w8, w9⟩ := yw_spec hyw
  rw [hm] at hm1; cases hm1
  have C0 := C
  obtain ⟨hx, hb, hml, hown, hts, hK, hA, hE, hin⟩ := C
  have hsv := hE.2.2.2.2.2.2.2.2.2.2.2.1
  have hns : xstat y = false := by rw [w9, hv]; simp
  have hh0 : yhh y = [] := by
    rcases v9 with q | q
    · exact List.isEmpty_iff.mp q
    · rw [hns] at q; cases q
  have hret : yret y = none := by
    have h1 := List.all_eq_true.mp xini_ret y (List.mem_range.mpr hy9)
    rw [hv] at h1
    simpa using h1
  have hnm : (xnm y).name = "<init>" := by unfold xinit at hv; simpa using hv
  have hna : (st.take na).reverse.length = na := by rw [List.length_reverse, List.length_take]; omega
  rw [hns] at w2 w7
  have hna1 := w8 hns
  cases hasr : (st.take na).reverse with
  | nil => rw [hasr] at hna; simp at hna; omega
  | cons v0 As0 =>
    rw [hasr] at hrv hM hna
    have hrf : ∃ b, v0 = .ref b := by
      cases v0 with
      | ref b => exact ⟨b, rfl⟩
      | _ =>
        unfold xrecv at hrv
        simp only [beq_iff_eq] at hrv
        exact absurd hrv (xini_rc hy9 hv hm)
    obtain ⟨b, rfl⟩ := hrf
    have hst : st = As0.reverse ++ .ref b :: st.drop na := by
      have h2 : st.take na = As0.reverse ++ [.ref b] := by
        have := congrArg List.reverse hasr
        rw [List.reverse_reverse] at this
        rw [this, List.reverse_cons]
      have h3 := List.take_append_drop na st
      rw [h2] at h3
      rw [List.append_assoc] at h3
      exact h3.symm
    have hhd : xhead y = Cond.code (xnm y) (ycc y) (yml y) none := by unfold xhead; rw [if_pos hh0, hret]
    have hln : (As0.map (xre ad sv)).length = na - 1 := by
      rw [List.length_map]; simp only [List.length_cons] at hna; omega
    have hstk : (F0 m pc lsA (st.map (xre ad sv))).stack = (As0.map (xre ad sv)).reverse ++ .ref (ad b) :: (st.drop na).map (xre ad sv) := by
      show st.map (xre ad sv) = _
      conv => lhs; rw [hst]
      rw [List.map_append, List.map_cons, List.map_reverse]
      rfl
    have hlk := fdM_ok hfd
    by_cases hn : nest = 0
    · rw [if_pos hn] at hlk
      have cb : CallB R s args (xow own) k (xnm y) (ycc y) (yml y) none (xwsy y) (xrm d σ σ1) (nC σ1 - nC σ) (nS σ1 - nS σ) (na - 1) :=
        callB_of (Ts := xWS) (na - 1) hts (xwsy_good y w1) (by unfold xwsy; rw [hhd]) rfl rfl (hts _ w4) (hts _ hlk) ⟨w6.1, w6.2, w7⟩ ⟨by show d + 10 + 1 ≤ _; omega, by show 8 + (yml y + 11) + (d + 1) * 100 ≤ _; omega⟩
      exact ⟨_, vx_runI (Ts := xWS) ⟨hx, hb, hml, hown, hts⟩ hM ⟨cb, hnm, hts _ (by simpa using w2)⟩ (b := ad b) (As := As0.map (xre ad sv)) ⟨xblind, fun U hU hWU => ⟨rfl, xpres C0 hw hU hWU⟩⟩ rfl hln hls hstk (lv_room (by rw [xcat_re hsv]; exact hcat)) hdg hf⟩
    · rw [if_neg hn] at hlk
      have cb : va_CN R s args (xow own) k (xnm y) "BannerParade" (ycc y) (yml y) none (xwsy y) (xrm d σ σ1) (nC σ1 - nC σ) (nS σ1 - nS σ) (na - 1) :=
        va_cnB (Ts := xWS) (na - 1) hts (xwsy_good y w1) (by unfold xwsy; rw [hhd]) rfl rfl (hE.2.2.2.2.2.2.2.2.2.1 _ hlk) (hts _ w4) ⟨w6.1, w6.2, w7⟩ ⟨by show d + 10 + 1 ≤ _; omega, by show 8 + (yml y + 11) + (d + 1) * 100 ≤ _; omega⟩
      exact ⟨_, vx_runIN (Ts := xWS) ⟨hx, hb, hml, hown, hts⟩ hM ⟨cb, hnm, hts _ (by simpa using w2)⟩ (b := ad b) (As := As0.map (xre ad sv)) ⟨xblind, fun U hU hWU => ⟨rfl, xpres C0 hw hU hWU⟩⟩ rfl hln hls hstk (lv_room (by rw [xcat_re hsv]; exact hcat)) hdg hf⟩
theorem x_runS (C : xCx p s m args meth c D cA A sv adc own cc nL nm) (hw : xWf D cA A s adc ad σ H locs) (hy : xyok y = true) (hyw : xyw y = true) (hm : xmt y = some (na, ml, rc, rt, hd, bs)) (hv : xstat y = true)
    (hM : xMt l D cA A sv adc ad d y (st.take na).reverse σ r σ1) (hR : d + 11 ≤ R.frames ∧ (d + 2) * 100 ≤ R.locals) {nest : Nat} (hfd : fdM own k = some (y, nest)) (hlen : na ≤ st.length) (hcat : xcat (st.drop na) ≤ 8)
    (hdg : decode cc pc = .ok (.invokestatic k, 3)) (hls : lsA.size = nL) (hf : cells + (nC σ1 - nC σ) ≤ R.cells ∧ slots + (nS σ1 - nS σ) ≤ R.slots) :
    ∃ aa, vx_Run p l e R s m args below meth c H locs cells slots (nC σ1 - nC σ) (nS σ1 - nS σ) (F0 m pc lsA (st.map (xre ad sv))) ((st.drop na).map (xre ad sv)) (xQc D cA A sv adc ad σ σ1 r aa) (xXc D cA A adc ad σ σ1 r) A := by
  obtain ⟨na1, ml1, rc1, rt1, hd1, bs1, hm1, v1, v2, v3, v4, v5, v6, v7, v8, v9, v10⟩ := yok_spec hy
  rw [hm] at hm1; cases hm1
  obtain ⟨na1, ml1, rc1, rt1, hd1, bs1, hm1, w1, w2, w3, w4, w5, w6, w7, w8, w9⟩ := yw_spec hyw
  rw [hm] at hm1; cases hm1
  have C0 := C
  obtain ⟨hx, hb, hml, hown, hts, hK, hA, hE, hin⟩ := C
  have hsv := hE.2.2.2.2.2.2.2.2.2.2.2.1
  rw [hv] at w2 w7
  have hna : (st.take na).reverse.length = na := by rw [List.length_reverse, List.length_take]; omega
  have hln : ((st.take na).reverse.map (xre ad sv)).length = na := by rw [List.length_map]; exact hna
  have hstk : (F0 m pc lsA (st.map (xre ad sv))).stack = ((st.take na).reverse.map (xre ad sv)).reverse ++ (st.drop na).map (xre ad sv) := by
    show st.map (xre ad sv) = _
    rw [List.map_reverse, List.reverse_reverse, ← List.map_append, List.take_append_drop]
  have hpre : PreS s H (va_Pc ((st.take na).reverse.map (xre ad sv)) (xPre D cA A sv adc ad σ)) ((st.take na).reverse.map (xre ad sv)) := ⟨xblind, fun U hU hWU => ⟨rfl, xpres C0 hw hU hWU⟩⟩
  have hd7 : (xnm y).cls ≠ "java/lang/invoke/MethodHandle" ∧ (xnm y).cls ≠ "java/lang/invoke/VarHandle" ∧ (parseMethodDescriptor (xnm y).desc).map (fun d => d.parameters.length) = some na := ⟨w6.1, w6.2, w7⟩
  have hRR : (xrm d σ σ1).frames + 1 ≤ R.frames ∧ 8 + (yml y + 11) + (xrm d σ σ1).locals ≤ R.locals := ⟨by show d + 10 + 1 ≤ _; omega, by show 8 + (yml y + 11) + (d + 1) * 100 ≤ _; omega⟩
  have hlk := fdM_ok hfd
  by_cases hn : nest = 0
  · rw [if_pos hn] at hlk
    by_cases hh0 : yhh y = []
    · have hhd : xhead y = Cond.code (xnm y) (ycc y) (yml y) (yret y) := by unfold xhead; rw [if_pos hh0]
      have cb : CallB R s args (xow own) k (xnm y) (ycc y) (yml y) (yret y) (xwsy y) (xrm d σ σ1) (nC σ1 - nC σ) (nS σ1 - nS σ) na :=
        callB_of (Ts := xWS) na hts (xwsy_good y w1) (by unfold xwsy; rw [hhd]) rfl rfl (hts _ w4) (hts _ hlk) hd7 hRR
      exact ⟨_, vx_runS (Ts := xWS) ⟨hx, hb, hml, hown, hts⟩ hM ⟨cb, hts _ (by simpa using w2)⟩ hpre rfl hln hls hstk (lv_room (by rw [xcat_re hsv]; exact hcat)) hdg hf⟩
    · have hhd : xhead y = Cond.codeWith (xnm y) (ycc y) (yml y) (yret y) (yhh y) := by unfold xhead; rw [if_neg hh0]
      have hin9 : Cond.codeWith (xnm y) (ycc y) (yml y) (yret y) (yhh y) ∈ xwsy y := by unfold xwsy; rw [hhd]; exact List.mem_cons_self
      have cb : vx_CSW R s args (xow own) k (xnm y) (ycc y) (yml y) (yret y) (yhh y) (xwsy y) (xrm d σ σ1) (nC σ1 - nC σ) (nS σ1 - nS σ) na :=
        ⟨⟨rfl, rfl, hRR.1, hRR.2, pay_in hts (xwsy_good y w1), hin9⟩, hts _ (xwsy_good y w1 _ hin9).1, hts _ w4, w6, (fun sig h => by
          have h2 := hd7.2.2
          rw [h] at h2
          exact (Option.some.inj h2).symm), hts _ hlk, hts _ (by simpa using w2)⟩
      exact ⟨_, vx_runSX (Ts := xWS) ⟨hx, hb, hml, hown, hts⟩ hM cb hpre rfl hln hls hstk (lv_room (by rw [xcat_re hsv]; exact hcat)) hdg hf⟩
  · rw [if_neg hn] at hlk
    have hh0 : yhh y = [] := fdM_nest hfd hn
    have hhd : xhead y = Cond.code (xnm y) (ycc y) (yml y) (yret y) := by unfold xhead; rw [if_pos hh0]
    have cb : va_CN R s args (xow own) k (xnm y) "BannerParade" (ycc y) (yml y) (yret y) (xwsy y) (xrm d σ σ1) (nC σ1 - nC σ) (nS σ1 - nS σ) na :=
      va_cnB (Ts := xWS) na hts (xwsy_good y w1) (by unfold xwsy; rw [hhd]) rfl rfl (hE.2.2.2.2.2.2.2.2.2.1 _ hlk) (hts _ w4) hd7 hRR
    exact ⟨_, vx_runSN (Ts := xWS) ⟨hx, hb, hml, hown, hts⟩ hM ⟨cb, hts _ (by simpa using w2), trivial⟩ hpre rfl hln hls hstk (lv_room (by rw [xcat_re hsv]; exact hcat)) hdg hf⟩
end XRuns
