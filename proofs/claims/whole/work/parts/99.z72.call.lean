/-! A call of X is the machine's own call. -/
theorem xWS_good {w : Cond} (h : w ∈ xWS) : goodWord w = true := (List.mem_filter.mp h).2
abbrev yown (y : Nat) : Nat := (xrl y).1
abbrev ycc (y : Nat) : ByteArray := (xrl y).2.2.1
abbrev yml (y : Nat) : Nat := (xrl y).2.2.2.1
abbrev yret (y : Nat) : Option FieldType := (xrl y).2.2.2.2.1
abbrev yhh (y : Nat) : List (Nat × Nat × Nat × Nat) := (xrl y).2.2.2.2.2.1
abbrev ypcs (y : Nat) : List Nat := (xrl y).2.2.2.2.2.2
def xhead (y : Nat) : Cond := if yhh y = [] then Cond.code (xnm y) (ycc y) (yml y) (yret y) else Cond.codeWith (xnm y) (ycc y) (yml y) (yret y) (yhh y)
def xwsy (y : Nat) : List Cond := xhead y :: xWS
theorem yw_spec {y : Nat} (h : xyw y = true) : ∃ (na ml rc rt : Nat) (hd : List (Nat × Nat × Nat)) (bs : List XB), xmt y = some (na, ml, rc, rt, hd, bs) ∧ xhead y ∈ xWS ∧ (if xstat y = true then Cond.static (xnm y) ∈ xWS else Cond.instanceMethod (xnm y) ∈ xWS) ∧
    (rc ≠ 99 → xinit y = false → Cond.selects (xnm y).cls (xnm y) (xnm y) ∈ xWS) ∧ Cond.initialized (xnm y).cls ∈ xWS ∧ plainFor (xnm y) = true ∧ ((xnm y).cls ≠ "java/lang/invoke/MethodHandle" ∧ (xnm y).cls ≠ "java/lang/invoke/VarHandle") ∧
    ((parseMethodDescriptor (xnm y).desc).map (fun d => d.parameters.length) = some (if xstat y = true then na else na - 1)) ∧ (xstat y = false → 1 ≤ na) ∧ (xstat y = (rc == 99 && !xinit y)) := by
  unfold xyw at h
  cases hm : xmt y with
  | none => rw [hm] at h; cases h
  | some z =>
    obtain ⟨na, ml, rc, rt, hd, bs⟩ := z
    rw [hm] at h
    dsimp only at h
    unfold xwm at h
    simp only [Bool.and_eq_true, Bool.not_eq_true', beq_eq_false_iff_ne, beq_iff_eq] at h
    obtain ⟨⟨⟨⟨⟨⟨⟨⟨⟨⟨⟨⟨w1, w2⟩, w3⟩, w4⟩, w5⟩, w6⟩, w7⟩, h2⟩, h3⟩, h4⟩, h5⟩, h6⟩, h7⟩ := h
    have hst : xstat y = (rc == 99 && !xinit y) := by unfold xstat; rw [hm]
    refine ⟨na, ml, rc, rt, hd, bs, rfl, ?_, ?_, ?_, ?_, h2, ⟨h3, h4⟩, h5, ?_, hst⟩
    · unfold xhead
      by_cases hh : yhh y = []
      · rw [if_pos hh]; rw [if_pos hh] at w1; exact xat_in w1
      · rw [if_neg hh]; rw [if_neg hh] at w1; exact xat_in w1
    · by_cases hs : xstat y = true
      · rw [if_pos hs]; rw [if_pos hs] at w2; exact xat_in w2
      · rw [if_neg hs]; rw [if_neg hs] at w2; exact xat_in w2
    · intro hrc hi
      have hs : xstat y = false := by rw [hst]; simp [hrc]
      have hcond : (xstat y || (xnm y).name == "<init>") = false := by
        rw [hs]; unfold xinit at hi; simpa using hi
      have w3' := w3
      rw [show (xstat y || (xrl y).2.1.name == "<init>") = false from hcond] at w3'
      rw [← w5] at w3'
      exact xat_in w3'
    · have := xat_in w4
      rw [← w5] at this
      exact this
    · intro hs
      rw [hs] at h6
      simpa using h6

theorem xwsy_good (y : Nat) (h : xhead y ∈ xWS) : GoodIn xWS (xwsy y) := by
  refine goodIn_sub (fun w hw => ?_) (List.all_eq_true.mpr fun w hw => ?_)
  · rcases List.mem_cons.mp hw with rfl | hw
    · exact h
    · exact hw
  · rcases List.mem_cons.mp hw with rfl | hw
    · exact xWS_good h
    · exact xWS_good hw
def xPre (D : va_G) (cA : Nat → ClassId) (A : Nat → Prop) (sv : Value) (adc ad : Nat → Nat) (σ : XS) (U : State) : Prop :=
  va_P D vwCl (xws ad cA σ) U.heap ∧ va_D A (xws ad cA σ) ∧ va_K D vwCl (xtys cA) U ∧ (∀ q, U.heap.size ≤ q → A q) ∧ xEnv adc sv A U U.heap ∧ ∀ a, 1000000 ≤ a → ad a = adc a
theorem xPre.to {D : va_G} {cA : Nat → ClassId} {A : Nat → Prop} {sv : Value} {adc ad : Nat → Nat} {σ : XS} {U V : State} (h : xPre D cA A sv adc ad σ U) (hW : U.WarmedH V.vm) (hh : V.heap = U.heap) : xPre D cA A sv adc ad σ V := by
  obtain ⟨h1, h2, h3, h4, h5, h6⟩ := h
  exact ⟨by rw [hh]; exact h1, h2, va_K.moved hW.alike h3, by rw [hh]; exact h4, xEnv.to h5 hW (fun a _ _ => by rw [hh]), h6⟩
def xext (σ τ : XS) (ad ad' : Nat → Nat) : Prop := ∀ a, (a < σ.1.length ∨ τ.1.length ≤ a) → ad' a = ad a
theorem xext.rf {σ : XS} {ad : Nat → Nat} : xext σ σ ad ad := fun _ _ => rfl
theorem xext.tr {σ τ u : XS} {a1 a2 a3 : Nat → Nat} (h1 : xext σ τ a1 a2) (h2 : xext τ u a2 a3) (l1 : xle σ τ) (l2 : xle τ u) : xext σ u a1 a3 := by
  intro a ha
  have := l1.1
  have := l2.1
  rw [h2 a (by omega), h1 a (by omega)]
def xEnd (D : va_G) (cA : Nat → ClassId) (A : Nat → Prop) (adc ad : Nat → Nat) (σ σ' : XS) (st t : State) (ad' : Nat → Nat) : Prop :=
  va_P D vwCl (xws ad' cA σ') t.heap ∧ va_D A (xws ad' cA σ') ∧ (∀ a, 1000000 ≤ a → ad' a = adc a) ∧ xext σ σ' ad ad' ∧ va_F A st t
def xQc (D : va_G) (cA : Nat → ClassId) (A : Nat → Prop) (sv : Value) (adc ad : Nat → Nat) (σ σ' : XS) (r : XR) : Array Value → State → Outcome → State → Prop := fun _ st oc t =>
  ∃ (v : Option Value) (ad' : Nat → Nat), r = .inl v ∧ oc = .returned (v.map (xre ad' sv)) ∧ xEnd D cA A adc ad σ σ' st t ad'
def xXc (D : va_G) (cA : Nat → ClassId) (A : Nat → Prop) (adc ad : Nat → Nat) (σ σ' : XS) (r : XR) : String → State → State → Prop := fun E st t =>
  ∃ (k : Nat) (ad' : Nat → Nat), r = .inr k ∧ k < 3 ∧ E = xexn k ∧ xEnd D cA A adc ad σ σ' st t ad'
abbrev xrm (d : Nat) (σ σ' : XS) : Room := { frames := d + 10, cells := nC σ' - nC σ, slots := nS σ' - nS σ, locals := (d + 1) * 100 }
/-- the contract of a method, for one run of X -/
def xMt (l : Launch) (D : va_G) (cA : Nat → ClassId) (A : Nat → Prop) (sv : Value) (adc ad : Nat → Nat) (d y : Nat) (args : List Value) (σ : XS) (r : XR) (σ' : XS) : Prop :=
  vx_Met l (xnm y) (xwsy y) (xrm d σ σ') (va_Pc (args.map (xre ad sv)) (xPre D cA A sv adc ad σ)) (xQc D cA A sv adc ad σ σ' r) (xXc D cA A adc ad σ σ' r) (nC σ' - nC σ) (nS σ' - nS σ) A
section XCall
variable {p : Program} {l : Launch} {e : Env} {R : Room} {s : State} {m : MethodId} {args : Array Value} {below : List Frame} {meth : Method} {c : Code} {Q : State → Prop} {D : va_G} {cA : Nat → ClassId} {A : Nat → Prop} {sv : Value} {adc ad : Nat → Nat} {own : Nat} {cc : ByteArray} {nL : Nat} {nm : MethodName} {pc : Nat} {H : Heap} {locs : List Loc} {lsA : Array Slot} {cells slots : Nat}
theorem xpres (C : xCx p s m args meth c D cA A sv adc own cc nL nm) {σ : XS} (hW : xWf D cA A s adc ad σ H locs) {U : State} (hU : U.heap = H) (hw : s.WarmedH U.vm) : xPre D cA A sv adc ad σ U := by
  obtain ⟨hx, hb, hml, hown, hts, hK, hA, hE, hin⟩ := C
  refine ⟨by rw [hU]; exact hW.1, hW.2.1, va_K.moved hw.alike hK, fun q hq => hA q (Nat.le_trans hW.2.2.1.1 (by rw [hU] at hq; exact hq)), xEnv.to hE hw (fun a ha hn => by rw [hU]; exact hW.2.2.1.2.1 a ha hn), hW.2.2.2⟩
theorem xblind {As : List Value} {σ : XS} : FrameBlind (va_Pc As (xPre D cA A sv adc ad σ)) := fun a U g mk q => ⟨q.1, xPre.to (V := U.calling g mk a) q.2 (State.WarmedH.refl U) rfl⟩
/-- where the machine goes on behind a call -/
theorem x_after {σ σ1 σ' : XS} {r : XR} {mc ms : Nat} {st0 rest : List Value} {aa : Array Value} (hr : vx_Run p l e R s m args below meth c H locs cells slots mc ms (F0 m pc lsA st0) rest (xQc D cA A sv adc ad σ σ' r aa) (xXc D cA A adc ad σ σ' r) A) (hW : xWf D cA A s adc ad σ H locs)
    (kk : ∀ (v : Option Value) (ad' : Nat → Nat) (H' : Heap) (locs' : List Loc), r = .inl v → xWf D cA A s adc ad' σ' H' locs' → xext σ σ' ad ad' → W p l e R s m args below meth c H' locs' (cells + mc) (slots + ms) Q (F0 m (pc + 3) lsA ((v.map (xre ad' sv)).toList ++ rest)))
    (kx : ∀ (k : Nat) (ad' : Nat → Nat) (H' : Heap) (locs' : List Loc) (q : Nat) (ce : Cell), r = .inr k → k < 3 → xWf D cA A s adc ad' σ' H' locs' → xext σ σ' ad ad' → H'[q]? = some ce → ce.vm = .none → s.vm.findClass (xexn k) = some ce.cls → vx_W p l e R s m args below meth c H' locs' (cells + mc) (slots + ms) Q (F0 m pc lsA rest) q) :
    W p l e R s m args below meth c H locs cells slots Q (F0 m pc lsA st0) := by
  intro T hT X
  rcases hr T hT X with ⟨v, st₀, t, T', L, h0, X', hL, e1, e2, ⟨v1, ad', hv, ho, hp, hd, hc, hx, hF⟩, st⟩ | ⟨q, st₀, t, T', L, E, ce, h0, X', hL, e1, e2, ⟨k, ad', hv, hk, hE, hp, hd, hc, hx, hF⟩, hce, hcv, hcl, st⟩
  · cases ho
    obtain ⟨k1, k2, k3⟩ := vx_keep h0 e1 hW.2.2.1 (fun _ _ h => h) (fun _ h => h) hL hF
    obtain ⟨t2, a1, b1⟩ := kk v1 ad' T'.heap (locs ++ L) hv ⟨by rw [e1]; exact hp, hd, k3, hc⟩ hx T' rfl X'
    exact ⟨t2, st t2 a1, b1⟩
  · subst hE
    obtain ⟨k1, k2, k3⟩ := vx_keep h0 e1 hW.2.2.1 (fun _ _ h => h) (fun _ h => h) hL hF
    obtain ⟨t2, a1, b1⟩ := kx k ad' T'.heap (locs ++ L) q ce hv hk ⟨by rw [e1]; exact hp, hd, k3, hc⟩ hx (by rw [e1]; exact hce) hcv hcl T' rfl X'
    exact ⟨t2, st.trans a1, b1⟩
end XCall
