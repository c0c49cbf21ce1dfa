/-! A call of X is the machine's own call. -/
theorem xWS_good {w : Cond} (h : w ∈ xWS) : goodWord w = true := (List.mem_filter.mp h).2
abbrev yown (y : Nat) : Nat := (xrl y).1
abbrev ycc (y : Nat) : ByteArray := (xrl y).2.2.1
abbrev yml (y : Nat) : Nat := (xrl y).2.2.2.1
abbrev yret (y : Nat) : Option FieldType := (xrl y).2.2.2.2.1
abbrev ypcs (y : Nat) : List Nat := (xrl y).2.2.2.2.2.2

abbrev yhh (y : Nat) : List (Nat × Nat × Nat × Nat) := (xrl y).2.2.2.2.2.1
theorem goodIn_sub {big ws : List Cond} (hm : ∀ w ∈ ws, w ∈ big) (h : ws.all goodWord = true) : GoodIn big ws := fun w hw => ⟨hm w hw, good_of_word (List.all_eq_true.mp h w hw)⟩
abbrev xhead (y : Nat) : Cond := Cond.code (xnm y) (ycc y) (yml y) (yret y)
def xwsy (y : Nat) : List Cond := xhead y :: xWS
theorem yw_spec {y : Nat} (h : xyw y = true) : ∃ (na ml rc rt : Nat) (hd : List (Nat × Nat × Nat)) (bs : List XB), xmt y = some (na, ml, rc, rt, hd, bs) ∧ xhead y ∈ xWS ∧ (if xstat y = true then Cond.static (xnm y) ∈ xWS else Cond.instanceMethod (xnm y) ∈ xWS) ∧
    (rc ≠ 99 → xinit y = false → xup y = false → xsu y = false → Cond.selects (xnm y).cls (xnm y) (xnm y) ∈ xWS) ∧ Cond.initialized (xnm y).cls ∈ xWS ∧ plainFor (xnm y) = true ∧ ((xnm y).cls ≠ "java/lang/invoke/MethodHandle" ∧ (xnm y).cls ≠ "java/lang/invoke/VarHandle") ∧
    ((parseMethodDescriptor (xnm y).desc).map (fun d => d.parameters.length) = some (if xstat y = true then na else na - 1)) ∧ (xstat y = false → 1 ≤ na) ∧ (xstat y = (rc == 99 && !xinit y)) := by
  unfold xyw at h
  cases hm : xmt y with
  | none => rw [hm] at h; cases h
  | some z =>
    obtain ⟨na, ml, rc, rt, hd, bs⟩ := z
    rw [hm] at h
    dsimp only at h
    unfold xwm at h
    simp only [Bool.and_eq_true, Bool.not_eq_true', beq_eq_false_iff_ne, beq_iff_eq] at h
    obtain ⟨⟨⟨⟨⟨⟨⟨⟨⟨⟨⟨⟨⟨-, w1⟩, w2⟩, w3⟩, w4⟩, w5⟩, w6⟩, w7⟩, h2⟩, h3⟩, h4⟩, h5⟩, h6⟩, h7⟩ := h
    have hst : xstat y = (rc == 99 && !xinit y) := by unfold xstat; rw [hm]
    refine ⟨na, ml, rc, rt, hd, bs, rfl, ?_, ?_, ?_, ?_, h2, ⟨h3, h4⟩, h5, ?_, hst⟩
    · exact xat_in w1
    · by_cases hs : xstat y = true
      · rw [if_pos hs]; rw [if_pos hs] at w2; exact xat_in w2
      · rw [if_neg hs]; rw [if_neg hs] at w2; exact xat_in w2
    · intro hrc hi hup hsu
      have hs : xstat y = false := by rw [hst]; simp [hrc]
      have hcond : (xstat y || (xnm y).name == "<init>" || xup y || xsu y) = false := by
        rw [hs, hup, hsu]; unfold xinit at hi; simpa using hi
      have w3' := w3
      rw [show (xstat y || (xrl y).2.1.name == "<init>" || xup y || xsu y) = false from hcond, if_neg (by decide)] at w3'
      rw [← w5] at w3'
      exact xat_in w3'
    · have := xat_in w4
      rw [← w5] at this
      exact this
    · intro hs
      rw [hs] at h6
      simpa using h6

theorem xwsy_good (y : Nat) (h : xhead y ∈ xWS) : GoodIn xWS (xwsy y) := by
  refine goodIn_sub (fun w hw => ?_) (List.all_eq_true.mpr fun w hw => ?_)
  · rcases List.mem_cons.mp hw with rfl | hw
    · exact h
    · exact hw
  · rcases List.mem_cons.mp hw with rfl | hw
    · exact xWS_good h
    · exact xWS_good hw
def xPre (K : XK) (D : va_G) (cA : Nat → ClassId) (A : Nat → Prop) (sv : Value) (adc ad : Nat → Nat) (σ : XS) (U : State) : Prop :=
  va_P D vwCl (xws ad cA σ) U.heap ∧ va_D A (xws ad cA σ) ∧ va_K D vwCl (xtys cA) U ∧ (∀ q, U.heap.size ≤ q → A q) ∧ xEnv adc sv A U U.heap ∧ (∀ a, 1000000 ≤ a → ad a = adc a) ∧ xScr K adc A U U.heap
theorem xPre.to {K : XK} {D : va_G} {cA : Nat → ClassId} {A : Nat → Prop} {sv : Value} {adc ad : Nat → Nat} {σ : XS} {U V : State} (h : xPre K D cA A sv adc ad σ U) (hW : U.WarmedH V.vm) (hh : V.heap = U.heap) : xPre K D cA A sv adc ad σ V := by
  obtain ⟨h1, h2, h3, h4, h5, h6, h7⟩ := h
  exact ⟨by rw [hh]; exact h1, h2, va_K.moved hW.alike h3, by rw [hh]; exact h4, xEnv.to h5 hW (fun a _ _ => by rw [hh]), h6, xScr.to h7 hW.alike (by rw [hh]; exact Nat.le_refl _) (fun a _ _ => by rw [hh])⟩
def xext (σ τ : XS) (ad ad' : Nat → Nat) : Prop := ∀ a, (a < σ.1.length ∨ τ.1.length ≤ a) → ad' a = ad a
theorem xext.rf {σ : XS} {ad : Nat → Nat} : xext σ σ ad ad := fun _ _ => rfl
theorem xext.tr {σ τ u : XS} {a1 a2 a3 : Nat → Nat} (h1 : xext σ τ a1 a2) (h2 : xext τ u a2 a3) (l1 : xle σ τ) (l2 : xle τ u) : xext σ u a1 a3 := by
  intro a ha
  have := l1.1
  have := l2.1
  rw [h2 a (by omega), h1 a (by omega)]
def xEnd (D : va_G) (cA : Nat → ClassId) (A : Nat → Prop) (adc ad : Nat → Nat) (σ σ' : XS) (st t : State) (ad' : Nat → Nat) : Prop :=
  va_P D vwCl (xws ad' cA σ') t.heap ∧ va_D A (xws ad' cA σ') ∧ (∀ a, 1000000 ≤ a → ad' a = adc a) ∧ xext σ σ' ad ad' ∧ va_F A st t
def xQc (D : va_G) (cA : Nat → ClassId) (A : Nat → Prop) (sv : Value) (adc ad : Nat → Nat) (σ σ' : XS) (v : Option Value) : Array Value → State → Outcome → State → Prop := fun _ st oc t =>
  ∃ (ad' : Nat → Nat), oc = .returned (v.map (xre ad' sv)) ∧ xEnd D cA A adc ad σ σ' st t ad'
abbrev xrm (d : Nat) (σ σ' : XS) : Room := { frames := d + 1, cells := nC σ' - nC σ, slots := nS σ' - nS σ, locals := (d + 1) * 40 }
/-- the contract of a method, for one run of X -/
def xMt (K : XK) (l : Launch) (D : va_G) (cA : Nat → ClassId) (A : Nat → Prop) (sv : Value) (adc ad : Nat → Nat) (d y : Nat) (args : List Value) (σ : XS) (v : Option Value) (σ' : XS) : Prop :=
  Met l (xnm y) (xwsy y) (xrm d σ σ') (va_Pc (args.map (xre ad sv)) (xPre K D cA A sv adc ad σ)) (xQc D cA A sv adc ad σ σ' v) (nC σ' - nC σ) (nS σ' - nS σ) A
section XCall
variable {p : Program} {l : Launch} {e : Env} {R : Room} {s : State} {m : MethodId} {args : Array Value} {below : List Frame} {meth : Method} {c : Code} {Q : State → Prop} {D : va_G} {cA : Nat → ClassId} {A : Nat → Prop} {sv : Value} {adc ad : Nat → Nat} {own : Nat} {cc : ByteArray} {nL : Nat} {nm : MethodName} {pc : Nat} {H : Heap} {locs : List Loc} {lsA : Array Slot} {cells slots : Nat} {K : XK}
theorem xpres (C : xCx p s m args meth c D cA A sv adc own cc nL nm) (hsc : xSc K adc A s) {σ : XS} (hW : xWf D cA A s adc ad σ H locs) {U : State} (hU : U.heap = H) (hw : s.WarmedH U.vm) : xPre K D cA A sv adc ad σ U := by
  obtain ⟨hx, hb, hml, hown, hts, hK, hA, hE, hin⟩ := C
  refine ⟨by rw [hU]; exact hW.1, hW.2.1, va_K.moved hw.alike hK, fun q hq => hA q (Nat.le_trans hW.2.2.1.1 (by rw [hU] at hq; exact hq)), xEnv.to hE hw (fun a ha hn => by rw [hU]; exact hW.2.2.1.2.1 a ha hn), hW.2.2.2, xScr.to hsc hw.alike (by rw [hU]; exact hW.2.2.1.1) (fun a ha hn => by rw [hU]; exact hW.2.2.1.2.1 a ha hn)⟩
theorem xblind {As : List Value} {σ : XS} : FrameBlind (va_Pc As (xPre K D cA A sv adc ad σ)) := fun a U g mk q => ⟨q.1, xPre.to (V := U.calling g mk a) q.2 (State.WarmedH.refl U) rfl⟩
theorem x_keep {H0 : Heap} {A0 A1 free : Nat → Prop} {st₀ t T' : State} {L : List Loc} (h0 : st₀.heap = H) (e1 : T'.heap = t.heap) (hS : va_S A0 H0 H locs) (hA : ∀ q, q < H.size → A1 q → A0 q) (hf : ∀ q, free q → A0 q) (hL : ∀ q ∈ L, free q.base) (hF : va_F A1 st₀ t) : va_S A0 H0 T'.heap (locs ++ L) := by
  obtain ⟨hz, hk⟩ := hF
  rw [h0] at hz hk
  exact ⟨Nat.le_trans hS.1 (by rw [e1]; exact hz), fun q h1 h2 => by rw [e1, hk q (Nat.lt_of_lt_of_le h1 hS.1) (fun z => h2 (hA q (Nat.lt_of_lt_of_le h1 hS.1) z))]; exact hS.2.1 q h1 h2, fun q hq => by
    rcases List.mem_append.mp hq with h | h
    · exact hS.2.2 q h
    · exact hf _ (hL q h)⟩
/-- where the machine goes on behind a call -/
theorem x_after {σ σ' : XS} {v : Option Value} {mc ms : Nat} {st0 rest : List Value} {aa : Array Value} (hr : va_Run p l e R s m args below meth c H locs cells slots mc ms (F0 m pc lsA st0) rest (xQc D cA A sv adc ad σ σ' v aa) A) (hW : xWf D cA A s adc ad σ H locs)
    (kk : ∀ (ad' : Nat → Nat) (H' : Heap) (locs' : List Loc), xWf D cA A s adc ad' σ' H' locs' → xext σ σ' ad ad' → W p l e R s m args below meth c H' locs' (cells + mc) (slots + ms) Q (F0 m (pc + 3) lsA ((v.map (xre ad' sv)).toList ++ rest))) :
    W p l e R s m args below meth c H locs cells slots Q (F0 m pc lsA st0) := by
  intro T hT X
  obtain ⟨v1, st₀, t, T', L, h0, X', hL, e1, e2, ⟨ad', ho, hp, hd, hc, hx, hF⟩, st⟩ := hr T hT X
  cases ho
  have k3 := x_keep h0 e1 hW.2.2.1 (fun _ _ h => h) (fun _ h => h) hL hF
  obtain ⟨t2, a1, b1⟩ := kk ad' T'.heap (locs ++ L) ⟨by rw [e1]; exact hp, hd, k3, hc⟩ hx T' rfl X'
  exact ⟨t2, st t2 a1, b1⟩
end XCall
