/-! X is sound. -/
theorem xowns : ((List.range 398).all fun y => !(yr y) || xow (yown y) == (xnm y).cls) = true := by decide +kernel
theorem xown_cls {y : Nat} (h : yr y = true) : xow (yown y) = (xnm y).cls := by
  have := List.all_eq_true.mp xowns y (List.mem_range.mpr (yr_lt h))
  rw [h] at this
  simpa using this
theorem xsl_len (vs : List Value) : (lg_sl vs).length = (vs.map fun v => v.category).sum := by
  induction vs with
  | nil => rfl
  | cons v t ih =>
    have e : lg_sl (v :: t) = (if v.category = 2 then [Slot.val v, .second] else [.val v]) ++ lg_sl t := rfl
    rw [e, List.length_append, ih, List.map_cons, List.sum_cons]
    rcases lv_cat v with h | h
    · rw [if_neg (by omega), h]; rfl
    · rw [if_pos h, h]; rfl
theorem xargs_re {ad : Nat → Nat} {sv : Value} (h : sv.category = 1) : ∀ (vs : List Value) (i : Nat), lv_args i (vs.map (xre ad sv)) = xreL ad sv (lv_args i vs) := by
  intro vs
  induction vs with
  | nil => intro i; rfl
  | cons v t ih =>
    intro i
    rw [List.map_cons]
    unfold lv_args
    rw [xre_cat h, ih]
    rfl
theorem x16 (a : UInt32) : a.toUInt16.toUInt32 = a % 65536 := by
  apply UInt32.toNat.inj
  simp
section XSound
variable {l : Launch} {y : MethodName} {ws ws' : List Cond} {rm : Room} {Pc : Array Value → State → Prop} {Qc : Array Value → State → Outcome → State → Prop} {mc ms : Nat} {free : Addr → Prop} {cc : ByteArray} {maxL : Nat} {ret : Option FieldType}
theorem x_ofW (hy : plainFor y = true) (hw : ws = Cond.code y cc maxL ret :: ws')
    (body : ∀ p e s m args below meth c s₁, BodyLoose p l y (headSpec ws rm) cc maxL ret e s m args below meth c s₁ → c.maxLocals = maxL → Pc args s →
      W p l e (headSpec ws rm).room s m args below meth c s.heap [] 0 0 (MQ below Qc args s mc ms free) (entryFrame m args maxL)) : Met l y ws rm Pc Qc mc ms free := by
  refine MetFree.of_bodySF (code := cc) (maxLocals := maxL) (ret := ret) hy ?_ ?_
  · intro args s m h hn
    obtain ⟨meth, c, h1, h2, h3, h4, h5, h6, -, -⟩ := Cond.code_spec hn (atoms_spec (ws := ws) h _ (by rw [hw]; exact List.mem_cons_self))
    exact ⟨meth, c, h1, h2, h3, h4, h5, h6⟩
  · intro p e s m args below meth c s₁ B hml hP _
    have hh0 : s₁.heap = s.heap := by rw [B.state]; rfl
    obtain ⟨t, a1, o, b1, b2, b3⟩ := body p e s m args below meth c s₁ B hml hP s₁ hh0 (Stand.of_body B)
    exact ⟨t, o, a1, b1, b2, ⟨b3.1, b3.2⟩⟩
end XSound
section XSound2
variable {l : Launch} {D : va_G} {cA : Nat → ClassId} {A : Nat → Prop} {sv : Value} {adc : Nat → Nat}
def xFrs (l : Launch) (D : va_G) (cA : Nat → ClassId) (A : Nat → Prop) (sv : Value) (adc : Nat → Nat) (n : Nat) : Prop :=
  ∀ (K : XK) (d y L : Nat) (ls : XL) (st : List Value) (σ : XS) (r : XR) (σ' : XS), xrun K n d y L ls st σ = some (r, σ') → xyok y = true → ∀ (p : Program) (e : Env) (R : Room) (s : State) (m : MethodId) (args : Array Value) (below : List Frame) (meth : Method) (c : Code) (Q : State → Prop) (bC bS pc : Nat),
    xCx p s m args meth c D cA A sv adc (yown y) (ycc y) (yml y) (xnm y) → xSc K adc A s → (d + 1 ≤ R.frames ∧ (d + 1) * 40 ≤ R.locals) → (ypcs y)[L]? = some pc →
    xGo p l e R s m args below meth c Q D cA A sv adc y bC bS pc ls st σ r σ'
def xMets (l : Launch) (D : va_G) (cA : Nat → ClassId) (A : Nat → Prop) (sv : Value) (adc : Nat → Nat) (n : Nat) : Prop :=
  ∀ (K : XK) (d y : Nat) (as : List Value) (σ : XS) (v : Option Value) (σ' : XS), xrun K n d y 0 (lv_args 0 as) [] σ = some (.inl v, σ') → yr y = true → xcat as ≤ yml y → ∀ ad, xMt K l D cA A sv adc ad d y as σ v σ'
theorem xmet_of (hsv : sv.category = 1) (hY : ∀ y, yr y = true → xyok y = true ∧ xyw y = true) {n : Nat} (h : xFrs l D cA A sv adc n) : xMets l D cA A sv adc n := by
  intro K d y as σ v0 σ' hrun hy9 hcat ad
  obtain ⟨a1, a2⟩ := hY y hy9
  obtain ⟨na, ml, rc, rt, bs, hm, v1, v2, v3, v4, v5, v6, v7, v10⟩ := yok_spec a1
  obtain ⟨na1, ml1, rc1, rt1, hd1, bs1, hm1, w1, w2, w3, w4, w5, w6, w7, w8, w9⟩ := yw_spec a2
  rw [hm] at hm1; cases hm1
  have hle : xle σ σ' := xrun_mono _ _ _ _ _ _ _ _ _ hrun
  have hla := hle.2.1
  have hlb := hle.2.2
  unfold xMt
  refine x_ofW (cc := ycc y) (maxL := yml y) (ret := yret y) (ws' := xWS) w5 rfl ?_
  intro p e s m args below meth c s₁ B hml hPc
  obtain ⟨rfl, hP, hD, hK, hA, hE, hc, hsc⟩ := hPc
  have hts : ∀ w ∈ xWS, w.before ((as.map (xre ad sv)).toArray) s = true := fun w hw => atoms_spec (ws := xwsy y) B.pre w (List.mem_cons_of_mem _ hw)
  have C : xCx p s m ((as.map (xre ad sv)).toArray) meth c D cA A sv adc (yown y) (ycc y) (yml y) (xnm y) :=
    ⟨B.exec, B.bytes, hml, by rw [xown_cls hy9]; exact findClass_of_methodNamed B.named, hts, hK, hA, hE, (name_of_methodNamed B.named B.method).1⟩
  have hW : xWf D cA A s adc ad σ s.heap [] := ⟨hP, hD, va_S.rf, hc⟩
  have hlk : meth.locks = false := B.notSynchronized
  rw [lg_entry_eq]
  have hent := lv_entry (as.map (xre ad sv)) (n := yml y) (by rw [xsl_len, xcat_re hsv]; exact hcat)
  rw [xargs_re hsv] at hent
  have go := h K d y 0 _ _ _ _ _ hrun a1 p e (xrm d σ σ') s m ((as.map (xre ad sv)).toArray) below meth c (MQ below (xQc D cA A sv adc ad σ σ' v0) ((as.map (xre ad sv)).toArray) s (nC σ' - nC σ) (nS σ' - nS σ) A) (nC σ) (nS σ) 0 C hsc ⟨Nat.le_refl _, Nat.le_refl _⟩ v4
    ad s.heap [] _ hW hent (Nat.le_refl _) (Nat.le_refl _) (Nat.le_refl _) (Nat.le_refl _) ?_ ⟨_, rfl⟩
  · rw [Nat.sub_self, Nat.sub_self] at go
    exact go
  · intro v ad' H' locs' pc' ls' rt' hr hz hv hd' hW' hx
    obtain ⟨z, hz1, hz2⟩ := hz
    rw [hm] at hz1; cases hz1
    dsimp only at hz2
    subst hz2
    have hr9 : v = v0 := (Sum.inl.inj hr).symm
    subst hr9
    have hq : ∀ t : State, t.heap = H' → s.WarmedH t.vm → ∀ w, w = v.map (xre ad' sv) → xQc D cA A sv adc ad σ σ' v ((as.map (xre ad sv)).toArray) s (.returned w) t := by
      intro t ht _ w hw
      exact ⟨ad', by rw [hw], by rw [ht]; exact hW'.1, hW'.2.1, hW'.2.2.2, hx, hW'.2.2.1.F ht⟩
    have hfr : ∀ q ∈ locs', A q.base := hW'.2.2.1.2.2
    have hret := B.returns
    match rt, v, hv, hd', v3 with
    | 0, none, _, hd', v3 =>
      have h0 : yret y = none := by
        cases hh : yret y with
        | none => rfl
        | some t => rw [hh] at v3; unfold xrtk at v3; cases v3
      rw [h0] at hret
      exact W.vret C.1 C.2.1 hret (fun t h1 h2 => hq t h1 h2 _ rfl) hfr hd' hlk
    | 5, some (.long x), _, hd', v3 =>
      have h0 : yret y = some .long := by unfold xrtk at v3; split at v3 <;> first | assumption | (cases v3; done) | (simp_all; done)
      rw [h0] at hret
      exact W.lret C.1 C.2.1 hret (fun t h1 h2 => hq t h1 h2 _ rfl) hfr hd' hlk
    | 6, some (.float x), _, hd', v3 =>
      have h0 : yret y = some .float := by unfold xrtk at v3; split at v3 <;> first | assumption | (cases v3; done) | (simp_all; done)
      rw [h0] at hret
      exact W.fret C.1 C.2.1 hret (fun t h1 h2 => hq t h1 h2 _ rfl) hfr hd' hlk
    | 7, some (.double x), _, hd', v3 =>
      have h0 : yret y = some .double := by unfold xrtk at v3; split at v3 <;> first | assumption | (cases v3; done) | (simp_all; done)
      rw [h0] at hret
      exact W.dret C.1 C.2.1 hret (fun t h1 h2 => hq t h1 h2 _ rfl) hfr hd' hlk
    | 8, some (.ref x), _, hd', v3 =>
      have h0 : ∃ t, yret y = some t ∧ ((∃ n, t = .object n) ∨ ∃ u, t = .array u) := by
        unfold xrtk at v3
        split at v3 <;> first | exact ⟨_, by assumption, Or.inl ⟨_, rfl⟩⟩ | exact ⟨_, by assumption, Or.inr ⟨_, rfl⟩⟩ | (cases v3; done) | (simp_all; done)
      obtain ⟨tt, h0, h00⟩ := h0
      rw [h0] at hret
      exact W.aret C.1 C.2.1 hret h00 (Or.inr ⟨_, rfl⟩) (fun t h1 h2 => hq t h1 h2 _ rfl) hfr hd' hlk
    | 1, some (.int x), _, hd', v3 =>
      have h0 : yret y = some .int := by unfold xrtk at v3; split at v3 <;> first | assumption | (cases v3; done) | (simp_all; done)
      rw [h0] at hret
      exact W.iret C.1 C.2.1 hret (fun t h1 h2 => hq t h1 h2 _ rfl) hfr hd' hlk
    | 2, some (.int x), hv, hd', v3 =>
      have h0 : yret y = some .boolean := by unfold xrtk at v3; split at v3 <;> first | assumption | (cases v3; done) | (simp_all; done)
      rw [h0] at hret
      have hx01 : x = 0 ∨ x = 1 := by
        have : (x == 0 || x == 1) = true := hv
        simpa using this
      refine W.zret C.1 C.2.1 hret ?_ (fun t h1 h2 => hq t h1 h2 _ rfl) hfr hd' hlk
      rcases hx01 with rfl | rfl <;> decide
    | 3, some (.int x), hv, hd', v3 =>
      have h0 : yret y = some .byte := by unfold xrtk at v3; split at v3 <;> first | assumption | (cases v3; done) | (simp_all; done)
      rw [h0] at hret
      have hx01 : x = 0 := by
        have : (x == 0) = true := hv
        simpa using this
      refine W.zret C.1 C.2.1 hret ?_ (fun t h1 h2 => hq t h1 h2 _ rfl) hfr hd' hlk
      subst hx01; decide
    | 4, some (.int x), hv, hd', v3 =>
      have h0 : yret y = some .char := by unfold xrtk at v3; split at v3 <;> first | assumption | (cases v3; done) | (simp_all; done)
      rw [h0] at hret
      have hx01 : (x.toUInt32 % 65536).toInt32 = x := by
        have : ((x.toUInt32 % 65536).toInt32 == x) = true := hv
        simpa using this
      refine W.zret C.1 C.2.1 hret ?_ (fun t h1 h2 => hq t h1 h2 _ rfl) hfr hd' hlk
      show Value.int x.toUInt32.toUInt16.toUInt32.toInt32 = .int x
      rw [x16, hx01]
theorem xsound (hsv : sv.category = 1) (hY : ∀ y, yr y = true → xyok y = true ∧ xyw y = true) : ∀ n, xFrs l D cA A sv adc n := by
  intro n
  induction n with
  | zero => intro K d y L ls st σ r σ' h; cases h
  | succ n ih =>
    intro K d y L ls st σ r σ' h hy p e R s m args below meth c Q bC bS pc C hsc hR hpc
    have hmet := xmet_of hsv hY ih
    obtain ⟨na, ml, rc, rt, bs, hm, v1, v2, v3, v4, v5, v6, v7, v10⟩ := yok_spec hy
    unfold xrun at h
    rw [hm] at h
    dsimp only at h
    cases hb : bs[L]? with
    | none => rw [hb] at h; cases h
    | some q =>
      obtain ⟨lv, is⟩ := q
      rw [hb] at h
      dsimp only at h
      have hchk : xchk (yown y) (yml y) (xinit y) (ycc y) (ypcs y) pc is = true := by
        have hz : ((ypcs y).zip bs)[L]? = some (pc, (lv, is)) := by
          rw [List.getElem?_zip_eq_some]; exact ⟨hpc, hb⟩
        have := List.all_eq_true.mp v6 _ (List.mem_of_getElem? hz)
        rw [v1] at this
        exact this
      have hrk : rt ≤ 8 := by
        unfold xrtk at v3
        split at v3 <;> first | omega | (cases v3; done)
      have go := xblk_ok (l := l) (d := d) (Q := Q) (bC := bC) (bS := bS) (R := R) (e := e) (below := below) C hsc hR ⟨_, hm, rfl⟩ hrk hY (fun L ls st σ r σ' q => xrun_mono _ _ _ _ _ _ _ _ _ q) ?_ ?_ ?_ is pc (xnorm lv ls) st σ r σ' hchk h
      · intro ad H locs lsA h1 h2 h3 h4 h5 h6 h7 h8
        exact go ad H locs lsA h1 (xreL_norm h2 lv) h3 h4 h5 h6 h7 h8
      · intro y' as σ r σ' q
        cases d with
        | zero => cases q
        | succ d' => exact xrun_mono _ _ _ _ _ _ _ _ _ q
      · intro L ls st σ r σ' q pc2 hp2
        exact ih K d y L ls st σ r σ' q hy p e R s m args below meth c Q bC bS pc2 C hsc hR hp2
      · intro y' as σ v σ' h9 q hcat
        cases d with
        | zero => cases q
        | succ d' => exact ⟨d', rfl, fun ad => hmet K d' y' as σ v σ' q h9 hcat ad⟩
end XSound2
