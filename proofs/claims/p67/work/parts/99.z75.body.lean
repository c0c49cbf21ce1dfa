/-! The body of a method: from X's run of its blocks to the machine. -/
def xri : Nat → Instr
  | 0 => .return_
  | 5 => .lreturn
  | 6 => .freturn
  | 7 => .dreturn
  | 8 => .areturn
  | _ => .ireturn
def xrok : Nat → Option Value → Prop
  | 0, none => True
  | 5, some (.long _) => True
  | 6, some (.float _) => True
  | 7, some (.double _) => True
  | 8, some (.ref _) => True
  | rt, some (.int v) => xrt rt v = true
  | _, _ => False
/-- what is owed where the method returns -/
def xRet (p : Program) (l : Launch) (e : Env) (R : Room) (s : State) (m : MethodId) (args : Array Value) (below : List Frame) (meth : Method) (c : Code) (Q : State → Prop) (D : va_G) (cA : Nat → ClassId) (A : Nat → Prop) (sv : Value) (adc : Nat → Nat) (y bC bS : Nat) (ad : Nat → Nat) (σ : XS) (r : XR) (σ' : XS) : Prop :=
  ∀ (v : Option Value) (ad' : Nat → Nat) (H' : Heap) (locs' : List Loc) (pc' : Nat) (ls' : Array Slot) (rt : Nat), r = .inl v → (∃ z, xmt y = some z ∧ z.2.2.2.1 = rt) → xrok rt v → decode (ycc y) pc' = .ok (xri rt, 1) → xWf D cA A s adc ad' σ' H' locs' → xext σ σ' ad ad' →
    W p l e R s m args below meth c H' locs' (nC σ' - bC) (nS σ' - bS) Q (F0 m pc' ls' ((v.map (xre ad' sv)).toList))
def xGo (p : Program) (l : Launch) (e : Env) (R : Room) (s : State) (m : MethodId) (args : Array Value) (below : List Frame) (meth : Method) (c : Code) (Q : State → Prop) (D : va_G) (cA : Nat → ClassId) (A : Nat → Prop) (sv : Value) (adc : Nat → Nat) (y bC bS : Nat) (pc : Nat) (ls : XL) (st : List Value) (σ : XS) (r : XR) (σ' : XS) : Prop :=
  ∀ (ad : Nat → Nat) (H : Heap) (locs : List Loc) (lsA : Array Slot), xWf D cA A s adc ad σ H locs → lv_has lsA (yml y) (xreL ad sv ls) → bC ≤ nC σ → bS ≤ nS σ → nC σ' - bC ≤ R.cells → nS σ' - bS ≤ R.slots →
    xRet p l e R s m args below meth c Q D cA A sv adc y bC bS ad σ r σ' → (∃ v, r = .inl v) → W p l e R s m args below meth c H locs (nC σ - bC) (nS σ - bS) Q (F0 m pc lsA (st.map (xre ad sv)))
def xctl : Instr → Bool
  | .goto _ => true
  | .goto_w _ => true
  | .ifCond _ _ => true
  | .if_icmp _ _ => true
  | .ifnull _ => true
  | .ifnonnull _ => true
  | .if_acmp _ _ => true
  | .tableswitch _ _ _ _ => true
  | .lookupswitch _ _ => true
  | .ireturn => true
  | .lreturn => true
  | .freturn => true
  | .dreturn => true
  | .areturn => true
  | .return_ => true
  | .checkcast _ => true
  | .invokevirtual _ => true
  | .invokespecial _ => true
  | .invokestatic _ => true
  | _ => false
theorem xblk_simple {K : XK} {rt : Nat} {hd : List (Nat × Nat × Nat)} {J : Nat → XL → List Value → XS → XO} {Cc : Nat → List Value → XS → XO} {i : Instr} {is : List Instr} {ls : XL} {st : List Value} {σ : XS} (h : xctl i = false) :
    xblk K rt hd J Cc (i :: is) ls st σ = match xone K i ls st σ with
      | some (ls', st', σ') => xblk K rt hd J Cc is ls' st' σ'
      | none => none := by
  cases i <;> first | rfl | (cases h)
theorem xchk_simple {own nL : Nat} {ini : Bool} {b : ByteArray} {pcs : List Nat} {pc : Nat} {i : Instr} {is : List Instr} (h : xctl i = false) :
    xchk own nL ini b pcs pc (i :: is) = match decode b pc with
      | .ok (a, n) => decide (xsim own nL ini a = some (i, n)) && xchk own nL ini b pcs (pc + n) is
      | _ => false := by
  cases i <;> first | rfl | (cases h)
theorem xtgt_ok {pcs : List Nat} {pc : Nat} {off L : Int} (h : xtgt pcs pc off L = true) : ∃ t, pcs[L.toNat]? = some t ∧ (pc : Int) + off = (t : Int) := by
  unfold xtgt at h
  cases hp : pcs[L.toNat]? with
  | none => rw [hp] at h; cases h
  | some t => rw [hp] at h; exact ⟨t, rfl, of_decide_eq_true h⟩
theorem xre_oke {n : Nat} {ad ad' : Nat → Nat} {sv : Value} (h : ∀ a, (a < n ∨ 1000000 ≤ a) → ad' a = ad a) {v : Value} (hv : xok n v = true) : xre ad' sv v = xre ad sv v := by
  cases v with
  | ref a =>
    unfold xok at hv
    simp only [Bool.or_eq_true, decide_eq_true_eq] at hv
    show Value.ref (ad' a) = Value.ref (ad a)
    rw [h a hv]
  | _ => rfl
section XBody
variable {p : Program} {l : Launch} {e : Env} {R : Room} {s : State} {m : MethodId} {args : Array Value} {below : List Frame} {meth : Method} {c : Code} {Q : State → Prop} {D : va_G} {cA : Nat → ClassId} {A : Nat → Prop} {sv : Value} {adc : Nat → Nat} {y bC bS pc : Nat}
theorem xRet.step {ad ad1 : Nat → Nat} {σ σ1 σ' : XS} {r : XR} (h : xRet p l e R s m args below meth c Q D cA A sv adc y bC bS ad σ r σ') (hx : xext σ σ1 ad ad1) (l1 : xle σ σ1) (l2 : xle σ1 σ') : xRet p l e R s m args below meth c Q D cA A sv adc y bC bS ad1 σ1 r σ' :=
  fun v ad' H' locs' pc' ls' rt h1 h2 h3 h4 h5 h6 => h v ad' H' locs' pc' ls' rt h1 h2 h3 h4 h5 (hx.tr h6 l1 l2)
variable {K : XK} {ls : XL} {st rs : List Value} {σ σ' : XS} {r : XR} {off L : Int} {t : Nat}
theorem xGo_goto (C : xCx p s m args meth c D cA A sv adc (yown y) (ycc y) (yml y) (xnm y)) (hd : decode (ycc y) pc = .ok (.goto off, 3)) (ht : (pc : Int) + off = (t : Int)) (k : xGo p l e R s m args below meth c Q D cA A sv adc y bC bS t ls st σ r σ') : xGo p l e R s m args below meth c Q D cA A sv adc y bC bS pc ls st σ r σ' := by
  intro ad H locs lsA h1 h2 h3 h4 h5 h6 h7 h8
  exact lv_goto C.1 C.2.1 hd ht (k ad H locs lsA h1 h2 h3 h4 h5 h6 h7 h8)
theorem xGo_if (C : xCx p s m args meth c D cA A sv adc (yown y) (ycc y) (yml y) (xnm y)) {cd : ClassFile.Cond} {x : Int32} {tO fO : XO} (hd : decode (ycc y) pc = .ok (.ifCond cd off, 3)) (ht : (pc : Int) + off = (t : Int)) (h : xbr cd x 0 tO fO = some (r, σ'))
    (kt : tO = some (r, σ') → xGo p l e R s m args below meth c Q D cA A sv adc y bC bS t ls rs σ r σ') (kf : fO = some (r, σ') → xGo p l e R s m args below meth c Q D cA A sv adc y bC bS (pc + 3) ls rs σ r σ') : xGo p l e R s m args below meth c Q D cA A sv adc y bC bS pc ls (.int x :: rs) σ r σ' := by
  intro ad H locs lsA h1 h2 h3 h4 h5 h6 h7 h8
  have kt' := fun q => kt q ad H locs lsA h1 h2 h3 h4 h5 h6 h7 h8
  have kf' := fun q => kf q ad H locs lsA h1 h2 h3 h4 h5 h6 h7 h8
  unfold xbr at h
  cases cd <;> dsimp only at h
  · exact lv_if_eq C.1 C.2.1 hd ht (fun q => kt' (by rwa [if_pos q] at h)) (fun q => kf' (by rwa [if_neg q] at h))
  · exact lv_if_ne C.1 C.2.1 hd ht (fun q => kt' (by rwa [if_neg q] at h)) (fun q => kf' (by first | rwa [if_pos q] at h | rwa [if_pos (Decidable.not_not.mp q)] at h))
  · exact lv_if_lt C.1 C.2.1 hd ht (fun q => kt' (by rwa [if_pos q] at h)) (fun q => kf' (by rwa [if_neg q] at h))
  · exact lv_if_ge C.1 C.2.1 hd ht (fun q => kt' (by rwa [if_pos q] at h)) (fun q => kf' (by rwa [if_neg q] at h))
  · exact lv_if_gt C.1 C.2.1 hd ht (fun q => kt' (by rwa [if_pos q] at h)) (fun q => kf' (by rwa [if_neg q] at h))
  · exact lv_if_le C.1 C.2.1 hd ht (fun q => kt' (by rwa [if_pos q] at h)) (fun q => kf' (by rwa [if_neg q] at h))
theorem xGo_icmp (C : xCx p s m args meth c D cA A sv adc (yown y) (ycc y) (yml y) (xnm y)) {cd : ClassFile.Cond} {x z : Int32} {tO fO : XO} (hd : decode (ycc y) pc = .ok (.if_icmp cd off, 3)) (ht : (pc : Int) + off = (t : Int)) (h : xbr cd x z tO fO = some (r, σ'))
    (kt : tO = some (r, σ') → xGo p l e R s m args below meth c Q D cA A sv adc y bC bS t ls rs σ r σ') (kf : fO = some (r, σ') → xGo p l e R s m args below meth c Q D cA A sv adc y bC bS (pc + 3) ls rs σ r σ') : xGo p l e R s m args below meth c Q D cA A sv adc y bC bS pc ls (.int z :: .int x :: rs) σ r σ' := by
  intro ad H locs lsA h1 h2 h3 h4 h5 h6 h7 h8
  have kt' := fun q => kt q ad H locs lsA h1 h2 h3 h4 h5 h6 h7 h8
  have kf' := fun q => kf q ad H locs lsA h1 h2 h3 h4 h5 h6 h7 h8
  unfold xbr at h
  cases cd <;> dsimp only at h
  · exact lv_icmp_eq C.1 C.2.1 hd ht (fun q => kt' (by rwa [if_pos q] at h)) (fun q => kf' (by rwa [if_neg q] at h))
  · exact lv_icmp_ne C.1 C.2.1 hd ht (fun q => kt' (by rwa [if_neg q] at h)) (fun q => kf' (by first | rwa [if_pos q] at h | rwa [if_pos (Decidable.not_not.mp q)] at h))
  · exact lv_icmp_lt C.1 C.2.1 hd ht (fun q => kt' (by rwa [if_pos q] at h)) (fun q => kf' (by rwa [if_neg q] at h))
  · exact lv_icmp_ge C.1 C.2.1 hd ht (fun q => kt' (by rwa [if_pos q] at h)) (fun q => kf' (by rwa [if_neg q] at h))
  · exact lv_icmp_gt C.1 C.2.1 hd ht (fun q => kt' (by rwa [if_pos q] at h)) (fun q => kf' (by rwa [if_neg q] at h))
  · exact lv_icmp_le C.1 C.2.1 hd ht (fun q => kt' (by rwa [if_pos q] at h)) (fun q => kf' (by rwa [if_neg q] at h))
theorem xGo_ifnull (C : xCx p s m args meth c D cA A sv adc (yown y) (ycc y) (yml y) (xnm y)) {a : Nat} (hd : decode (ycc y) pc = .ok (.ifnull off, 3)) (k : xGo p l e R s m args below meth c Q D cA A sv adc y bC bS (pc + 3) ls rs σ r σ') : xGo p l e R s m args below meth c Q D cA A sv adc y bC bS pc ls (.ref a :: rs) σ r σ' := by
  intro ad H locs lsA h1 h2 h3 h4 h5 h6 h7 h8
  exact lv_ifnull C.1 C.2.1 hd (k ad H locs lsA h1 h2 h3 h4 h5 h6 h7 h8)
theorem xGo_ifnonnull (C : xCx p s m args meth c D cA A sv adc (yown y) (ycc y) (yml y) (xnm y)) {a : Nat} (hd : decode (ycc y) pc = .ok (.ifnonnull off, 3)) (ht : (pc : Int) + off = (t : Int)) (k : xGo p l e R s m args below meth c Q D cA A sv adc y bC bS t ls rs σ r σ') : xGo p l e R s m args below meth c Q D cA A sv adc y bC bS pc ls (.ref a :: rs) σ r σ' := by
  intro ad H locs lsA h1 h2 h3 h4 h5 h6 h7 h8
  exact lv_ifnonnull C.1 C.2.1 hd ht (k ad H locs lsA h1 h2 h3 h4 h5 h6 h7 h8)
theorem xGo_acmp (C : xCx p s m args meth c D cA A sv adc (yown y) (ycc y) (yml y) (xnm y)) {a b : Nat} (hd : decode (ycc y) pc = .ok (.if_acmp .ne off, 3)) (ht : (pc : Int) + off = (t : Int)) (ha : a < σ.1.length) (hb : b < σ.1.length) (hab : a ≠ b) (k : xGo p l e R s m args below meth c Q D cA A sv adc y bC bS t ls rs σ r σ') : xGo p l e R s m args below meth c Q D cA A sv adc y bC bS pc ls (.ref b :: .ref a :: rs) σ r σ' := by
  intro ad H locs lsA h1 h2 h3 h4 h5 h6 h7 h8
  have hne : ad a ≠ ad b := fun q => hab (h1.2.1.1 a b _ _ (xws_at (List.getElem?_eq_getElem ha)) (xws_at (List.getElem?_eq_getElem hb)) q)
  exact lv_acmp_ne (rx := some (ad a)) (ry := some (ad b)) C.1 C.2.1 hd ht (fun _ => k ad H locs lsA h1 h2 h3 h4 h5 h6 h7 h8) (fun q => absurd (Option.some.inj q) hne)
theorem xGo_tabIn (C : xCx p s m args meth c D cA A sv adc (yown y) (ycc y) (yml y) (xnm y)) {x : Int32} {d lo hi : Int} {offs : Array Int} {len : Nat} (hd : decode (ycc y) pc = .ok (.tableswitch d lo hi offs, len)) (hi1 : lo ≤ x.toInt ∧ x.toInt ≤ hi) (ho : offs[(x.toInt - lo).toNat]? = some off) (ht : (pc : Int) + off = (t : Int)) (k : xGo p l e R s m args below meth c Q D cA A sv adc y bC bS t ls rs σ r σ') : xGo p l e R s m args below meth c Q D cA A sv adc y bC bS pc ls (.int x :: rs) σ r σ' := by
  intro ad H locs lsA h1 h2 h3 h4 h5 h6 h7 h8
  exact lv_tableIn C.1 C.2.1 hd (by omega) (by omega) ho ht (k ad H locs lsA h1 h2 h3 h4 h5 h6 h7 h8)
theorem xGo_tabOut (C : xCx p s m args meth c D cA A sv adc (yown y) (ycc y) (yml y) (xnm y)) {x : Int32} {d lo hi : Int} {offs : Array Int} {len : Nat} (hd : decode (ycc y) pc = .ok (.tableswitch d lo hi offs, len)) (hi1 : ¬ (lo ≤ x.toInt ∧ x.toInt ≤ hi)) (ht : (pc : Int) + d = (t : Int)) (k : xGo p l e R s m args below meth c Q D cA A sv adc y bC bS t ls rs σ r σ') : xGo p l e R s m args below meth c Q D cA A sv adc y bC bS pc ls (.int x :: rs) σ r σ' := by
  intro ad H locs lsA h1 h2 h3 h4 h5 h6 h7 h8
  exact lv_tableOut C.1 C.2.1 hd (by omega) ht (k ad H locs lsA h1 h2 h3 h4 h5 h6 h7 h8)
theorem xGo_look (C : xCx p s m args meth c D cA A sv adc (yown y) (ycc y) (yml y) (xnm y)) {x : Int32} {d : Int} {ps : Array (Int × Int)} {len : Nat} (hd : decode (ycc y) pc = .ok (.lookupswitch d ps, len)) (hs : (ps.toList.zip (ps.toList.drop 1)).all (fun (a, next) => a.1 < next.1) = true) (ho : Op.lookupswitch.offset ps.toList d x.toInt = off) (ht : (pc : Int) + off = (t : Int)) (k : xGo p l e R s m args below meth c Q D cA A sv adc y bC bS t ls rs σ r σ') : xGo p l e R s m args below meth c Q D cA A sv adc y bC bS pc ls (.int x :: rs) σ r σ' := by
  intro ad H locs lsA h1 h2 h3 h4 h5 h6 h7 h8
  exact lv_lookup C.1 C.2.1 hd hs ho ht (k ad H locs lsA h1 h2 h3 h4 h5 h6 h7 h8)
theorem xGo_ret (C : xCx p s m args meth c D cA A sv adc (yown y) (ycc y) (yml y) (xnm y)) {v : Option Value} {rt : Nat} (hz : ∃ z, xmt y = some z ∧ z.2.2.2.1 = rt) (hv : xrok rt v) (hd : decode (ycc y) pc = .ok (xri rt, 1)) : xGo p l e R s m args below meth c Q D cA A sv adc y bC bS pc ls v.toList σ (.inl v) σ := by
  intro ad H locs lsA h1 h2 h3 h4 h5 h6 h7 h8
  have := h7 v ad H locs pc lsA rt rfl hz hv hd h1 xext.rf
  cases v <;> exact this
theorem xGo_one (C : xCx p s m args meth c D cA A sv adc (yown y) (ycc y) (yml y) (xnm y)) {i a : Instr} {n : Nat} {ls' : XL} {st' : List Value} {σ1 : XS} (hsc : xSc K adc A s) (hR : 1 ≤ R.frames ∧ 40 ≤ R.locals) (hs : xsim (yown y) (yml y) (xinit y) a = some (i, n)) (hd : decode (ycc y) pc = .ok (a, n)) (h1 : xone K i ls st σ = some (ls', st', σ1)) (l2 : xle σ1 σ')
    (k : xGo p l e R s m args below meth c Q D cA A sv adc y bC bS (pc + n) ls' st' σ1 r σ') : xGo p l e R s m args below meth c Q D cA A sv adc y bC bS pc ls st σ r σ' := by
  intro ad H locs lsA g1 g2 g3 g4 g5 g6 g7 g8
  have l1 := xone_mono h1
  have a1 := l1.2.1
  have a2 := l1.2.2
  have a3 := l2.2.1
  have a4 := l2.2.2
  refine sim_ok (bC := bC) (bS := bS) hs C hsc hR (fun q => by unfold xinit at q; simpa using q) hd ls st σ ls' st' σ1 ad H locs lsA h1 g1 g2 ⟨g3, g4, by omega, by omega⟩ ?_
  intro ad' H' locs' lsA' k1 k2 k3
  exact k ad' H' locs' lsA' k1 k3 (by omega) (by omega) g5 g6 (g7.step k2 l1 l2) g8
end XBody
