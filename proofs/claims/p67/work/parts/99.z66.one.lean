/-! One instruction of X is the machine's own step. -/
section XOne
variable {p : Program} {l : Launch} {e : Env} {R : Room} {s : State} {m : MethodId} {args : Array Value} {below : List Frame} {meth : Method} {c : Code} {Q : State → Prop} {D : va_G} {cA : Nat → ClassId} {A : Nat → Prop} {sv : Value} {adc : Nat → Nat} {own : Nat} {cc : ByteArray} {nL : Nat} {nm : MethodName} {bC bS : Nat} {pc : Nat}
/-- the instruction i at pc, n bytes long, goes on as X says -/
def xStep (p : Program) (l : Launch) (e : Env) (R : Room) (s : State) (m : MethodId) (args : Array Value) (below : List Frame) (meth : Method) (c : Code) (Q : State → Prop) (D : va_G) (cA : Nat → ClassId) (A : Nat → Prop) (sv : Value) (adc : Nat → Nat) (nL : Nat) (bC bS : Nat) (K : XK) (i : Instr) (pc n : Nat) : Prop :=
  ∀ (ls : XL) (st : List Value) (σ : XS) (ls' : XL) (st' : List Value) (σ' : XS) (ad : Nat → Nat) (H : Heap) (locs : List Loc) (lsA : Array Slot), xone K i ls st σ = some (ls', st', σ') → xWf D cA A s adc ad σ H locs → lv_has lsA nL (xreL ad sv ls) →
    (bC ≤ nC σ ∧ bS ≤ nS σ ∧ nC σ' - bC ≤ R.cells ∧ nS σ' - bS ≤ R.slots) →
    (∀ (ad' : Nat → Nat) (H' : Heap) (locs' : List Loc) (lsA' : Array Slot), xWf D cA A s adc ad' σ' H' locs' → (∀ a, (a < σ.1.length ∨ σ'.1.length ≤ a) → ad' a = ad a) → lv_has lsA' nL (xreL ad' sv ls') →
      W p l e R s m args below meth c H' locs' (nC σ' - bC) (nS σ' - bS) Q (F0 m (pc + n) lsA' (st'.map (xre ad' sv)))) →
    W p l e R s m args below meth c H locs (nC σ - bC) (nS σ - bS) Q (F0 m pc lsA (st.map (xre ad sv)))
theorem sn_iconst {K : XK} (C : xCx p s m args meth c D cA A sv adc own cc nL nm) {n : Int} (hd : decode cc pc = .ok (.iconst n, 1)) : xStep p l e R s m args below meth c Q D cA A sv adc nL bC bS K (.iconst n) pc 1 := by
  obtain ⟨hx, hb, hml, hown, hts, hK, hA, hE, hin⟩ := C
  have hsv := hE.2.2.2.2.2.2.2.2.2.2.2.1
  intro ls st σ ls' st' σ' ad H locs lsA h hW hl hB kk
  unfold xone at h
  dsimp only at h
  cases h
  exact lv_iconst (v := Int32.ofInt n) hx hb hd rfl (kk ad H locs lsA hW (fun _ _ => rfl) hl)
theorem sn_bipush {K : XK} (C : xCx p s m args meth c D cA A sv adc own cc nL nm) {n : Int} (hv : (Int8.ofInt n).toInt32 = Int32.ofInt n) (hd : decode cc pc = .ok (.bipush n, 2)) : xStep p l e R s m args below meth c Q D cA A sv adc nL bC bS K (.iconst n) pc 2 := by
  obtain ⟨hx, hb, hml, hown, hts, hK, hA, hE, hin⟩ := C
  have hsv := hE.2.2.2.2.2.2.2.2.2.2.2.1
  intro ls st σ ls' st' σ' ad H locs lsA h hW hl hB kk
  unfold xone at h
  dsimp only at h
  cases h
  exact lv_bipush (v := Int32.ofInt n) hx hb hd hv (kk ad H locs lsA hW (fun _ _ => rfl) hl)
theorem sn_sipush {K : XK} (C : xCx p s m args meth c D cA A sv adc own cc nL nm) {n : Int} (hv : (Int16.ofInt n).toInt32 = Int32.ofInt n) (hd : decode cc pc = .ok (.sipush n, 3)) : xStep p l e R s m args below meth c Q D cA A sv adc nL bC bS K (.iconst n) pc 3 := by
  obtain ⟨hx, hb, hml, hown, hts, hK, hA, hE, hin⟩ := C
  have hsv := hE.2.2.2.2.2.2.2.2.2.2.2.1
  intro ls st σ ls' st' σ' ad H locs lsA h hW hl hB kk
  unfold xone at h
  dsimp only at h
  cases h
  exact lv_sipush (v := Int32.ofInt n) hx hb hd hv (kk ad H locs lsA hW (fun _ _ => rfl) hl)
theorem sn_ldci {K : XK} (C : xCx p s m args meth c D cA A sv adc own cc nL nm) {n : Int} {k : Nat} (hw : Cond.constant (xow own) k (Int32.ofInt n) ∈ xWS) (hd : decode cc pc = .ok (.ldc k, 2)) : xStep p l e R s m args below meth c Q D cA A sv adc nL bC bS K (.iconst n) pc 2 := by
  obtain ⟨hx, hb, hml, hown, hts, hK, hA, hE, hin⟩ := C
  have hsv := hE.2.2.2.2.2.2.2.2.2.2.2.1
  intro ls st σ ls' st' σ' ad H locs lsA h hW hl hB kk
  unfold xone at h
  dsimp only at h
  cases h
  exact lv_ldc (v := Int32.ofInt n) hx hb hown (hts _ hw) hd (kk ad H locs lsA hW (fun _ _ => rfl) hl)
theorem sn_ldcwi {K : XK} (C : xCx p s m args meth c D cA A sv adc own cc nL nm) {n : Int} {k : Nat} (hw : Cond.constant (xow own) k (Int32.ofInt n) ∈ xWS) (hd : decode cc pc = .ok (.ldc_w k, 3)) : xStep p l e R s m args below meth c Q D cA A sv adc nL bC bS K (.iconst n) pc 3 := by
  obtain ⟨hx, hb, hml, hown, hts, hK, hA, hE, hin⟩ := C
  have hsv := hE.2.2.2.2.2.2.2.2.2.2.2.1
  intro ls st σ ls' st' σ' ad H locs lsA h hW hl hB kk
  unfold xone at h
  dsimp only at h
  cases h
  exact lv_ldcw (v := Int32.ofInt n) hx hb hown (hts _ hw) hd (kk ad H locs lsA hW (fun _ _ => rfl) hl)
theorem sn_ldcf {K : XK} (C : xCx p s m args meth c D cA A sv adc own cc nL nm) {n k : Nat} (hw : Cond.constantFloat (xow own) k (UInt32.ofNat n) ∈ xWS) (hd : decode cc pc = .ok (.ldc k, 2)) : xStep p l e R s m args below meth c Q D cA A sv adc nL bC bS K (.ldc_w n) pc 2 := by
  obtain ⟨hx, hb, hml, hown, hts, hK, hA, hE, hin⟩ := C
  have hsv := hE.2.2.2.2.2.2.2.2.2.2.2.1
  intro ls st σ ls' st' σ' ad H locs lsA h hW hl hB kk
  unfold xone at h
  dsimp only at h
  cases h
  exact lv_ldcf (v := UInt32.ofNat n) hx hb hown (hts _ hw) hd (kk ad H locs lsA hW (fun _ _ => rfl) hl)
theorem sn_ldcwF {T : State} {locs : List Loc} {cells slots : Nat} (X : Stand p l e R s m args below meth c T locs cells slots) (hexec : p.tables.exec = Jvm.exec) {own : String} {index : Nat} {v : UInt32} (hown : s.vm.findClass own = some m.cls)
    (hconst : (Cond.constantFloat own index v).before args s = true) {g : JFrame} (hg : g.method = m) (hdg : decode c.code g.pc = .ok (.ldc_w index, 3)) :
    ∀ target, Steps p.tables e below (T.setTop { g with pc := g.pc + 3, stack := .float v :: g.stack }) target → Steps p.tables e below (T.setTop g) target := by
  obtain ⟨k, cf, hk, hcf, hcp⟩ := Cond.constantFloat_spec hown hconst
  obtain ⟨k', hk', he⟩ := X.warmed.alike.2.2 _ _ hk
  intro target hrest
  subst hg
  jvm_step X.here [hexec, hdg, ldc_w.wp_float (s := T) (f := g) X.here.top hk' (by rw [he]; exact hcf) hcp]
  exact hrest
theorem lv_ldcwf {H : Heap} {locs : List Loc} {cells slots : Nat} {ls : Array Slot} {rest : List Value} (hexec : p.tables.exec = Jvm.exec) (hb : c.code = cc) {own : String} {index : Nat} {v : UInt32} (hown : s.vm.findClass own = some m.cls) (hconst : (Jvm.Cond.constantFloat own index v).before args s = true) (hdg : decode cc pc = .ok (.ldc_w index, 3)) (k : W p l e R s m args below meth c H locs cells slots Q (F0 m (pc + 3) ls (.float v :: rest))) : W p l e R s m args below meth c H locs cells slots Q (F0 m pc ls rest) := by
  intro T hT X
  obtain ⟨t, a, b⟩ := k T hT X
  exact ⟨t, sn_ldcwF X hexec hown hconst (g := F0 m pc ls rest) rfl (by rw [hb]; exact hdg) t a, b⟩
theorem sn_ldcwf {K : XK} (C : xCx p s m args meth c D cA A sv adc own cc nL nm) {n k : Nat} (hw : Cond.constantFloat (xow own) k (UInt32.ofNat n) ∈ xWS) (hd : decode cc pc = .ok (.ldc_w k, 3)) : xStep p l e R s m args below meth c Q D cA A sv adc nL bC bS K (.ldc_w n) pc 3 := by
  obtain ⟨hx, hb, hml, hown, hts, hK, hA, hE, hin⟩ := C
  have hsv := hE.2.2.2.2.2.2.2.2.2.2.2.1
  intro ls st σ ls' st' σ' ad H locs lsA h hW hl hB kk
  unfold xone at h
  dsimp only at h
  cases h
  exact lv_ldcwf (v := UInt32.ofNat n) hx hb hown (hts _ hw) hd (kk ad H locs lsA hW (fun _ _ => rfl) hl)
theorem sn_ldc2d {K : XK} (C : xCx p s m args meth c D cA A sv adc own cc nL nm) {n k : Nat} (hw : Cond.constantDouble (xow own) k (UInt64.ofNat n) ∈ xWS) (hd : decode cc pc = .ok (.ldc2_w k, 3)) : xStep p l e R s m args below meth c Q D cA A sv adc nL bC bS K (.ldc2_w n) pc 3 := by
  obtain ⟨hx, hb, hml, hown, hts, hK, hA, hE, hin⟩ := C
  have hsv := hE.2.2.2.2.2.2.2.2.2.2.2.1
  intro ls st σ ls' st' σ' ad H locs lsA h hW hl hB kk
  unfold xone at h
  dsimp only at h
  cases h
  exact lv_ldc2d (v := UInt64.ofNat n) hx hb hown (hts _ hw) hd (kk ad H locs lsA hW (fun _ _ => rfl) hl)
theorem sn_ldc2l {K : XK} (C : xCx p s m args meth c D cA A sv adc own cc nL nm) {n : Int} {k : Nat} (hw : Cond.constantLong (xow own) k (Int64.ofInt n) ∈ xWS) (hd : decode cc pc = .ok (.ldc2_w k, 3)) : xStep p l e R s m args below meth c Q D cA A sv adc nL bC bS K (.jsr n) pc 3 := by
  obtain ⟨hx, hb, hml, hown, hts, hK, hA, hE, hin⟩ := C
  have hsv := hE.2.2.2.2.2.2.2.2.2.2.2.1
  intro ls st σ ls' st' σ' ad H locs lsA h hW hl hB kk
  unfold xone at h
  dsimp only at h
  cases h
  exact lv_ldc2 (v := Int64.ofInt n) hx hb hown (hts _ hw) hd (kk ad H locs lsA hW (fun _ _ => rfl) hl)
theorem sn_lconst {K : XK} (C : xCx p s m args meth c D cA A sv adc own cc nL nm) {n : Fin 2} (hd : decode cc pc = .ok (.lconst n, 1)) : xStep p l e R s m args below meth c Q D cA A sv adc nL bC bS K (.lconst n) pc 1 := by
  obtain ⟨hx, hb, hml, hown, hts, hK, hA, hE, hin⟩ := C
  have hsv := hE.2.2.2.2.2.2.2.2.2.2.2.1
  intro ls st σ ls' st' σ' ad H locs lsA h hW hl hB kk
  unfold xone at h
  dsimp only at h
  cases h
  exact lv_lconst (v := Int64.ofNat (n : Nat)) hx hb hd rfl (kk ad H locs lsA hW (fun _ _ => rfl) hl)
theorem sn_iload_n {K : XK} (C : xCx p s m args meth c D cA A sv adc own cc nL nm) {n : Fin 4} (hd : decode cc pc = .ok (.iload_n n, 1)) : xStep p l e R s m args below meth c Q D cA A sv adc nL bC bS K (.iload (n : Nat)) pc 1 := by
  obtain ⟨hx, hb, hml, hown, hts, hK, hA, hE, hin⟩ := C
  have hsv := hE.2.2.2.2.2.2.2.2.2.2.2.1
  intro ls st σ ls' st' σ' ad H locs lsA h hW hl hB kk
  unfold xone at h
  dsimp only at h
  split at h
  · rename_i v hv
    cases h
    exact lv_iload_n hx hb hd rfl (xk_at hl hv) (kk ad H locs lsA hW (fun _ _ => rfl) hl)
  · cases h
theorem sn_iload {K : XK} (C : xCx p s m args meth c D cA A sv adc own cc nL nm) {n : Nat} (hd : decode cc pc = .ok (.iload n, 2)) : xStep p l e R s m args below meth c Q D cA A sv adc nL bC bS K (.iload n) pc 2 := by
  obtain ⟨hx, hb, hml, hown, hts, hK, hA, hE, hin⟩ := C
  have hsv := hE.2.2.2.2.2.2.2.2.2.2.2.1
  intro ls st σ ls' st' σ' ad H locs lsA h hW hl hB kk
  unfold xone at h
  dsimp only at h
  split at h
  · rename_i v hv
    cases h
    exact lv_iload hx hb hd (xk_at hl hv) (kk ad H locs lsA hW (fun _ _ => rfl) hl)
  · cases h
theorem sn_istore_n {K : XK} (C : xCx p s m args meth c D cA A sv adc own cc nL nm) {n : Fin 4} (hn : (n : Nat) < nL) (hd : decode cc pc = .ok (.istore_n n, 1)) : xStep p l e R s m args below meth c Q D cA A sv adc nL bC bS K (.istore (n : Nat)) pc 1 := by
  obtain ⟨hx, hb, hml, hown, hts, hK, hA, hE, hin⟩ := C
  have hsv := hE.2.2.2.2.2.2.2.2.2.2.2.1
  intro ls st σ ls' st' σ' ad H locs lsA h hW hl hB kk
  unfold xone at h
  dsimp only at h
  split at h
  · cases h
    exact lv_istore_n hx hb hd rfl hl hn rfl (fun lsA' hl' => kk ad H locs lsA' hW (fun _ _ => rfl) (xst_1 hsv rfl hl'))
  · cases h
theorem sn_istore {K : XK} (C : xCx p s m args meth c D cA A sv adc own cc nL nm) {n : Nat} (hn : n < nL) (hd : decode cc pc = .ok (.istore n, 2)) : xStep p l e R s m args below meth c Q D cA A sv adc nL bC bS K (.istore n) pc 2 := by
  obtain ⟨hx, hb, hml, hown, hts, hK, hA, hE, hin⟩ := C
  have hsv := hE.2.2.2.2.2.2.2.2.2.2.2.1
  intro ls st σ ls' st' σ' ad H locs lsA h hW hl hB kk
  unfold xone at h
  dsimp only at h
  split at h
  · cases h
    exact lv_istore hx hb hd hl hn rfl (fun lsA' hl' => kk ad H locs lsA' hW (fun _ _ => rfl) (xst_1 hsv rfl hl'))
  · cases h
theorem sn_aload_n {K : XK} (C : xCx p s m args meth c D cA A sv adc own cc nL nm) {n : Fin 4} (hd : decode cc pc = .ok (.aload_n n, 1)) : xStep p l e R s m args below meth c Q D cA A sv adc nL bC bS K (.aload (n : Nat)) pc 1 := by
  obtain ⟨hx, hb, hml, hown, hts, hK, hA, hE, hin⟩ := C
  have hsv := hE.2.2.2.2.2.2.2.2.2.2.2.1
  intro ls st σ ls' st' σ' ad H locs lsA h hW hl hB kk
  unfold xone at h
  dsimp only at h
  split at h
  · rename_i v hv
    cases h
    exact lv_aload_n hx hb hd rfl (xk_at hl hv) (kk ad H locs lsA hW (fun _ _ => rfl) hl)
  · cases h
theorem sn_aload {K : XK} (C : xCx p s m args meth c D cA A sv adc own cc nL nm) {n : Nat} (hd : decode cc pc = .ok (.aload n, 2)) : xStep p l e R s m args below meth c Q D cA A sv adc nL bC bS K (.aload n) pc 2 := by
  obtain ⟨hx, hb, hml, hown, hts, hK, hA, hE, hin⟩ := C
  have hsv := hE.2.2.2.2.2.2.2.2.2.2.2.1
  intro ls st σ ls' st' σ' ad H locs lsA h hW hl hB kk
  unfold xone at h
  dsimp only at h
  split at h
  · rename_i v hv
    cases h
    exact lv_aload hx hb hd (xk_at hl hv) (kk ad H locs lsA hW (fun _ _ => rfl) hl)
  · cases h
theorem sn_astore_n {K : XK} (C : xCx p s m args meth c D cA A sv adc own cc nL nm) {n : Fin 4} (hn : (n : Nat) < nL) (hd : decode cc pc = .ok (.astore_n n, 1)) : xStep p l e R s m args below meth c Q D cA A sv adc nL bC bS K (.astore (n : Nat)) pc 1 := by
  obtain ⟨hx, hb, hml, hown, hts, hK, hA, hE, hin⟩ := C
  have hsv := hE.2.2.2.2.2.2.2.2.2.2.2.1
  intro ls st σ ls' st' σ' ad H locs lsA h hW hl hB kk
  unfold xone at h
  dsimp only at h
  split at h
  · cases h
    exact lv_astore_n hx hb hd rfl hl hn rfl (fun lsA' hl' => kk ad H locs lsA' hW (fun _ _ => rfl) (xst_1 hsv rfl hl'))
  · cases h
theorem sn_astore {K : XK} (C : xCx p s m args meth c D cA A sv adc own cc nL nm) {n : Nat} (hn : n < nL) (hd : decode cc pc = .ok (.astore n, 2)) : xStep p l e R s m args below meth c Q D cA A sv adc nL bC bS K (.astore n) pc 2 := by
  obtain ⟨hx, hb, hml, hown, hts, hK, hA, hE, hin⟩ := C
  have hsv := hE.2.2.2.2.2.2.2.2.2.2.2.1
  intro ls st σ ls' st' σ' ad H locs lsA h hW hl hB kk
  unfold xone at h
  dsimp only at h
  split at h
  · cases h
    exact lv_astore hx hb hd hl hn rfl (fun lsA' hl' => kk ad H locs lsA' hW (fun _ _ => rfl) (xst_1 hsv rfl hl'))
  · cases h
theorem sn_lload_n {K : XK} (C : xCx p s m args meth c D cA A sv adc own cc nL nm) {n : Fin 4} (hd : decode cc pc = .ok (.lload_n n, 1)) : xStep p l e R s m args below meth c Q D cA A sv adc nL bC bS K (.lload (n : Nat)) pc 1 := by
  obtain ⟨hx, hb, hml, hown, hts, hK, hA, hE, hin⟩ := C
  have hsv := hE.2.2.2.2.2.2.2.2.2.2.2.1
  intro ls st σ ls' st' σ' ad H locs lsA h hW hl hB kk
  unfold xone at h
  dsimp only at h
  split at h
  · rename_i v hv
    cases h
    exact lv_lload_n hx hb hd rfl (xk_at hl hv) (kk ad H locs lsA hW (fun _ _ => rfl) hl)
  · cases h
theorem sn_lload {K : XK} (C : xCx p s m args meth c D cA A sv adc own cc nL nm) {n : Nat} (hd : decode cc pc = .ok (.lload n, 2)) : xStep p l e R s m args below meth c Q D cA A sv adc nL bC bS K (.lload n) pc 2 := by
  obtain ⟨hx, hb, hml, hown, hts, hK, hA, hE, hin⟩ := C
  have hsv := hE.2.2.2.2.2.2.2.2.2.2.2.1
  intro ls st σ ls' st' σ' ad H locs lsA h hW hl hB kk
  unfold xone at h
  dsimp only at h
  split at h
  · rename_i v hv
    cases h
    exact lv_lload hx hb hd (xk_at hl hv) (kk ad H locs lsA hW (fun _ _ => rfl) hl)
  · cases h
theorem sn_lstore_n {K : XK} (C : xCx p s m args meth c D cA A sv adc own cc nL nm) {n : Fin 4} (hn : (n : Nat) + 1 < nL) (hd : decode cc pc = .ok (.lstore_n n, 1)) : xStep p l e R s m args below meth c Q D cA A sv adc nL bC bS K (.lstore (n : Nat)) pc 1 := by
  obtain ⟨hx, hb, hml, hown, hts, hK, hA, hE, hin⟩ := C
  have hsv := hE.2.2.2.2.2.2.2.2.2.2.2.1
  intro ls st σ ls' st' σ' ad H locs lsA h hW hl hB kk
  unfold xone at h
  dsimp only at h
  split at h
  · cases h
    exact lv_lstore_n hx hb hd rfl hl hn rfl (fun lsA' hl' => kk ad H locs lsA' hW (fun _ _ => rfl) (xst_2 hsv rfl hl'))
  · cases h
theorem sn_lstore {K : XK} (C : xCx p s m args meth c D cA A sv adc own cc nL nm) {n : Nat} (hn : n + 1 < nL) (hd : decode cc pc = .ok (.lstore n, 2)) : xStep p l e R s m args below meth c Q D cA A sv adc nL bC bS K (.lstore n) pc 2 := by
  obtain ⟨hx, hb, hml, hown, hts, hK, hA, hE, hin⟩ := C
  have hsv := hE.2.2.2.2.2.2.2.2.2.2.2.1
  intro ls st σ ls' st' σ' ad H locs lsA h hW hl hB kk
  unfold xone at h
  dsimp only at h
  split at h
  · cases h
    exact lv_lstore hx hb hd hl hn rfl (fun lsA' hl' => kk ad H locs lsA' hW (fun _ _ => rfl) (xst_2 hsv rfl hl'))
  · cases h
theorem sn_fload_n {K : XK} (C : xCx p s m args meth c D cA A sv adc own cc nL nm) {n : Fin 4} (hd : decode cc pc = .ok (.fload_n n, 1)) : xStep p l e R s m args below meth c Q D cA A sv adc nL bC bS K (.fload (n : Nat)) pc 1 := by
  obtain ⟨hx, hb, hml, hown, hts, hK, hA, hE, hin⟩ := C
  have hsv := hE.2.2.2.2.2.2.2.2.2.2.2.1
  intro ls st σ ls' st' σ' ad H locs lsA h hW hl hB kk
  unfold xone at h
  dsimp only at h
  split at h
  · rename_i v hv
    cases h
    exact lv_fload_n hx hb hd rfl (xk_at hl hv) (kk ad H locs lsA hW (fun _ _ => rfl) hl)
  · cases h
theorem sn_fload {K : XK} (C : xCx p s m args meth c D cA A sv adc own cc nL nm) {n : Nat} (hd : decode cc pc = .ok (.fload n, 2)) : xStep p l e R s m args below meth c Q D cA A sv adc nL bC bS K (.fload n) pc 2 := by
  obtain ⟨hx, hb, hml, hown, hts, hK, hA, hE, hin⟩ := C
  have hsv := hE.2.2.2.2.2.2.2.2.2.2.2.1
  intro ls st σ ls' st' σ' ad H locs lsA h hW hl hB kk
  unfold xone at h
  dsimp only at h
  split at h
  · rename_i v hv
    cases h
    exact lv_fload hx hb hd (xk_at hl hv) (kk ad H locs lsA hW (fun _ _ => rfl) hl)
  · cases h
theorem sn_fstore_n {K : XK} (C : xCx p s m args meth c D cA A sv adc own cc nL nm) {n : Fin 4} (hn : (n : Nat) < nL) (hd : decode cc pc = .ok (.fstore_n n, 1)) : xStep p l e R s m args below meth c Q D cA A sv adc nL bC bS K (.fstore (n : Nat)) pc 1 := by
  obtain ⟨hx, hb, hml, hown, hts, hK, hA, hE, hin⟩ := C
  have hsv := hE.2.2.2.2.2.2.2.2.2.2.2.1
  intro ls st σ ls' st' σ' ad H locs lsA h hW hl hB kk
  unfold xone at h
  dsimp only at h
  split at h
  · cases h
    exact lv_fstore_n hx hb hd rfl hl hn rfl (fun lsA' hl' => kk ad H locs lsA' hW (fun _ _ => rfl) (xst_1 hsv rfl hl'))
  · cases h
theorem sn_fstore {K : XK} (C : xCx p s m args meth c D cA A sv adc own cc nL nm) {n : Nat} (hn : n < nL) (hd : decode cc pc = .ok (.fstore n, 2)) : xStep p l e R s m args below meth c Q D cA A sv adc nL bC bS K (.fstore n) pc 2 := by
  obtain ⟨hx, hb, hml, hown, hts, hK, hA, hE, hin⟩ := C
  have hsv := hE.2.2.2.2.2.2.2.2.2.2.2.1
  intro ls st σ ls' st' σ' ad H locs lsA h hW hl hB kk
  unfold xone at h
  dsimp only at h
  split at h
  · cases h
    exact lv_fstore hx hb hd hl hn rfl (fun lsA' hl' => kk ad H locs lsA' hW (fun _ _ => rfl) (xst_1 hsv rfl hl'))
  · cases h
theorem sn_dload_n {K : XK} (C : xCx p s m args meth c D cA A sv adc own cc nL nm) {n : Fin 4} (hd : decode cc pc = .ok (.dload_n n, 1)) : xStep p l e R s m args below meth c Q D cA A sv adc nL bC bS K (.dload (n : Nat)) pc 1 := by
  obtain ⟨hx, hb, hml, hown, hts, hK, hA, hE, hin⟩ := C
  have hsv := hE.2.2.2.2.2.2.2.2.2.2.2.1
  intro ls st σ ls' st' σ' ad H locs lsA h hW hl hB kk
  unfold xone at h
  dsimp only at h
  split at h
  · rename_i v hv
    cases h
    exact lv_dload_n hx hb hd rfl (xk_at hl hv) (kk ad H locs lsA hW (fun _ _ => rfl) hl)
  · cases h
theorem sn_dload {K : XK} (C : xCx p s m args meth c D cA A sv adc own cc nL nm) {n : Nat} (hd : decode cc pc = .ok (.dload n, 2)) : xStep p l e R s m args below meth c Q D cA A sv adc nL bC bS K (.dload n) pc 2 := by
  obtain ⟨hx, hb, hml, hown, hts, hK, hA, hE, hin⟩ := C
  have hsv := hE.2.2.2.2.2.2.2.2.2.2.2.1
  intro ls st σ ls' st' σ' ad H locs lsA h hW hl hB kk
  unfold xone at h
  dsimp only at h
  split at h
  · rename_i v hv
    cases h
    exact lv_dload hx hb hd (xk_at hl hv) (kk ad H locs lsA hW (fun _ _ => rfl) hl)
  · cases h
theorem sn_dstore_n {K : XK} (C : xCx p s m args meth c D cA A sv adc own cc nL nm) {n : Fin 4} (hn : (n : Nat) + 1 < nL) (hd : decode cc pc = .ok (.dstore_n n, 1)) : xStep p l e R s m args below meth c Q D cA A sv adc nL bC bS K (.dstore (n : Nat)) pc 1 := by
  obtain ⟨hx, hb, hml, hown, hts, hK, hA, hE, hin⟩ := C
  have hsv := hE.2.2.2.2.2.2.2.2.2.2.2.1
  intro ls st σ ls' st' σ' ad H locs lsA h hW hl hB kk
  unfold xone at h
  dsimp only at h
  split at h
  · cases h
    exact lv_dstore_n hx hb hd rfl hl hn rfl (fun lsA' hl' => kk ad H locs lsA' hW (fun _ _ => rfl) (xst_2 hsv rfl hl'))
  · cases h
theorem sn_dstore {K : XK} (C : xCx p s m args meth c D cA A sv adc own cc nL nm) {n : Nat} (hn : n + 1 < nL) (hd : decode cc pc = .ok (.dstore n, 2)) : xStep p l e R s m args below meth c Q D cA A sv adc nL bC bS K (.dstore n) pc 2 := by
  obtain ⟨hx, hb, hml, hown, hts, hK, hA, hE, hin⟩ := C
  have hsv := hE.2.2.2.2.2.2.2.2.2.2.2.1
  intro ls st σ ls' st' σ' ad H locs lsA h hW hl hB kk
  unfold xone at h
  dsimp only at h
  split at h
  · cases h
    exact lv_dstore hx hb hd hl hn rfl (fun lsA' hl' => kk ad H locs lsA' hW (fun _ _ => rfl) (xst_2 hsv rfl hl'))
  · cases h
theorem sn_iinc {K : XK} (C : xCx p s m args meth c D cA A sv adc own cc nL nm) {n : Nat} {k : Int} (hn : n < nL) (hd : decode cc pc = .ok (.iinc n k, 3)) : xStep p l e R s m args below meth c Q D cA A sv adc nL bC bS K (.iinc n k) pc 3 := by
  obtain ⟨hx, hb, hml, hown, hts, hK, hA, hE, hin⟩ := C
  have hsv := hE.2.2.2.2.2.2.2.2.2.2.2.1
  intro ls st σ ls' st' σ' ad H locs lsA h hW hl hB kk
  unfold xone at h
  dsimp only at h
  split at h
  · rename_i v hv
    cases h
    obtain ⟨j, hj⟩ := List.getElem?_of_mem (List.mem_map.mpr ⟨(n, Value.int v), xk_mem hv, rfl⟩ : ((fun q : Nat × Value => (q.1, xre ad sv q.2)) (n, Value.int v)) ∈ xreL ad sv ls)
    exact lv_iinc (v := v + Int32.ofInt k) hx hb hd hl hj rfl hn rfl (fun lsA' hl' => kk ad H locs lsA' hW (fun _ _ => rfl) (xst_1 hsv rfl hl'))
  · cases h
theorem sn_iadd {K : XK} (C : xCx p s m args meth c D cA A sv adc own cc nL nm) (hd : decode cc pc = .ok (.iadd, 1)) : xStep p l e R s m args below meth c Q D cA A sv adc nL bC bS K (.iadd) pc 1 := by
  obtain ⟨hx, hb, hml, hown, hts, hK, hA, hE, hin⟩ := C
  have hsv := hE.2.2.2.2.2.2.2.2.2.2.2.1
  intro ls st σ ls' st' σ' ad H locs lsA h hW hl hB kk
  unfold xone at h
  dsimp only at h
  split at h
  · cases h
    exact lv_iadd hx hb hd (kk ad H locs lsA hW (fun _ _ => rfl) hl)
  · cases h
theorem sn_isub {K : XK} (C : xCx p s m args meth c D cA A sv adc own cc nL nm) (hd : decode cc pc = .ok (.isub, 1)) : xStep p l e R s m args below meth c Q D cA A sv adc nL bC bS K (.isub) pc 1 := by
  obtain ⟨hx, hb, hml, hown, hts, hK, hA, hE, hin⟩ := C
  have hsv := hE.2.2.2.2.2.2.2.2.2.2.2.1
  intro ls st σ ls' st' σ' ad H locs lsA h hW hl hB kk
  unfold xone at h
  dsimp only at h
  split at h
  · cases h
    exact lv_isub hx hb hd (kk ad H locs lsA hW (fun _ _ => rfl) hl)
  · cases h
theorem sn_imul {K : XK} (C : xCx p s m args meth c D cA A sv adc own cc nL nm) (hd : decode cc pc = .ok (.imul, 1)) : xStep p l e R s m args below meth c Q D cA A sv adc nL bC bS K (.imul) pc 1 := by
  obtain ⟨hx, hb, hml, hown, hts, hK, hA, hE, hin⟩ := C
  have hsv := hE.2.2.2.2.2.2.2.2.2.2.2.1
  intro ls st σ ls' st' σ' ad H locs lsA h hW hl hB kk
  unfold xone at h
  dsimp only at h
  split at h
  · cases h
    exact lv_imul hx hb hd (kk ad H locs lsA hW (fun _ _ => rfl) hl)
  · cases h
theorem sn_iand {K : XK} (C : xCx p s m args meth c D cA A sv adc own cc nL nm) (hd : decode cc pc = .ok (.iand, 1)) : xStep p l e R s m args below meth c Q D cA A sv adc nL bC bS K (.iand) pc 1 := by
  obtain ⟨hx, hb, hml, hown, hts, hK, hA, hE, hin⟩ := C
  have hsv := hE.2.2.2.2.2.2.2.2.2.2.2.1
  intro ls st σ ls' st' σ' ad H locs lsA h hW hl hB kk
  unfold xone at h
  dsimp only at h
  split at h
  · cases h
    exact lv_iand hx hb hd (kk ad H locs lsA hW (fun _ _ => rfl) hl)
  · cases h
theorem sn_ior {K : XK} (C : xCx p s m args meth c D cA A sv adc own cc nL nm) (hd : decode cc pc = .ok (.ior, 1)) : xStep p l e R s m args below meth c Q D cA A sv adc nL bC bS K (.ior) pc 1 := by
  obtain ⟨hx, hb, hml, hown, hts, hK, hA, hE, hin⟩ := C
  have hsv := hE.2.2.2.2.2.2.2.2.2.2.2.1
  intro ls st σ ls' st' σ' ad H locs lsA h hW hl hB kk
  unfold xone at h
  dsimp only at h
  split at h
  · cases h
    exact lv_ior hx hb hd (kk ad H locs lsA hW (fun _ _ => rfl) hl)
  · cases h
theorem sn_ladd {K : XK} (C : xCx p s m args meth c D cA A sv adc own cc nL nm) (hd : decode cc pc = .ok (.ladd, 1)) : xStep p l e R s m args below meth c Q D cA A sv adc nL bC bS K (.ladd) pc 1 := by
  obtain ⟨hx, hb, hml, hown, hts, hK, hA, hE, hin⟩ := C
  have hsv := hE.2.2.2.2.2.2.2.2.2.2.2.1
  intro ls st σ ls' st' σ' ad H locs lsA h hW hl hB kk
  unfold xone at h
  dsimp only at h
  split at h
  · cases h
    exact lv_ladd hx hb hd (kk ad H locs lsA hW (fun _ _ => rfl) hl)
  · cases h
theorem sn_lsub {K : XK} (C : xCx p s m args meth c D cA A sv adc own cc nL nm) (hd : decode cc pc = .ok (.lsub, 1)) : xStep p l e R s m args below meth c Q D cA A sv adc nL bC bS K (.lsub) pc 1 := by
  obtain ⟨hx, hb, hml, hown, hts, hK, hA, hE, hin⟩ := C
  have hsv := hE.2.2.2.2.2.2.2.2.2.2.2.1
  intro ls st σ ls' st' σ' ad H locs lsA h hW hl hB kk
  unfold xone at h
  dsimp only at h
  split at h
  · cases h
    exact lv_lsub hx hb hd (kk ad H locs lsA hW (fun _ _ => rfl) hl)
  · cases h
theorem sn_ishl {K : XK} (C : xCx p s m args meth c D cA A sv adc own cc nL nm) (hd : decode cc pc = .ok (.ishl, 1)) : xStep p l e R s m args below meth c Q D cA A sv adc nL bC bS K (.ishl) pc 1 := by
  obtain ⟨hx, hb, hml, hown, hts, hK, hA, hE, hin⟩ := C
  have hsv := hE.2.2.2.2.2.2.2.2.2.2.2.1
  intro ls st σ ls' st' σ' ad H locs lsA h hW hl hB kk
  unfold xone at h
  dsimp only at h
  split at h
  · cases h
    exact lv_ishl hx hb hd (kk ad H locs lsA hW (fun _ _ => rfl) hl)
  · cases h
theorem sn_ishr {K : XK} (C : xCx p s m args meth c D cA A sv adc own cc nL nm) (hd : decode cc pc = .ok (.ishr, 1)) : xStep p l e R s m args below meth c Q D cA A sv adc nL bC bS K (.ishr) pc 1 := by
  obtain ⟨hx, hb, hml, hown, hts, hK, hA, hE, hin⟩ := C
  have hsv := hE.2.2.2.2.2.2.2.2.2.2.2.1
  intro ls st σ ls' st' σ' ad H locs lsA h hW hl hB kk
  unfold xone at h
  dsimp only at h
  split at h
  · cases h
    exact lv_ishr hx hb hd (kk ad H locs lsA hW (fun _ _ => rfl) hl)
  · cases h
theorem sn_ineg {K : XK} (C : xCx p s m args meth c D cA A sv adc own cc nL nm) (hd : decode cc pc = .ok (.ineg, 1)) : xStep p l e R s m args below meth c Q D cA A sv adc nL bC bS K (.ineg) pc 1 := by
  obtain ⟨hx, hb, hml, hown, hts, hK, hA, hE, hin⟩ := C
  have hsv := hE.2.2.2.2.2.2.2.2.2.2.2.1
  intro ls st σ ls' st' σ' ad H locs lsA h hW hl hB kk
  unfold xone at h
  dsimp only at h
  split at h
  · cases h
    exact lv_ineg hx hb hd (kk ad H locs lsA hW (fun _ _ => rfl) hl)
  · cases h
theorem sn_i2f {K : XK} (C : xCx p s m args meth c D cA A sv adc own cc nL nm) (hd : decode cc pc = .ok (.i2f, 1)) : xStep p l e R s m args below meth c Q D cA A sv adc nL bC bS K (.i2f) pc 1 := by
  obtain ⟨hx, hb, hml, hown, hts, hK, hA, hE, hin⟩ := C
  have hsv := hE.2.2.2.2.2.2.2.2.2.2.2.1
  intro ls st σ ls' st' σ' ad H locs lsA h hW hl hB kk
  unfold xone at h
  dsimp only at h
  split at h
  · cases h
    exact lv_i2f hx hb hd (kk ad H locs lsA hW (fun _ _ => rfl) hl)
  · cases h
theorem sn_i2d {K : XK} (C : xCx p s m args meth c D cA A sv adc own cc nL nm) (hd : decode cc pc = .ok (.i2d, 1)) : xStep p l e R s m args below meth c Q D cA A sv adc nL bC bS K (.i2d) pc 1 := by
  obtain ⟨hx, hb, hml, hown, hts, hK, hA, hE, hin⟩ := C
  have hsv := hE.2.2.2.2.2.2.2.2.2.2.2.1
  intro ls st σ ls' st' σ' ad H locs lsA h hW hl hB kk
  unfold xone at h
  dsimp only at h
  split at h
  · cases h
    exact lv_i2d hx hb hd (kk ad H locs lsA hW (fun _ _ => rfl) hl)
  · cases h
theorem sn_f2i {K : XK} (C : xCx p s m args meth c D cA A sv adc own cc nL nm) (hd : decode cc pc = .ok (.f2i, 1)) : xStep p l e R s m args below meth c Q D cA A sv adc nL bC bS K (.f2i) pc 1 := by
  obtain ⟨hx, hb, hml, hown, hts, hK, hA, hE, hin⟩ := C
  have hsv := hE.2.2.2.2.2.2.2.2.2.2.2.1
  intro ls st σ ls' st' σ' ad H locs lsA h hW hl hB kk
  unfold xone at h
  dsimp only at h
  split at h
  · cases h
    exact lv_f2i hx hb hd (kk ad H locs lsA hW (fun _ _ => rfl) hl)
  · cases h
theorem sn_d2l {K : XK} (C : xCx p s m args meth c D cA A sv adc own cc nL nm) (hd : decode cc pc = .ok (.d2l, 1)) : xStep p l e R s m args below meth c Q D cA A sv adc nL bC bS K (.d2l) pc 1 := by
  obtain ⟨hx, hb, hml, hown, hts, hK, hA, hE, hin⟩ := C
  have hsv := hE.2.2.2.2.2.2.2.2.2.2.2.1
  intro ls st σ ls' st' σ' ad H locs lsA h hW hl hB kk
  unfold xone at h
  dsimp only at h
  split at h
  · cases h
    exact lv_d2l hx hb hd (kk ad H locs lsA hW (fun _ _ => rfl) hl)
  · cases h
theorem sn_iushr {K : XK} (C : xCx p s m args meth c D cA A sv adc own cc nL nm) (hd : decode cc pc = .ok (.iushr, 1)) : xStep p l e R s m args below meth c Q D cA A sv adc nL bC bS K (.iushr) pc 1 := by
  obtain ⟨hx, hb, hml, hown, hts, hK, hA, hE, hin⟩ := C
  have hsv := hE.2.2.2.2.2.2.2.2.2.2.2.1
  intro ls st σ ls' st' σ' ad H locs lsA h hW hl hB kk
  unfold xone at h
  dsimp only at h
  split at h
  · cases h
    exact lv_iushr hx hb hd rfl (kk ad H locs lsA hW (fun _ _ => rfl) hl)
  · cases h
theorem sn_i2l {K : XK} (C : xCx p s m args meth c D cA A sv adc own cc nL nm) (hd : decode cc pc = .ok (.i2l, 1)) : xStep p l e R s m args below meth c Q D cA A sv adc nL bC bS K (.i2l) pc 1 := by
  obtain ⟨hx, hb, hml, hown, hts, hK, hA, hE, hin⟩ := C
  have hsv := hE.2.2.2.2.2.2.2.2.2.2.2.1
  intro ls st σ ls' st' σ' ad H locs lsA h hW hl hB kk
  unfold xone at h
  dsimp only at h
  split at h
  · cases h
    exact lv_i2l hx hb hd rfl (kk ad H locs lsA hW (fun _ _ => rfl) hl)
  · cases h
theorem sn_i2b {K : XK} (C : xCx p s m args meth c D cA A sv adc own cc nL nm) (hd : decode cc pc = .ok (.i2b, 1)) : xStep p l e R s m args below meth c Q D cA A sv adc nL bC bS K (.i2b) pc 1 := by
  obtain ⟨hx, hb, hml, hown, hts, hK, hA, hE, hin⟩ := C
  have hsv := hE.2.2.2.2.2.2.2.2.2.2.2.1
  intro ls st σ ls' st' σ' ad H locs lsA h hW hl hB kk
  unfold xone at h
  dsimp only at h
  split at h
  · cases h
    exact lv_i2b hx hb hd rfl (kk ad H locs lsA hW (fun _ _ => rfl) hl)
  · cases h
theorem sn_i2c {K : XK} (C : xCx p s m args meth c D cA A sv adc own cc nL nm) (hd : decode cc pc = .ok (.i2c, 1)) : xStep p l e R s m args below meth c Q D cA A sv adc nL bC bS K (.i2c) pc 1 := by
  obtain ⟨hx, hb, hml, hown, hts, hK, hA, hE, hin⟩ := C
  have hsv := hE.2.2.2.2.2.2.2.2.2.2.2.1
  intro ls st σ ls' st' σ' ad H locs lsA h hW hl hB kk
  unfold xone at h
  dsimp only at h
  split at h
  · cases h
    exact lv_i2c hx hb hd rfl (kk ad H locs lsA hW (fun _ _ => rfl) hl)
  · cases h
theorem sn_lshl {K : XK} (C : xCx p s m args meth c D cA A sv adc own cc nL nm) (hd : decode cc pc = .ok (.lshl, 1)) : xStep p l e R s m args below meth c Q D cA A sv adc nL bC bS K (.lshl) pc 1 := by
  obtain ⟨hx, hb, hml, hown, hts, hK, hA, hE, hin⟩ := C
  have hsv := hE.2.2.2.2.2.2.2.2.2.2.2.1
  intro ls st σ ls' st' σ' ad H locs lsA h hW hl hB kk
  unfold xone at h
  dsimp only at h
  split at h
  · cases h
    exact lv_lshl hx hb hd rfl (kk ad H locs lsA hW (fun _ _ => rfl) hl)
  · cases h
theorem sn_lcmp {K : XK} (C : xCx p s m args meth c D cA A sv adc own cc nL nm) (hd : decode cc pc = .ok (.lcmp, 1)) : xStep p l e R s m args below meth c Q D cA A sv adc nL bC bS K (.lcmp) pc 1 := by
  obtain ⟨hx, hb, hml, hown, hts, hK, hA, hE, hin⟩ := C
  have hsv := hE.2.2.2.2.2.2.2.2.2.2.2.1
  intro ls st σ ls' st' σ' ad H locs lsA h hW hl hB kk
  unfold xone at h
  dsimp only at h
  split at h
  · cases h
    exact W.lcmp hx hb hd (kk ad H locs lsA hW (fun _ _ => rfl) hl)
  · cases h
theorem sn_fcmp {K : XK} (C : xCx p s m args meth c D cA A sv adc own cc nL nm) {z : CmpOp} (hd : decode cc pc = .ok (.fcmp z, 1)) : xStep p l e R s m args below meth c Q D cA A sv adc nL bC bS K (.fcmp z) pc 1 := by
  obtain ⟨hx, hb, hml, hown, hts, hK, hA, hE, hin⟩ := C
  have hsv := hE.2.2.2.2.2.2.2.2.2.2.2.1
  intro ls st σ ls' st' σ' ad H locs lsA h hW hl hB kk
  unfold xone at h
  dsimp only at h
  split at h
  · cases h
    exact lv_fcmp hx hb hd (kk ad H locs lsA hW (fun _ _ => rfl) hl)
  · cases h
theorem sn_dcmp {K : XK} (C : xCx p s m args meth c D cA A sv adc own cc nL nm) {z : CmpOp} (hd : decode cc pc = .ok (.dcmp z, 1)) : xStep p l e R s m args below meth c Q D cA A sv adc nL bC bS K (.dcmp z) pc 1 := by
  obtain ⟨hx, hb, hml, hown, hts, hK, hA, hE, hin⟩ := C
  have hsv := hE.2.2.2.2.2.2.2.2.2.2.2.1
  intro ls st σ ls' st' σ' ad H locs lsA h hW hl hB kk
  unfold xone at h
  dsimp only at h
  split at h
  · cases h
    exact lv_dcmp hx hb hd (kk ad H locs lsA hW (fun _ _ => rfl) hl)
  · cases h
theorem sn_idiv {K : XK} (C : xCx p s m args meth c D cA A sv adc own cc nL nm) (hd : decode cc pc = .ok (.idiv, 1)) : xStep p l e R s m args below meth c Q D cA A sv adc nL bC bS K (.idiv) pc 1 := by
  obtain ⟨hx, hb, hml, hown, hts, hK, hA, hE, hin⟩ := C
  have hsv := hE.2.2.2.2.2.2.2.2.2.2.2.1
  intro ls st σ ls' st' σ' ad H locs lsA h hW hl hB kk
  unfold xone at h
  dsimp only at h
  split at h
  · split at h
    · cases h
    · rename_i hc
      cases h
      exact lv_idiv hx hb hd hc (kk ad H locs lsA hW (fun _ _ => rfl) hl)
  · cases h
theorem sn_irem {K : XK} (C : xCx p s m args meth c D cA A sv adc own cc nL nm) (hd : decode cc pc = .ok (.irem, 1)) : xStep p l e R s m args below meth c Q D cA A sv adc nL bC bS K (.irem) pc 1 := by
  obtain ⟨hx, hb, hml, hown, hts, hK, hA, hE, hin⟩ := C
  have hsv := hE.2.2.2.2.2.2.2.2.2.2.2.1
  intro ls st σ ls' st' σ' ad H locs lsA h hW hl hB kk
  unfold xone at h
  dsimp only at h
  split at h
  · split at h
    · cases h
    · rename_i hc
      cases h
      exact lv_irem hx hb hd hc (kk ad H locs lsA hW (fun _ _ => rfl) hl)
  · cases h
theorem sn_f2d {K : XK} (C : xCx p s m args meth c D cA A sv adc own cc nL nm) (hd : decode cc pc = .ok (.f2d, 1)) : xStep p l e R s m args below meth c Q D cA A sv adc nL bC bS K (.f2d) pc 1 := by
  obtain ⟨hx, hb, hml, hown, hts, hK, hA, hE, hin⟩ := C
  have hsv := hE.2.2.2.2.2.2.2.2.2.2.2.1
  intro ls st σ ls' st' σ' ad H locs lsA h hW hl hB kk
  unfold xone at h
  dsimp only at h
  split at h
  · split at h
    · rename_i hc
      cases h
      exact lv_f2d hx hb hd hc (kk ad H locs lsA hW (fun _ _ => rfl) hl)
    · cases h
  · cases h
theorem sn_fmul {K : XK} (C : xCx p s m args meth c D cA A sv adc own cc nL nm) (hd : decode cc pc = .ok (.fmul, 1)) : xStep p l e R s m args below meth c Q D cA A sv adc nL bC bS K (.fmul) pc 1 := by
  obtain ⟨hx, hb, hml, hown, hts, hK, hA, hE, hin⟩ := C
  have hsv := hE.2.2.2.2.2.2.2.2.2.2.2.1
  intro ls st σ ls' st' σ' ad H locs lsA h hW hl hB kk
  unfold xone at h
  dsimp only at h
  split at h
  · split at h
    · rename_i hc
      cases h
      exact lv_fmul hx hb hd hc (kk ad H locs lsA hW (fun _ _ => rfl) hl)
    · cases h
  · cases h
theorem sn_fdiv {K : XK} (C : xCx p s m args meth c D cA A sv adc own cc nL nm) (hd : decode cc pc = .ok (.fdiv, 1)) : xStep p l e R s m args below meth c Q D cA A sv adc nL bC bS K (.fdiv) pc 1 := by
  obtain ⟨hx, hb, hml, hown, hts, hK, hA, hE, hin⟩ := C
  have hsv := hE.2.2.2.2.2.2.2.2.2.2.2.1
  intro ls st σ ls' st' σ' ad H locs lsA h hW hl hB kk
  unfold xone at h
  dsimp only at h
  split at h
  · split at h
    · rename_i hc
      cases h
      exact lv_fdiv hx hb hd hc (kk ad H locs lsA hW (fun _ _ => rfl) hl)
    · cases h
  · cases h
theorem sn_fsub {K : XK} (C : xCx p s m args meth c D cA A sv adc own cc nL nm) (hd : decode cc pc = .ok (.fsub, 1)) : xStep p l e R s m args below meth c Q D cA A sv adc nL bC bS K (.fsub) pc 1 := by
  obtain ⟨hx, hb, hml, hown, hts, hK, hA, hE, hin⟩ := C
  have hsv := hE.2.2.2.2.2.2.2.2.2.2.2.1
  intro ls st σ ls' st' σ' ad H locs lsA h hW hl hB kk
  unfold xone at h
  dsimp only at h
  split at h
  · split at h
    · rename_i hc
      cases h
      exact lv_fsub hx hb hd hc (kk ad H locs lsA hW (fun _ _ => rfl) hl)
    · cases h
  · cases h
theorem sn_dmul {K : XK} (C : xCx p s m args meth c D cA A sv adc own cc nL nm) (hd : decode cc pc = .ok (.dmul, 1)) : xStep p l e R s m args below meth c Q D cA A sv adc nL bC bS K (.dmul) pc 1 := by
  obtain ⟨hx, hb, hml, hown, hts, hK, hA, hE, hin⟩ := C
  have hsv := hE.2.2.2.2.2.2.2.2.2.2.2.1
  intro ls st σ ls' st' σ' ad H locs lsA h hW hl hB kk
  unfold xone at h
  dsimp only at h
  split at h
  · split at h
    · rename_i hc
      cases h
      exact lv_dmul hx hb hd hc (kk ad H locs lsA hW (fun _ _ => rfl) hl)
    · cases h
  · cases h
theorem sn_ddiv {K : XK} (C : xCx p s m args meth c D cA A sv adc own cc nL nm) (hd : decode cc pc = .ok (.ddiv, 1)) : xStep p l e R s m args below meth c Q D cA A sv adc nL bC bS K (.ddiv) pc 1 := by
  obtain ⟨hx, hb, hml, hown, hts, hK, hA, hE, hin⟩ := C
  have hsv := hE.2.2.2.2.2.2.2.2.2.2.2.1
  intro ls st σ ls' st' σ' ad H locs lsA h hW hl hB kk
  unfold xone at h
  dsimp only at h
  split at h
  · split at h
    · rename_i hc
      cases h
      exact lv_ddiv hx hb hd hc (kk ad H locs lsA hW (fun _ _ => rfl) hl)
    · cases h
  · cases h
theorem sn_dsub {K : XK} (C : xCx p s m args meth c D cA A sv adc own cc nL nm) (hd : decode cc pc = .ok (.dsub, 1)) : xStep p l e R s m args below meth c Q D cA A sv adc nL bC bS K (.dsub) pc 1 := by
  obtain ⟨hx, hb, hml, hown, hts, hK, hA, hE, hin⟩ := C
  have hsv := hE.2.2.2.2.2.2.2.2.2.2.2.1
  intro ls st σ ls' st' σ' ad H locs lsA h hW hl hB kk
  unfold xone at h
  dsimp only at h
  split at h
  · split at h
    · rename_i hc
      cases h
      exact lv_dsub hx hb hd hc (kk ad H locs lsA hW (fun _ _ => rfl) hl)
    · cases h
  · cases h
theorem sn_dup {K : XK} (C : xCx p s m args meth c D cA A sv adc own cc nL nm) (hd : decode cc pc = .ok (.dup, 1)) : xStep p l e R s m args below meth c Q D cA A sv adc nL bC bS K (.dup) pc 1 := by
  obtain ⟨hx, hb, hml, hown, hts, hK, hA, hE, hin⟩ := C
  have hsv := hE.2.2.2.2.2.2.2.2.2.2.2.1
  intro ls st σ ls' st' σ' ad H locs lsA h hW hl hB kk
  unfold xone at h
  dsimp only at h
  split at h
  · split at h
    · rename_i hc
      cases h
      exact lv_dup hx hb hd (by rw [xre_cat hsv]; exact hc) (kk ad H locs lsA hW (fun _ _ => rfl) hl)
    · cases h
  · cases h
theorem sn_pop {K : XK} (C : xCx p s m args meth c D cA A sv adc own cc nL nm) (hd : decode cc pc = .ok (.pop, 1)) : xStep p l e R s m args below meth c Q D cA A sv adc nL bC bS K (.pop) pc 1 := by
  obtain ⟨hx, hb, hml, hown, hts, hK, hA, hE, hin⟩ := C
  have hsv := hE.2.2.2.2.2.2.2.2.2.2.2.1
  intro ls st σ ls' st' σ' ad H locs lsA h hW hl hB kk
  unfold xone at h
  dsimp only at h
  split at h
  · split at h
    · rename_i hc
      cases h
      exact lv_pop hx hb hd (by rw [xre_cat hsv]; exact hc) (kk ad H locs lsA hW (fun _ _ => rfl) hl)
    · cases h
  · cases h
theorem sn_ixor {K : XK} (C : xCx p s m args meth c D cA A sv adc own cc nL nm) (hd : decode cc pc = .ok (.ixor, 1)) : xStep p l e R s m args below meth c Q D cA A sv adc nL bC bS K (.ixor) pc 1 := by
  obtain ⟨hx, hb, hml, hown, hts, hK, hA, hE, hin⟩ := C
  have hsv := hE.2.2.2.2.2.2.2.2.2.2.2.1
  intro ls st σ ls' st' σ' ad H locs lsA h hW hl hB kk
  unfold xone at h
  dsimp only at h
  split at h
  · cases h
    exact lv_ixor hx hb hd (kk ad H locs lsA hW (fun _ _ => rfl) hl)
  · cases h
theorem sn_land {K : XK} (C : xCx p s m args meth c D cA A sv adc own cc nL nm) (hd : decode cc pc = .ok (.land, 1)) : xStep p l e R s m args below meth c Q D cA A sv adc nL bC bS K (.land) pc 1 := by
  obtain ⟨hx, hb, hml, hown, hts, hK, hA, hE, hin⟩ := C
  have hsv := hE.2.2.2.2.2.2.2.2.2.2.2.1
  intro ls st σ ls' st' σ' ad H locs lsA h hW hl hB kk
  unfold xone at h
  dsimp only at h
  split at h
  · cases h
    exact lv_land hx hb hd (kk ad H locs lsA hW (fun _ _ => rfl) hl)
  · cases h
theorem sn_dup_x1 {K : XK} (C : xCx p s m args meth c D cA A sv adc own cc nL nm) (hd : decode cc pc = .ok (.dup_x1, 1)) : xStep p l e R s m args below meth c Q D cA A sv adc nL bC bS K (.dup_x1) pc 1 := by
  obtain ⟨hx, hb, hml, hown, hts, hK, hA, hE, hin⟩ := C
  have hsv := hE.2.2.2.2.2.2.2.2.2.2.2.1
  intro ls st σ ls' st' σ' ad H locs lsA h hW hl hB kk
  unfold xone at h
  dsimp only at h
  split at h
  · rename_i v u r
    split at h
    · rename_i hc
      cases h
      exact lv_dup_x1 hx hb hd (by rw [xre_cat hsv]; exact hc.1) (by rw [xre_cat hsv]; exact hc.2) (kk ad H locs lsA hW (fun _ _ => rfl) hl)
    · cases h
  · cases h
theorem sn_null {K : XK} (C : xCx p s m args meth c D cA A sv adc own cc nL nm) (hd : decode cc pc = .ok (.aconst_null, 1)) : xStep p l e R s m args below meth c Q D cA A sv adc nL bC bS K (.aconst_null) pc 1 := by
  obtain ⟨hx, hb, hml, hown, hts, hK, hA, hE, hin⟩ := C
  intro ls st σ ls' st' σ' ad H locs lsA h hW hl hB kk
  unfold xone at h
  dsimp only at h
  cases h
  exact lv_null hx hb hd (kk ad H locs lsA hW (fun _ _ => rfl) hl)
theorem sn_dup2 {K : XK} (C : xCx p s m args meth c D cA A sv adc own cc nL nm) (hd : decode cc pc = .ok (.dup2, 1)) : xStep p l e R s m args below meth c Q D cA A sv adc nL bC bS K (.dup2) pc 1 := by
  obtain ⟨hx, hb, hml, hown, hts, hK, hA, hE, hin⟩ := C
  have hsv := hE.2.2.2.2.2.2.2.2.2.2.2.1
  intro ls st σ ls' st' σ' ad H locs lsA h hW hl hB kk
  unfold xone at h
  dsimp only at h
  split at h
  · split at h
    · rename_i hc
      cases h
      exact lv_dup2_11 hx hb hd (by rw [xre_cat hsv]; exact hc.1) (by rw [xre_cat hsv]; exact hc.2) (kk ad H locs lsA hW (fun _ _ => rfl) hl)
    · cases h
  · cases h
theorem sn_fconst0 {K : XK} (C : xCx p s m args meth c D cA A sv adc own cc nL nm) (hd : decode cc pc = .ok (.fconst 0, 1)) : xStep p l e R s m args below meth c Q D cA A sv adc nL bC bS K (.fconst 0) pc 1 := by
  obtain ⟨hx, hb, hml, hown, hts, hK, hA, hE, hin⟩ := C
  have hsv := hE.2.2.2.2.2.2.2.2.2.2.2.1
  intro ls st σ ls' st' σ' ad H locs lsA h hW hl hB kk
  unfold xone at h
  dsimp only at h
  cases h
  exact lv_fconst0 hx hb hd (kk ad H locs lsA hW (fun _ _ => rfl) hl)
theorem sn_fconst1 {K : XK} (C : xCx p s m args meth c D cA A sv adc own cc nL nm) (hd : decode cc pc = .ok (.fconst 1, 1)) : xStep p l e R s m args below meth c Q D cA A sv adc nL bC bS K (.fconst 1) pc 1 := by
  obtain ⟨hx, hb, hml, hown, hts, hK, hA, hE, hin⟩ := C
  have hsv := hE.2.2.2.2.2.2.2.2.2.2.2.1
  intro ls st σ ls' st' σ' ad H locs lsA h hW hl hB kk
  unfold xone at h
  dsimp only at h
  cases h
  exact lv_fconst1 hx hb hd (kk ad H locs lsA hW (fun _ _ => rfl) hl)
theorem sn_fconst2 {K : XK} (C : xCx p s m args meth c D cA A sv adc own cc nL nm) (hd : decode cc pc = .ok (.fconst 2, 1)) : xStep p l e R s m args below meth c Q D cA A sv adc nL bC bS K (.fconst 2) pc 1 := by
  obtain ⟨hx, hb, hml, hown, hts, hK, hA, hE, hin⟩ := C
  have hsv := hE.2.2.2.2.2.2.2.2.2.2.2.1
  intro ls st σ ls' st' σ' ad H locs lsA h hW hl hB kk
  unfold xone at h
  dsimp only at h
  cases h
  exact lv_fconst2 hx hb hd (kk ad H locs lsA hW (fun _ _ => rfl) hl)
theorem sn_dconst0 {K : XK} (C : xCx p s m args meth c D cA A sv adc own cc nL nm) (hd : decode cc pc = .ok (.dconst 0, 1)) : xStep p l e R s m args below meth c Q D cA A sv adc nL bC bS K (.dconst 0) pc 1 := by
  obtain ⟨hx, hb, hml, hown, hts, hK, hA, hE, hin⟩ := C
  have hsv := hE.2.2.2.2.2.2.2.2.2.2.2.1
  intro ls st σ ls' st' σ' ad H locs lsA h hW hl hB kk
  unfold xone at h
  dsimp only at h
  cases h
  exact lv_dconst0 hx hb hd (kk ad H locs lsA hW (fun _ _ => rfl) hl)
theorem sn_dconst1 {K : XK} (C : xCx p s m args meth c D cA A sv adc own cc nL nm) (hd : decode cc pc = .ok (.dconst 1, 1)) : xStep p l e R s m args below meth c Q D cA A sv adc nL bC bS K (.dconst 1) pc 1 := by
  obtain ⟨hx, hb, hml, hown, hts, hK, hA, hE, hin⟩ := C
  have hsv := hE.2.2.2.2.2.2.2.2.2.2.2.1
  intro ls st σ ls' st' σ' ad H locs lsA h hW hl hB kk
  unfold xone at h
  dsimp only at h
  cases h
  exact lv_dconst1 hx hb hd (kk ad H locs lsA hW (fun _ _ => rfl) hl)
theorem xcat_re {ad : Nat → Nat} {sv : Value} (h : sv.category = 1) (r : List Value) : ((r.map (xre ad sv)).map fun v => v.category).sum = (r.map fun v => v.category).sum := by
  rw [List.map_map]
  have e : ((fun v : Value => v.category) ∘ xre ad sv) = fun v => v.category := funext fun v => xre_cat h v
  rw [e]
theorem xO_inst : Cond.instanceMethod objectInit ∈ xWS := xat_in (i := 54) (by decide +kernel)
theorem xO_code : Cond.code objectInit ⟨#[0xb1]⟩ 1 none ∈ xWS := xat_in (i := 55) (by decide +kernel)
theorem sn_objinit {K : XK} (C : xCx p s m args meth c D cA A sv adc own cc nL nm) {k : Nat} (hw : Cond.methodLink (xow own) k objectInit ∈ xWS) (hR : 1 ≤ R.frames ∧ 30 ≤ R.locals) (hd : decode cc pc = .ok (.invokespecial k, 3)) : xStep p l e R s m args below meth c Q D cA A sv adc nL bC bS K (.monitorexit) pc 3 := by
  obtain ⟨hx, hb, hml, hown, hts, hK, hA, hE, hin⟩ := C
  have hsv := hE.2.2.2.2.2.2.2.2.2.2.2.1
  intro ls st σ ls' st' σ' ad H locs lsA h hW hl hB kk
  unfold xone at h
  dsimp only at h
  split at h
  · split at h
    · rename_i hc
      cases h
      exact W.objInit hx hb hown (hts _ hw) (hts _ xO_inst) (hts _ xO_code) rfl (hl.1.trans hml.symm) rfl hd hR.1 (by show 2 * 0 + _ + 12 ≤ _; rw [show ((List.map (xre ad sv) _).map fun v => v.category).sum = _ from xcat_re hsv _]; have := hR.2; omega) (kk ad H locs lsA hW (fun _ _ => rfl) hl)
    · cases h
  · cases h
end XOne
