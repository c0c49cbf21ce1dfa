/-! The machine reads eight bytes of two whole numbers: the memory's own getLong, over an int[]. -/
section XUns
theorem x_locate {d : Bool} {acts : List Action} {E : CtlPost} {e : Env} {s : State} {a : Addr} {A : Cell} {k : Class} {comp : ClassId} {p : Nat} {off : Int64} {Q : UnsafeMem.Target → Jvm.Pre}
    (hA : s.heap[a]? = some A) (hvm : A.vm = .none) (hk : s.vm.classes[A.cls]? = some k) (hkind : k.kind = .array comp .int) (hneg : ¬ off < 0) (hoff : off.toNatClampNeg = 16 + p) : wp (UnsafeMem.locate (.ref a) off .long) Q E e d acts s ↔ Q (UnsafeMem.Target.bytes a .int p) d acts s := by
  simp [UnsafeMem.locate, hneg, hoff, hA, Cell.info, hvm, hk, hkind, UnsafeMem.arrayBase, UnsafeMem.scaleOf, UnsafeMem.isRefType]
theorem x_readByte {d : Bool} {acts : List Action} {E : CtlPost} {e : Env} {s : State} {a : Addr} {A : Cell} {i j : Nat} {x : Int32} {Q : Nat → Jvm.Pre} (hA : s.heap[a]? = some A) (hvm : A.vm = .none) (hj : i / 4 = j) (h : A.slots[j]? = some (.int x)) :
    wp (UnsafeMem.readByte a .int i .plain) Q E e d acts s ↔ Q (x.toUInt32.toNat % 2 ^ 32 / 2 ^ (8 * (i % 4)) % 256) d (Jvm.readActs ⟨a, j⟩ .plain (.int x) acts) s := by
  subst hj
  simp [UnsafeMem.readByte, UnsafeMem.scaleOf, UnsafeMem.bitsOf, hA, hvm, h]
theorem x_byte {x : Int32} {i k : Nat} (h : i % 4 = k) : x.toUInt32.toNat % 2 ^ 32 / 2 ^ (8 * (i % 4)) % 256 = xby x k := by
  subst h
  unfold xby
  rw [Nat.mod_eq_of_lt (show x.toUInt32.toNat < 2 ^ 32 from x.toUInt32.toNat_lt)]
theorem x_getLong {d : Bool} {acts : List Action} {E : CtlPost} {e : Env} {s : State} {a : Addr} {A : Cell} {k : Class} {comp : ClassId} {q : Nat} {off : Int64} {x y : Int32} {Q : Value → Jvm.Pre}
    (hA : s.heap[a]? = some A) (hvm : A.vm = .none) (hk : s.vm.classes[A.cls]? = some k) (hkind : k.kind = .array comp .int) (hneg : ¬ off < 0) (hoff : off.toNatClampNeg = 16 + 8 * q)
    (h0 : A.slots[2 * q]? = some (.int x)) (h1 : A.slots[2 * q + 1]? = some (.int y)) (hQ : ∀ d' acts', Q (.long (packN [xby x 0, xby x 1, xby x 2, xby x 3, xby y 0, xby y 1, xby y 2, xby y 3]).toUInt64.toInt64) d' acts' s) : wp (UnsafeMem.get .long (.ref a) off .plain) Q E e d acts s := by
  have hr : List.range (UnsafeMem.scaleOf .long) = [0, 1, 2, 3, 4, 5, 6, 7] := rfl
  simp only [UnsafeMem.get, wp_bind', x_locate hA hvm hk hkind hneg hoff, hr, List.mapM, List.mapM.loop,
    x_readByte (i := 8 * q + 0) hA hvm (by omega) h0, x_readByte (i := 8 * q + 1) hA hvm (by omega) h0, x_readByte (i := 8 * q + 2) hA hvm (by omega) h0, x_readByte (i := 8 * q + 3) hA hvm (by omega) h0,
    x_readByte (i := 8 * q + 4) hA hvm (by omega) h1, x_readByte (i := 8 * q + 5) hA hvm (by omega) h1, x_readByte (i := 8 * q + 6) hA hvm (by omega) h1, x_readByte (i := 8 * q + 7) hA hvm (by omega) h1, wp_pure',
    x_byte (x := x) (i := 8 * q + 0) (k := 0) (by omega), x_byte (x := x) (i := 8 * q + 1) (k := 1) (by omega), x_byte (x := x) (i := 8 * q + 2) (k := 2) (by omega), x_byte (x := x) (i := 8 * q + 3) (k := 3) (by omega),
    x_byte (x := y) (i := 8 * q + 4) (k := 0) (by omega), x_byte (x := y) (i := 8 * q + 5) (k := 1) (by omega), x_byte (x := y) (i := 8 * q + 6) (k := 2) (by omega), x_byte (x := y) (i := 8 * q + 7) (k := 3) (by omega)]
  exact hQ _ _
theorem xgl_pk8 (p : Nat → Nat) (a b c d e f g h : Nat) : ([a, b, c, d, e, f, g, h].zipIdx.map fun (x, k) => x * p k).sum = a * p 0 + (b * p 1 + (c * p 2 + (d * p 3 + (e * p 4 + (f * p 5 + (g * p 6 + (h * p 7 + 0))))))) := rfl
theorem xgl_sum (a b c d e f g h : Nat) : packN [a, b, c, d, e, f, g, h] = a * 2 ^ 0 + (b * 2 ^ 8 + (c * 2 ^ 16 + (d * 2 ^ 24 + (e * 2 ^ 32 + (f * 2 ^ 40 + (g * 2 ^ 48 + (h * 2 ^ 56 + 0))))))) := by
  have q0 : (2 : Nat) ^ (8 * 0) = 2 ^ 0 := rfl
  have q1 : (2 : Nat) ^ (8 * 1) = 2 ^ 8 := rfl
  have q2 : (2 : Nat) ^ (8 * 2) = 2 ^ 16 := rfl
  have q3 : (2 : Nat) ^ (8 * 3) = 2 ^ 24 := rfl
  have q4 : (2 : Nat) ^ (8 * 4) = 2 ^ 32 := rfl
  have q5 : (2 : Nat) ^ (8 * 5) = 2 ^ 40 := rfl
  have q6 : (2 : Nat) ^ (8 * 6) = 2 ^ 48 := rfl
  have q7 : (2 : Nat) ^ (8 * 7) = 2 ^ 56 := rfl
  have e := xgl_pk8 (fun k => 2 ^ (8 * k)) a b c d e f g h
  rw [← q0, ← q1, ← q2, ← q3, ← q4, ← q5, ← q6, ← q7]
  exact e
theorem xgl_pack (x y : Int32) : (packN [xby x 0, xby x 1, xby x 2, xby x 3, xby y 0, xby y 1, xby y 2, xby y 3]).toUInt64.toInt64 = xgl x y := by
  rw [xgl_sum]
  unfold xgl
  rfl
/-- the memory's object; the array, its cell; from which pair; the offset; the two numbers -/
abbrev xUG : Type := Addr × Addr × Cell × Nat × Int64 × Int32 × Int32
def xUP (g : xUG) (a : Array Value) (U : State) : Prop := a = #[.ref g.1, .ref g.2.1, .long g.2.2.2.2.1] ∧ U.heap[g.2.1]? = some g.2.2.1 ∧ g.2.2.1.vm = .none ∧ (∃ (k : Class) (comp : ClassId), U.vm.classes[g.2.2.1.cls]? = some k ∧ k.kind = .array comp .int) ∧ ¬ g.2.2.2.2.1 < 0 ∧ g.2.2.2.2.1.toNatClampNeg = 16 + 8 * g.2.2.2.1 ∧
  g.2.2.1.slots[2 * g.2.2.2.1]? = some (.int g.2.2.2.2.2.1) ∧ g.2.2.1.slots[2 * g.2.2.2.1 + 1]? = some (.int g.2.2.2.2.2.2)
theorem x_glpays {l : Launch} {R : Room} {p : Program} {e : Env} {below : List Frame} {s : State} {sargs : Array Value} {len W : Nat} (hnat : (Cond.native (xNt 4)).before sargs s = true) (hinst : (Cond.instanceMethod (xNt 4)).before sargs s = true) (hfr : 1 ≤ R.frames) (hlo : W + 17 ≤ R.locals) :
    Back l R p e below s sargs (xNt 4) len W (fun A a => ∃ g : xUG, xUP g a A.U) (fun A a v B => B = A ∧ ∀ g : xUG, xUP g a A.U → v = some (.long (xgl g.2.2.2.2.2.1 g.2.2.2.2.2.2))) :=
  Back.of_nativeQ (P := xUP) (val := fun g : xUG => some (.long (xgl g.2.2.2.2.2.1 g.2.2.2.2.2.2))) (words := 4) (NT.getLong_row p) (nativeInstance hnat hinst NT.UnsafeGetLong.desc) hfr (by rw [show nativeFrameWords (xNt 4).cls (xNt 4).name 4 = 6 from by decide +kernel]; omega) fun g U a m _ hst hps hP => by
    obtain ⟨u, arr, A, q, off, x, y⟩ := g
    obtain ⟨rfl, hA, hvm, ⟨k, comp, hk, hkind⟩, hneg, hoff, h0, h1⟩ := hP
    dsimp only at hA hvm hk hkind h0 h1 hneg hoff
    refine ⟨rfl, by simp [seenByNative, hst, hps, narrow], fun fs Q hq => ?_⟩
    show wp (do let v ← UnsafeMem.get .long (.ref arr) off .plain; mark "nat.jdk_internal_misc_Unsafe.get"; Pure.pure (some v)) Q _ e false [] (U.setFrames fs)
    simp only [wp_bind']
    refine x_getLong (s := U.setFrames fs) (A := A) (k := k) (comp := comp) (q := q) (x := x) (y := y) hA hvm hk hkind hneg hoff h0 h1 fun d' acts' => ?_
    rw [xgl_pack]
    simp
    exact hq _ _
variable {p : Program} {l : Launch} {e : Env} {R : Room} {s : State} {m : MethodId} {args : Array Value} {below : List Frame} {meth : Method} {c : Code} {Q : State → Prop} {D : va_G} {cA : Nat → ClassId} {A : Nat → Prop} {sv : Value} {adc : Nat → Nat} {own : Nat} {cc : ByteArray} {nL : Nat} {nm : MethodName} {bC bS : Nat} {pc : Nat}
/-- an object's own native method is called -/
theorem x_callVN {T : State} {locs : List Loc} {cells slots : Nat} (X : Stand p l e R s m args below meth c T locs cells slots) (hexec : p.tables.exec = Jvm.exec) {own C : String} {index : Nat} {y : MethodName}
    (hown : s.vm.findClass own = some m.cls) (hlink : (Cond.methodLink own index y).before args s = true) (hinst : (Cond.instanceMethod y).before args s = true) (hsel : (Cond.selects C y y).before args s = true)
    (hnat : (Cond.native y).before args s = true) (hy : y.cls ≠ "java/lang/invoke/MethodHandle" ∧ y.cls ≠ "java/lang/invoke/VarHandle")
    {W : Nat} {Pre : Pt → Array Value → Prop} {Post : Pt → Array Value → Option Value → Pt → Prop} (hK : Back l R p e below s args y 3 W Pre Post)
    {b : Addr} {cellB : Cell} (hcell : T.heap[b]? = some cellB) (hobj : cellB.vm.isStatics = false) (hcls : s.vm.findClass C = some cellB.cls)
    {g : JFrame} (hg : g.method = m) (hsize : g.locals.size = c.maxLocals) {argsL rest : List Value} (hlen : ∀ sig, parseMethodDescriptor y.desc = some sig → argsL.length = sig.parameters.length)
    (hstack : g.stack = argsL.reverse ++ .ref b :: rest) (hW : 2 * g.monitorRoom + (rest.map fun v => v.category).sum ≤ W) (hdg : decode c.code g.pc = .ok (.invokevirtual index, 3))
    (hpre : ∀ vm₁, s.WarmedH vm₁ → Pre ⟨T.setVm vm₁, locs, cells, slots⟩ (Value.ref b :: argsL).toArray) :
    ∃ (v : Option Value) (vm₁ : Vm) (B : Pt), s.WarmedH vm₁ ∧ Stand p l e R s m args below meth c B.U B.locs B.cells B.slots ∧ Post ⟨T.setVm vm₁, locs, cells, slots⟩ (Value.ref b :: argsL).toArray v B ∧
      ∀ target, Steps p.tables e below (B.U.setTop { g with pc := g.pc + 3, stack := v.toList ++ rest }) target → Steps p.tables e below (T.setTop g) target := by
  obtain ⟨mk, methM, hnamed, hmethM, hstM, habM⟩ := Cond.instanceMethod_spec hinst
  obtain ⟨mk', methM', hnamed', hmethM', -, -, -, hsigM⟩ := Cond.native_spec hnat
  cases hnamed.symm.trans hnamed'
  cases hmethM.symm.trans hmethM'
  obtain ⟨c2, r2, m2, q1, q2, q3, q4, kP, hkP, hkPi⟩ := Cond.selects_spec hsel
  cases hcls.symm.trans q1
  cases (State.methodFound?_of_named hnamed hy).symm.trans q2
  cases hnamed.symm.trans q3
  have hselP : selectMethod e.platform s.vm cellB.cls mk = .method mk := by rw [Launch.admits_selectMethod X.admits]; exact q4
  obtain ⟨vm₁, X₁, hstep₁⟩ := X.invokevirtual hexec hown hlink hnamed hmethM hstM hkP hkPi hy (a := b) (cell := cellB) hcell
    (fun z h => by rw [h] at hobj; cases hobj) hselP hmethM habM hkP hkPi (g := g) hg (argsL := argsL) (rest := rest) (hlen _ hsigM) hstack hdg
  obtain ⟨v, B, X', hpost, hsteps⟩ := hK m meth c ⟨T.setVm vm₁, locs, cells, slots⟩ { g with stack := rest } (.invokevirtual index) mk (Value.ref b :: argsL).toArray X₁ hg hsize hdg hW (X₁.named hnamed) (hpre vm₁ X₁.warmed)
  exact ⟨v, vm₁, B, X₁.warmed, X', hpost, fun target h => hstep₁ _ fun acts => by rw [doInvoke_state]; exact hsteps.trans h⟩
theorem xNu_n : Cond.native (xNt 4) ∈ xWS := xat_in (i := 1367) (by decide +kernel)
theorem xNu_i : Cond.instanceMethod (xNt 4) ∈ xWS := xat_in (i := 1365) (by decide +kernel)
theorem xNu_s : Cond.selects "jdk/internal/misc/Unsafe" (xNt 4) (xNt 4) ∈ xWS := xat_in (i := 1366) (by decide +kernel)
theorem sn_getLong {K : XK} {k : Nat} (C : xCx p s m args meth c D cA A sv adc own cc nL nm) (hw : Cond.methodLink (xow own) k (xNt 4) ∈ xWS) (hR : 1 ≤ R.frames ∧ 40 ≤ R.locals) (hd : decode cc pc = .ok (.invokevirtual k, 3)) : xStep p l e R s m args below meth c Q D cA A sv adc nL bC bS K .ldiv pc 3 := by
  obtain ⟨hx, hb, hml, hown, hts, hK, hA, hE, hin⟩ := C
  have hsv := hE.2.2.2.2.2.2.2.2.2.2.2.1
  intro ls st σ ls' st' σ' ad H locs lsA h hW hl hB kk
  have hE' := xEnv.ad (ad' := ad) hE (fun a h => hW.2.2.2 a h)
  obtain ⟨-, -, -, ⟨-, -, -, -, hU, -⟩, -⟩ := hE'
  unfold xone at h
  dsimp only at h
  split at h
  · rename_i off a u r
    split at h
    · rename_i ci n rs hS
      split at h
      · rename_i hc
        obtain ⟨rfl, rfl, hn0, h16, hm8, hlen, hcat⟩ := hc
        cases h
        have hcell := xws_at (ad := ad) (cA := cA) hS
        rw [xcell_i (x := (20, n, rs)) (Or.inl rfl)] at hcell
        have hH := hW.1 a _ hcell
        obtain ⟨cu, u1, u2, u3, u4⟩ := hU
        have hHu : H[ad 1000004]? = some cu := by rw [hW.2.2.1.2.1 _ (Array.getElem?_eq_some_iff.mp u1).1 u4]; exact u1
        intro T hT X
        have hK2 := x_glpays (l := l) (R := R) (p := p) (e := e) (below := below) (s := s) (sargs := args) (len := 3) (W := 8) (hts _ xNu_n) (hts _ xNu_i) hR.1 (by have := hR.2; omega)
        obtain ⟨q, hq⟩ : ∃ q, off.toNatClampNeg = 16 + 8 * q := ⟨(off.toNatClampNeg - 16) / 8, by omega⟩
        have e1 : (off.toNatClampNeg - 16) / 4 = 2 * q := by omega
        rw [e1] at kk
        obtain ⟨-, k1, hk1, comp, hkind⟩ := (hK.2 0 (cA 20, .int) rfl).1 n (fun j => .int (σ.2.2.2 a j))
        obtain ⟨v, vm1, B, hW1, X1, ⟨hB1, hv⟩, st1⟩ := x_callVN X hx hown (C := "jdk/internal/misc/Unsafe") (hts _ hw) (hts _ xNu_i) (hts _ xNu_s) (hts _ xNu_n) ⟨by decide, by decide⟩ hK2 (b := ad 1000004) (cellB := cu) (by rw [hT]; exact hHu) u2 u3 (g := F0 m pc lsA (.long off :: .ref (ad a) :: .ref (ad 1000004) :: r.map (xre ad sv))) rfl (hl.1.trans hml.symm) (argsL := [.ref (ad a), .long off]) (rest := r.map (xre ad sv)) (fun sig h => by
          rw [show parseMethodDescriptor (xNt 4).desc = some { parameters := [.object "java/lang/Object", .long], returnType := some .long } from NT.UnsafeGetLong.desc] at h
          cases h; rfl) rfl (lv_room (by rw [xcat_re hsv]; exact hcat)) (by rw [hb]; exact hd) (fun vm1 hWm => by
          obtain ⟨k2, hk2, ek2⟩ := hWm.alike.2.2 _ _ hk1
          refine ⟨(ad 1000004, ad a, arrV (cA 20) n (fun j => .int (σ.2.2.2 a j)), q, off, σ.2.2.2 a (2 * q), σ.2.2.2 a (2 * q + 1)), rfl, by show T.heap[ad a]? = _; rw [hT]; exact hH, rfl, ⟨k2, comp, hk2, by rw [ek2]; exact hkind⟩, Int64.not_lt.mpr hn0, hq, arrV_read _ _ (show 2 * q < n by omega), arrV_read _ _ (show 2 * q + 1 < n by omega)⟩)
        have hv2 := hv (ad 1000004, ad a, arrV (cA 20) n (fun j => .int (σ.2.2.2 a j)), q, off, σ.2.2.2 a (2 * q), σ.2.2.2 a (2 * q + 1)) (by
          obtain ⟨k2, hk2, ek2⟩ := hW1.alike.2.2 _ _ hk1
          exact ⟨rfl, by show T.heap[ad a]? = _; rw [hT]; exact hH, rfl, ⟨k2, comp, hk2, by rw [ek2]; exact hkind⟩, Int64.not_lt.mpr hn0, hq, arrV_read _ _ (show 2 * q < n by omega), arrV_read _ _ (show 2 * q + 1 < n by omega)⟩)
        subst hB1
        subst hv2
        obtain ⟨t, a1, b1⟩ := kk ad H locs lsA hW (fun _ _ => rfl) hl (T.setVm vm1) hT X1
        exact ⟨t, st1 t a1, b1⟩
      · cases h
    · cases h
  · cases h
end XUns
