/-! From the machine's own instruction, decoded, to X's. -/
theorem find_in {α : Type} {l : List α} {q f : α → Bool} {e : α} (hf : l.find? q = some e) (ha : l.all f = true) : f e = true ∧ q e = true := ⟨List.all_eq_true.mp ha e (List.mem_of_find?_eq_some hf), List.find?_some hf⟩
theorem xNW_in {i : Nat} {w : Cond} (h : lw_tbx[i]? = some w) (hk : xNWk w = true) : w ∈ xNW := List.mem_filter.mpr ⟨List.mem_of_getElem? h, hk⟩
def fdF (own k : Nat) : Option (Nat × Nat) := (cpF.find? (fun e => e.1 == own && e.2.1 == k)).map (fun e => (e.2.2.1, e.2.2.2.1))
theorem fdF_ok {own k f nest : Nat} (h : fdF own k = some (f, nest)) : if nest = 0 then Cond.fieldLink (xow own) k (xF f).1 (xF f).2.1 (xF f).2.2 ∈ xWS else Cond.fieldLinkNest (xow own) k (xF f).1 (xF f).2.1 (xF f).2.2 "BannerParadeLaw" ∈ xNW := by
  unfold fdF at h
  cases hz : cpF.find? (fun e => e.1 == own && e.2.1 == k) with
  | none => rw [hz] at h; cases h
  | some e =>
    rw [hz] at h; cases h
    obtain ⟨h1, h2⟩ := find_in hz cpF_ok
    simp only [Bool.and_eq_true, beq_iff_eq] at h2
    obtain ⟨rfl, rfl⟩ := h2
    by_cases hn : e.2.2.2.1 = 0
    · rw [if_pos hn] at h1 ⊢; exact xat_in h1
    · rw [if_neg hn] at h1 ⊢
      exact xNW_in (of_decide_eq_true h1) rfl
def fdG (own k : Nat) : Option (Nat × Nat) := (cpG.find? (fun e => e.1 == own && e.2.1 == k)).map (fun e => (e.2.2.1, e.2.2.2.1))
theorem fdG_ok {own k g nest : Nat} (h : fdG own k = some (g, nest)) : if nest = 0 then Cond.fieldLink (xow own) k (xG g).1 (xG g).2.1 (xG g).2.2 ∈ xWS else Cond.fieldLinkNest (xow own) k (xG g).1 (xG g).2.1 (xG g).2.2 "BannerParade" ∈ xNW := by
  unfold fdG at h
  cases hz : cpG.find? (fun e => e.1 == own && e.2.1 == k) with
  | none => rw [hz] at h; cases h
  | some e =>
    rw [hz] at h; cases h
    obtain ⟨h1, h2⟩ := find_in hz cpG_ok
    simp only [Bool.and_eq_true, beq_iff_eq] at h2
    obtain ⟨rfl, rfl⟩ := h2
    by_cases hn : e.2.2.2.1 = 0
    · rw [if_pos hn] at h1 ⊢; exact xat_in h1
    · rw [if_neg hn] at h1 ⊢
      exact xNW_in (of_decide_eq_true h1) rfl
def fdC (own k : Nat) : Option Nat := (cpC.find? (fun e => e.1 == own && e.2.1 == k)).map (fun e => e.2.2.1)
theorem fdC_ok {own k : Nat} {z : Nat} (h : fdC own k = some z) : Cond.classLink (xow own) k (xow z) ∈ xWS := by
  unfold fdC at h
  cases hz : cpC.find? (fun e => e.1 == own && e.2.1 == k) with
  | none => rw [hz] at h; cases h
  | some e =>
    rw [hz] at h; cases h
    obtain ⟨h1, h2⟩ := find_in hz cpC_ok
    simp only [Bool.and_eq_true, beq_iff_eq] at h2
    obtain ⟨rfl, rfl⟩ := h2
    exact xat_in h1
def fdK (own k : Nat) : Option Int := (cpK.find? (fun e => e.1 == own && e.2.1 == k)).map (fun e => e.2.2.1)
theorem fdK_ok {own k : Nat} {z : Int} (h : fdK own k = some z) : Cond.constant (xow own) k (Int32.ofInt z) ∈ xWS := by
  unfold fdK at h
  cases hz : cpK.find? (fun e => e.1 == own && e.2.1 == k) with
  | none => rw [hz] at h; cases h
  | some e =>
    rw [hz] at h; cases h
    obtain ⟨h1, h2⟩ := find_in hz cpK_ok
    simp only [Bool.and_eq_true, beq_iff_eq] at h2
    obtain ⟨rfl, rfl⟩ := h2
    exact xat_in h1
def fdL (own k : Nat) : Option Nat := (cpL.find? (fun e => e.1 == own && e.2.1 == k)).map (fun e => e.2.2.1)
theorem fdL_ok {own k : Nat} {z : Nat} (h : fdL own k = some z) : Cond.constantFloat (xow own) k (UInt32.ofNat z) ∈ xWS := by
  unfold fdL at h
  cases hz : cpL.find? (fun e => e.1 == own && e.2.1 == k) with
  | none => rw [hz] at h; cases h
  | some e =>
    rw [hz] at h; cases h
    obtain ⟨h1, h2⟩ := find_in hz cpL_ok
    simp only [Bool.and_eq_true, beq_iff_eq] at h2
    obtain ⟨rfl, rfl⟩ := h2
    exact xat_in h1
def fdJ (own k : Nat) : Option Int := (cpJ.find? (fun e => e.1 == own && e.2.1 == k)).map (fun e => e.2.2.1)
theorem fdJ_ok {own k : Nat} {z : Int} (h : fdJ own k = some z) : Cond.constantLong (xow own) k (Int64.ofInt z) ∈ xWS := by
  unfold fdJ at h
  cases hz : cpJ.find? (fun e => e.1 == own && e.2.1 == k) with
  | none => rw [hz] at h; cases h
  | some e =>
    rw [hz] at h; cases h
    obtain ⟨h1, h2⟩ := find_in hz cpJ_ok
    simp only [Bool.and_eq_true, beq_iff_eq] at h2
    obtain ⟨rfl, rfl⟩ := h2
    exact xat_in h1
def fdN (own k : Nat) : Option Nat := (cpN.find? (fun e => e.1 == own && e.2.1 == k)).map (fun e => e.2.2.1)
theorem fdN_ok {own k : Nat} {z : Nat} (h : fdN own k = some z) : Cond.methodLink (xow own) k (xNt z) ∈ xWS := by
  unfold fdN at h
  cases hz : cpN.find? (fun e => e.1 == own && e.2.1 == k) with
  | none => rw [hz] at h; cases h
  | some e =>
    rw [hz] at h; cases h
    obtain ⟨h1, h2⟩ := find_in hz cpN_ok
    simp only [Bool.and_eq_true, beq_iff_eq] at h2
    obtain ⟨rfl, rfl⟩ := h2
    exact xat_in h1
def fdO (own k : Nat) : Bool := (cpO.find? (fun e => e.1 == own && e.2.1 == k)).isSome
theorem fdO_ok {own k : Nat} (h : fdO own k = true) : Cond.methodLink (xow own) k objectInit ∈ xWS := by
  unfold fdO at h
  cases hz : cpO.find? (fun e => e.1 == own && e.2.1 == k) with
  | none => rw [hz] at h; cases h
  | some e =>
    obtain ⟨h1, h2⟩ := find_in hz cpO_ok
    simp only [Bool.and_eq_true, beq_iff_eq] at h2
    obtain ⟨rfl, rfl⟩ := h2
    exact xat_in h1
def fdS (own k : Nat) : Option Nat := (cpS.find? (fun e => e.1 == own && e.2.1 == k)).map (fun e => e.2.2)
theorem fdS_ok {own k j : Nat} (h : fdS own k = some j) : (own, k, j) ∈ cpS := by
  unfold fdS at h
  cases hz : cpS.find? (fun e => e.1 == own && e.2.1 == k) with
  | none => rw [hz] at h; cases h
  | some e =>
    rw [hz] at h; cases h
    have h2 := List.find?_some hz
    simp only [Bool.and_eq_true, beq_iff_eq] at h2
    obtain ⟨rfl, rfl⟩ := h2
    exact List.mem_of_find?_eq_some hz
/-- the only cast that is taken: to byte[] -/
def fdB (own k : Nat) : Bool := own == 22 && k == 311
theorem fdB_ok {own k : Nat} (h : fdB own k = true) : Cond.classLink (xow own) k "[B" ∈ xWS := by
  unfold fdB at h
  simp only [Bool.and_eq_true, beq_iff_eq] at h
  obtain ⟨rfl, rfl⟩ := h
  exact xat_in (i := 979) (by decide +kernel)
def xfinal (own f : Nat) (ini : Bool) (nest : Nat) : Bool := match vwCl[f / 32]? with
  | some (_, T, _) => !(T (f % 32)).2.2.2 || (ini && (own == f / 32) && decide (f / 32 < 12) && (nest == 0))
  | none => false
def xsim (own nL : Nat) (ini : Bool) (a : Instr) : Option (Instr × Nat) :=
  match a with
  | .iconst n => some (.iconst n, 1)
  | .bipush n => if (Int8.ofInt n).toInt32 = Int32.ofInt n then some (.iconst n, 2) else none
  | .sipush n => if (Int16.ofInt n).toInt32 = Int32.ofInt n then some (.iconst n, 3) else none
  | .ldc k => match fdK own k with
    | some v => some (.iconst v, 2)
    | none => match fdL own k with
      | some v => some (.ldc_w v, 2)
      | none => match fdS own k with
        | some j => some (.ldc j, 2)
        | none => none
  | .ldc_w k => match fdK own k with
    | some v => some (.iconst v, 3)
    | none => match fdL own k with
      | some v => some (.ldc_w v, 3)
      | none => none
  | .ldc2_w k => match fdJ own k with
    | some v => some (.jsr v, 3)
    | none => none
  | .lconst n => some (.lconst n, 1)
  | .fconst n => some (.fconst n, 1)
  | .dconst n => some (.dconst n, 1)
  | .iload_n n => some (.iload (n : Nat), 1)
  | .iload n => some (.iload n, 2)
  | .istore_n n => if (n : Nat) < nL then some (.istore (n : Nat), 1) else none
  | .istore n => if n < nL then some (.istore n, 2) else none
  | .aload_n n => some (.aload (n : Nat), 1)
  | .aload n => some (.aload n, 2)
  | .astore_n n => if (n : Nat) < nL then some (.astore (n : Nat), 1) else none
  | .astore n => if n < nL then some (.astore n, 2) else none
  | .lload_n n => some (.lload (n : Nat), 1)
  | .lload n => some (.lload n, 2)
  | .lstore_n n => if (n : Nat) + 1 < nL then some (.lstore (n : Nat), 1) else none
  | .lstore n => if n + 1 < nL then some (.lstore n, 2) else none
  | .fload_n n => some (.fload (n : Nat), 1)
  | .fload n => some (.fload n, 2)
  | .fstore_n n => if (n : Nat) < nL then some (.fstore (n : Nat), 1) else none
  | .fstore n => if n < nL then some (.fstore n, 2) else none
  | .dload_n n => some (.dload (n : Nat), 1)
  | .dload n => some (.dload n, 2)
  | .dstore_n n => if (n : Nat) + 1 < nL then some (.dstore (n : Nat), 1) else none
  | .dstore n => if n + 1 < nL then some (.dstore n, 2) else none
  | .iinc n k => if n < nL then some (.iinc n k, 3) else none
  | .iadd => some (.iadd, 1)
  | .isub => some (.isub, 1)
  | .imul => some (.imul, 1)
  | .iand => some (.iand, 1)
  | .ior => some (.ior, 1)
  | .ladd => some (.ladd, 1)
  | .lsub => some (.lsub, 1)
  | .ishl => some (.ishl, 1)
  | .ishr => some (.ishr, 1)
  | .ineg => some (.ineg, 1)
  | .i2f => some (.i2f, 1)
  | .i2d => some (.i2d, 1)
  | .f2i => some (.f2i, 1)
  | .d2l => some (.d2l, 1)
  | .iushr => some (.iushr, 1)
  | .i2l => some (.i2l, 1)
  | .i2b => some (.i2b, 1)
  | .i2c => some (.i2c, 1)
  | .lshl => some (.lshl, 1)
  | .lcmp => some (.lcmp, 1)
  | .idiv => some (.idiv, 1)
  | .irem => some (.irem, 1)
  | .f2d => some (.f2d, 1)
  | .fmul => some (.fmul, 1)
  | .fdiv => some (.fdiv, 1)
  | .fsub => some (.fsub, 1)
  | .dmul => some (.dmul, 1)
  | .ddiv => some (.ddiv, 1)
  | .dsub => some (.dsub, 1)
  | .dup => some (.dup, 1)
  | .pop => some (.pop, 1)
  | .dup2 => some (.dup2, 1)
  | .iaload => some (.iaload, 1)
  | .iastore => some (.iastore, 1)
  | .baload => some (.baload, 1)
  | .bastore => some (.bastore, 1)
  | .aaload => some (.aaload, 1)
  | .aastore => some (.aastore, 1)
  | .lxor => some (.lxor, 1)
  | .ixor => some (.ixor, 1)
  | .land => some (.land, 1)
  | .dup_x1 => some (.dup_x1, 1)
  | .aconst_null => some (.aconst_null, 1)
  | .arraylength => some (.arraylength, 1)
  | .fcmp z => some (.fcmp z, 1)
  | .dcmp z => some (.dcmp z, 1)
  | .getfield k => match fdF own k with
    | some (f, nest) => if (f / 32 < 15 ∧ f % 32 < xnf.getD (f / 32) 0) ∨ ((f = 960 ∨ f = 961) ∧ nest = 0) then some (.getfield f, 3) else none
    | none => none
  | .putfield k => match fdF own k with
    | some (f, nest) => if (f / 32 < 15 ∧ f % 32 < xnf.getD (f / 32) 0) ∧ xfinal own f ini nest = true then some (.putfield f, 3) else if (f = 960 ∨ f = 961) ∧ nest = 0 ∧ ini = true ∧ own = 14 then some (.putfield f, 3) else none
    | none => none
  | .getstatic k => match fdG own k with
    | some (g, nest) => if (g < 12 ∧ g ≠ 3) ∧ (nest = 0 ∨ g < 2) then some (.getstatic g, 3) else none
    | none => none
  | .new k => match fdC own k with
    | some z => some (.new z, 3)
    | none => none
  | .anewarray k => match fdC own k with
    | some z => if z = 8 then some (.anewarray 8, 3) else if z = 14 then some (.anewarray 14, 3) else none
    | none => none
  | .newarray t => if t = .int ∨ t = .byte ∨ t = .boolean then some (.newarray t, 2) else none
  | .invokespecial k => if fdO own k = true then some (.monitorexit, 3) else none
  | .invokestatic k => match fdN own k with
    | some z => if z = 3 then some (.lrem, 3) else none
    | none => none
  | .invokevirtual k => match fdN own k with
    | some z => if z = 4 then some (.ldiv, 3) else if z = 5 then some (.lneg, 3) else none
    | none => none
  | .checkcast k => if fdB own k = true then some (.monitorenter, 3) else none
  | _ => none
theorem xAC_int : Cond.arrayClass .int ∈ xWS := xat_in (i := 94) (by decide +kernel)
theorem xAC_byte : Cond.arrayClass .byte ∈ xWS := xat_in (i := 461) (by decide +kernel)
theorem xAC_boolean : Cond.arrayClass .boolean ∈ xWS := xat_in (i := 327) (by decide +kernel)
section XSim
variable {p : Program} {l : Launch} {e : Env} {R : Room} {s : State} {m : MethodId} {args : Array Value} {below : List Frame} {meth : Method} {c : Code} {Q : State → Prop} {D : va_G} {cA : Nat → ClassId} {A : Nat → Prop} {sv : Value} {adc : Nat → Nat} {own : Nat} {cc : ByteArray} {nL : Nat} {nm : MethodName} {bC bS : Nat} {pc : Nat}
theorem sim_ok {K : XK} {ini : Bool} {a i : Instr} {n : Nat} (h : xsim own nL ini a = some (i, n)) (C : xCx p s m args meth c D cA A sv adc own cc nL nm) (hsc : xSc K adc A s) (hR : 1 ≤ R.frames ∧ 40 ≤ R.locals) (hini : ini = true → nm.name = "<init>") (hd : decode cc pc = .ok (a, n)) : xStep p l e R s m args below meth c Q D cA A sv adc nL bC bS K i pc n := by
  cases a with
  | iconst n => cases h; exact sn_iconst C hd
  | bipush n =>
    unfold xsim at h; dsimp only at h
    split at h
    · rename_i hv; cases h; exact sn_bipush C hv hd
    · cases h
  | sipush n =>
    unfold xsim at h; dsimp only at h
    split at h
    · rename_i hv; cases h; exact sn_sipush C hv hd
    · cases h
  | ldc k =>
    unfold xsim at h; dsimp only at h
    split at h
    · rename_i v hv; cases h; exact sn_ldci C (fdK_ok hv) hd
    · split at h
      · rename_i v hv; cases h; exact sn_ldcf C (fdL_ok hv) hd
      · split at h
        · rename_i v hv; cases h; exact sn_ldcs C (fdS_ok hv) hd
        · cases h
  | ldc_w k =>
    unfold xsim at h; dsimp only at h
    split at h
    · rename_i v hv; cases h; exact sn_ldcwi C (fdK_ok hv) hd
    · split at h
      · rename_i v hv; cases h; exact sn_ldcwf C (fdL_ok hv) hd
      · cases h
  | ldc2_w k =>
    unfold xsim at h; dsimp only at h
    split at h
    · rename_i v hv; cases h; exact sn_ldc2l C (fdJ_ok hv) hd
    · cases h
  | lconst n => cases h; exact sn_lconst C hd
  | fconst n =>
    cases h
    match n with
    | 0 => exact sn_fconst0 C hd
    | 1 => exact sn_fconst1 C hd
    | 2 => exact sn_fconst2 C hd
  | dconst n =>
    cases h
    match n with
    | 0 => exact sn_dconst0 C hd
    | 1 => exact sn_dconst1 C hd
  | iload_n n => cases h; exact sn_iload_n C hd
  | iload n => cases h; exact sn_iload C hd
  | istore_n n =>
    unfold xsim at h; dsimp only at h
    split at h
    · rename_i hv; cases h; exact sn_istore_n C hv hd
    · cases h
  | istore n =>
    unfold xsim at h; dsimp only at h
    split at h
    · rename_i hv; cases h; exact sn_istore C hv hd
    · cases h
  | aload_n n => cases h; exact sn_aload_n C hd
  | aload n => cases h; exact sn_aload C hd
  | astore_n n =>
    unfold xsim at h; dsimp only at h
    split at h
    · rename_i hv; cases h; exact sn_astore_n C hv hd
    · cases h
  | astore n =>
    unfold xsim at h; dsimp only at h
    split at h
    · rename_i hv; cases h; exact sn_astore C hv hd
    · cases h
  | lload_n n => cases h; exact sn_lload_n C hd
  | lload n => cases h; exact sn_lload C hd
  | lstore_n n =>
    unfold xsim at h; dsimp only at h
    split at h
    · rename_i hv; cases h; exact sn_lstore_n C hv hd
    · cases h
  | lstore n =>
    unfold xsim at h; dsimp only at h
    split at h
    · rename_i hv; cases h; exact sn_lstore C hv hd
    · cases h
  | fload_n n => cases h; exact sn_fload_n C hd
  | fload n => cases h; exact sn_fload C hd
  | fstore_n n =>
    unfold xsim at h; dsimp only at h
    split at h
    · rename_i hv; cases h; exact sn_fstore_n C hv hd
    · cases h
  | fstore n =>
    unfold xsim at h; dsimp only at h
    split at h
    · rename_i hv; cases h; exact sn_fstore C hv hd
    · cases h
  | dload_n n => cases h; exact sn_dload_n C hd
  | dload n => cases h; exact sn_dload C hd
  | dstore_n n =>
    unfold xsim at h; dsimp only at h
    split at h
    · rename_i hv; cases h; exact sn_dstore_n C hv hd
    · cases h
  | dstore n =>
    unfold xsim at h; dsimp only at h
    split at h
    · rename_i hv; cases h; exact sn_dstore C hv hd
    · cases h
  | iinc n k =>
    unfold xsim at h; dsimp only at h
    split at h
    · rename_i hv; cases h; exact sn_iinc C hv hd
    · cases h
  | iadd => cases h; exact sn_iadd C hd
  | isub => cases h; exact sn_isub C hd
  | imul => cases h; exact sn_imul C hd
  | iand => cases h; exact sn_iand C hd
  | ior => cases h; exact sn_ior C hd
  | ladd => cases h; exact sn_ladd C hd
  | lsub => cases h; exact sn_lsub C hd
  | ishl => cases h; exact sn_ishl C hd
  | ishr => cases h; exact sn_ishr C hd
  | ineg => cases h; exact sn_ineg C hd
  | i2f => cases h; exact sn_i2f C hd
  | i2d => cases h; exact sn_i2d C hd
  | f2i => cases h; exact sn_f2i C hd
  | d2l => cases h; exact sn_d2l C hd
  | iushr => cases h; exact sn_iushr C hd
  | i2l => cases h; exact sn_i2l C hd
  | i2b => cases h; exact sn_i2b C hd
  | i2c => cases h; exact sn_i2c C hd
  | lshl => cases h; exact sn_lshl C hd
  | lcmp => cases h; exact sn_lcmp C hd
  | idiv => cases h; exact sn_idiv C hd
  | irem => cases h; exact sn_irem C hd
  | f2d => cases h; exact sn_f2d C hd
  | fmul => cases h; exact sn_fmul C hd
  | fdiv => cases h; exact sn_fdiv C hd
  | fsub => cases h; exact sn_fsub C hd
  | dmul => cases h; exact sn_dmul C hd
  | ddiv => cases h; exact sn_ddiv C hd
  | dsub => cases h; exact sn_dsub C hd
  | dup => cases h; exact sn_dup C hd
  | pop => cases h; exact sn_pop C hd
  | dup2 => cases h; exact sn_dup2 C hd
  | iaload => cases h; exact sn_iaload C hsc hd
  | iastore => cases h; exact sn_iastore C hd
  | baload => cases h; exact sn_baload C hd
  | bastore => cases h; exact sn_bastore C hd
  | aaload => cases h; exact sn_aaload C hd
  | aastore => cases h; exact sn_aastore C hd
  | lxor =>
    cases h
    intro ls st σ ls' st' σ' ad H locs lsA h
    unfold xone at h
    dsimp only at h
    cases h
  | ixor => cases h; exact sn_ixor C hd
  | land => cases h; exact sn_land C hd
  | dup_x1 => cases h; exact sn_dup_x1 C hd
  | aconst_null => cases h; exact sn_null C hd
  | arraylength => cases h; exact sn_arraylength C hsc hd
  | fcmp z => cases h; exact sn_fcmp C hd
  | dcmp z => cases h; exact sn_dcmp C hd
  | getfield k =>
    unfold xsim at h; dsimp only at h
    split at h
    · rename_i f nest hf
      split at h
      · rename_i hv; cases h; exact sn_getfield C (fdF_ok hf) hv hd
      · cases h
    · cases h
  | putfield k =>
    unfold xsim at h; dsimp only at h
    split at h
    · rename_i f nest hf
      split at h
      · rename_i hv; cases h
        refine sn_putfield C (fdF_ok hf) hv.1 (fun T N C9 hT => ?_) hd
        have h2 := hv.2
        unfold xfinal at h2
        rw [hT] at h2
        simp only [Bool.or_eq_true, Bool.not_eq_true', Bool.and_eq_true, beq_iff_eq, decide_eq_true_eq] at h2
        rcases h2 with h2 | ⟨⟨⟨h2, h3⟩, h4⟩, h5⟩
        · exact Or.inl h2
        · exact Or.inr ⟨hini h2, h3, h4, h5⟩
      · split at h
        · rename_i hv; cases h
          obtain ⟨h1, h2, h3, h4⟩ := hv
          have hw := fdF_ok hf
          rw [if_pos h2] at hw
          exact sn_putS C hw h1 ⟨hini h3, h4⟩ hd
        · cases h
    · cases h
  | getstatic k =>
    unfold xsim at h; dsimp only at h
    split at h
    · rename_i g nest hf
      split at h
      · rename_i hv; cases h; exact sn_getstatic C hv.1 (fdG_ok hf) hv.2 hd
      · cases h
    · cases h
  | new k =>
    unfold xsim at h; dsimp only at h
    split at h
    · rename_i z hf; cases h; exact sn_new C (fdC_ok hf) hd
    · cases h
  | anewarray k =>
    unfold xsim at h; dsimp only at h
    split at h
    · rename_i z hf
      split at h
      · rename_i hz; cases h; subst hz; exact sn_anewarray C (fdC_ok hf) hd
      · split at h
        · rename_i hz; cases h; subst hz; exact sn_anewarrayS C (fdC_ok hf) hd
        · cases h
    · cases h
  | newarray t =>
    unfold xsim at h; dsimp only at h
    split at h
    · rename_i ht
      cases h
      refine sn_newarray C ht ?_ hd
      rcases ht with rfl | rfl | rfl
      · exact xAC_int
      · exact xAC_byte
      · exact xAC_boolean
    · cases h
  | invokespecial k =>
    unfold xsim at h; dsimp only at h
    split at h
    · rename_i hv; cases h; exact sn_objinit C (fdO_ok hv) ⟨hR.1, by omega⟩ hd
    · cases h
  | invokestatic k =>
    unfold xsim at h; dsimp only at h
    split at h
    · rename_i z hf
      split at h
      · rename_i hz; cases h; subst hz; exact sn_copy C (fdN_ok hf) hR hd
      · cases h
    · cases h
  | invokevirtual k =>
    unfold xsim at h; dsimp only at h
    split at h
    · rename_i z hf
      split at h
      · rename_i hz; cases h; subst hz; exact sn_getLong C (fdN_ok hf) hR hd
      · split at h
        · rename_i hz; cases h; subst hz; exact sn_clone C (fdN_ok hf) hR hd
        · cases h
    · cases h
  | checkcast k =>
    unfold xsim at h; dsimp only at h
    split at h
    · rename_i hv; cases h; exact sn_cast C (fdB_ok hv) hd
    · cases h
  | _ => cases h
end XSim
