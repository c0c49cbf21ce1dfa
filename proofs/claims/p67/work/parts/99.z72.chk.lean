/-! The check of a method: its blocks are its bytecode, its words stand among the tables. -/
def fdM (own k : Nat) : Option (Nat × Nat) := (cpM.find? (fun e => e.1 == own && e.2.1 == k)).map (fun e => (e.2.2.1, e.2.2.2.1))
theorem fdM_ok {own k y nest : Nat} (h : fdM own k = some (y, nest)) : if nest = 0 then Cond.methodLink (xow own) k (xnm (xln y)) ∈ xWS else Cond.methodLinkNest (xow own) k (xnm y) (xhost nest) ∈ xNW ∧ xln y = y := by
  unfold fdM at h
  cases hz : cpM.find? (fun e => e.1 == own && e.2.1 == k) with
  | none => rw [hz] at h; cases h
  | some e =>
    rw [hz] at h; cases h
    obtain ⟨h1, h2⟩ := find_in hz cpM_ok
    simp only [Bool.and_eq_true, beq_iff_eq] at h2
    obtain ⟨rfl, rfl⟩ := h2
    unfold xchM at h1
    by_cases hn : e.2.2.2.1 = 0
    · rw [if_pos hn] at h1 ⊢; exact xat_in h1
    · rw [if_neg hn] at h1 ⊢
      rw [Bool.and_eq_true, decide_eq_true_eq, decide_eq_true_eq] at h1
      exact ⟨xNW_in h1.1 rfl, h1.2⟩
def xtgt (pcs : List Nat) (pc : Nat) (off L : Int) : Bool := match pcs[L.toNat]? with
  | some t => decide ((pc : Int) + off = (t : Int))
  | none => false
/-- the methods whose code the tables tell -/
def yr (y : Nat) : Bool := decide (y < 398) && !((xWs.getD y (0, 0, 0, 0)).1 == 0)
def xinit (y : Nat) : Bool := (xnm y).name == "<init>"
def xstat (y : Nat) : Bool := match xmt y with
  | some (_, _, rc, _, _, _) => rc == 99 && !xinit y
  | none => false
def xvirt (y : Nat) : Bool := match xmt y with
  | some (_, _, rc, _, _, _) => !(rc == 99) && !xinit y
  | none => false
def xchk (own nL : Nat) (ini : Bool) (b : ByteArray) (pcs : List Nat) : Nat → List Instr → Bool
  | _, [] => true
  | pc, i :: is =>
    match i with
    | .goto_w L => pcs[L.toNat]? == some pc
    | .goto L => match decode b pc with
      | .ok (.goto off, 3) => xtgt pcs pc off L
      | _ => false
    | .ifCond c L => match decode b pc with
      | .ok (.ifCond c' off, 3) => decide (c = c') && xtgt pcs pc off L && xchk own nL ini b pcs (pc + 3) is
      | _ => false
    | .if_icmp c L => match decode b pc with
      | .ok (.if_icmp c' off, 3) => decide (c = c') && xtgt pcs pc off L && xchk own nL ini b pcs (pc + 3) is
      | _ => false
    | .ifnull _ => match decode b pc with
      | .ok (.ifnull _, 3) => xchk own nL ini b pcs (pc + 3) is
      | _ => false
    | .ifnonnull L => match decode b pc with
      | .ok (.ifnonnull off, 3) => xtgt pcs pc off L
      | _ => false
    | .if_acmp e L => match decode b pc with
      | .ok (.if_acmp e' off, 3) => decide (e = e') && xtgt pcs pc off L
      | _ => false
    | .tableswitch d lo hi offs => match decode b pc with
      | .ok (.tableswitch d' lo' hi' offs', _) => lo == lo' && hi == hi' && xtgt pcs pc d' d && offs.size == offs'.size && (offs.toList.zip offs'.toList).all (fun q => xtgt pcs pc q.2 q.1)
      | _ => false
    | .lookupswitch d ps => match decode b pc with
      | .ok (.lookupswitch d' ps', _) => xtgt pcs pc d' d && (ps'.toList.zip (ps'.toList.drop 1)).all (fun (a, next) => a.1 < next.1) && ps.size == ps'.size && (ps.toList.zip ps'.toList).all (fun q => q.1.1 == q.2.1 && xtgt pcs pc q.2.2 q.1.2)
      | _ => false
    | .ireturn => decide (decode b pc = .ok (.ireturn, 1))
    | .lreturn => decide (decode b pc = .ok (.lreturn, 1))
    | .freturn => decide (decode b pc = .ok (.freturn, 1))
    | .dreturn => decide (decode b pc = .ok (.dreturn, 1))
    | .areturn => decide (decode b pc = .ok (.areturn, 1))
    | .return_ => decide (decode b pc = .ok (.return_, 1))
    | .checkcast _ => true
    | .invokevirtual y => match decode b pc with
      | .ok (.invokevirtual k, 3) => fdM own k == some (y, 0) && xvirt y && !(xsu y) && yr y && xchk own nL ini b pcs (pc + 3) is
      | _ => false
    | .invokespecial y => match decode b pc with
      | .ok (.invokespecial k, 3) => (fdM own k).map Prod.fst == some y && (xinit y || (xsu y && (xow own == RSB) && (fdM own k == some (y, 0)) && (xln y == y))) && yr y && xchk own nL ini b pcs (pc + 3) is
      | _ => false
    | .invokestatic y => match decode b pc with
      | .ok (.invokestatic k, 3) => (fdM own k).map Prod.fst == some y && xstat y && yr y && xchk own nL ini b pcs (pc + 3) is
      | _ => false
    | i => match decode b pc with
      | .ok (a, n) => decide (xsim own nL ini a = some (i, n)) && xchk own nL ini b pcs (pc + n) is
      | _ => false
def xrtk : Nat → Option FieldType → Bool
  | 0, none => true
  | 1, some .int => true
  | 2, some .boolean => true
  | 3, some .byte => true
  | 4, some .char => true
  | 5, some .long => true
  | 6, some .float => true
  | 7, some .double => true
  | 8, some (.object _) => true
  | 8, some (.array _) => true
  | _, _ => false
/-- what the receiver's kind says of the method's class -/
def xrc (y rc : Nat) : Bool := decide (rc < 15) && xow rc == (xnm y).cls || rc == 30 && (xnm y).cls == "java/lang/String" || rc == 99 || rc == 12 && (xup y || xsu y || xinit y) || rc == 13 && xinit y || rc == 31 && (xnm y).cls == "jdk/internal/misc/Unsafe"
/-- all of it, for method y -/
def xyok (y : Nat) : Bool := match xmt y, xrl y with
  | some (_, ml, rc, rt, hd, bs), (own, nm, b, ml', ret, hh, pcs) =>
    ml == ml' && decide (ml ≤ 21) && xrtk rt ret && (pcs[0]? == some 0) && pcs.length == bs.length && ((pcs.zip bs).all fun q => xchk own ml (nm.name == "<init>") b pcs q.1 q.2.2) && hd.isEmpty && hh.isEmpty && xrc y rc
  | none, _ => false
def xyw (y : Nat) : Bool := match xmt y with
  | some (na, _, rc, _, _, _) => xwm y rc (xrl y) (xWs.getD y (0, 0, 0, 0)) (xstat y) && plainFor (xnm y) && !((xnm y).cls == "java/lang/invoke/MethodHandle") && !((xnm y).cls == "java/lang/invoke/VarHandle") &&
    ((parseMethodDescriptor (xnm y).desc).map (fun d => d.parameters.length) == some (if xstat y then na else na - 1)) && (xstat y || decide (1 ≤ na)) && (if rc == 99 then true else xow (xrl y).1 == (xnm y).cls)
  | none => false
