/-! The check of a method: its blocks are its bytecode, its words stand among the tables. -/
def cpX : List (Nat × Nat × Nat × Nat) := [(12, 20, 0, 769), (12, 15, 1, 493), (12, 13, 2, 492)]
theorem cpX_ok : (cpX.all fun e => xat e.2.2.2 (.classLink (xow e.1) e.2.1 (xexn e.2.2.1))) = true := by decide +kernel
def fdX (own k : Nat) : Option Nat := (cpX.find? (fun e => e.1 == own && e.2.1 == k)).map (fun e => e.2.2.1)
theorem fdX_ok {own k : Nat} {z : Nat} (h : fdX own k = some z) : Cond.classLink (xow own) k (xexn z) ∈ xWS := by
  unfold fdX at h
  cases hz : cpX.find? (fun e => e.1 == own && e.2.1 == k) with
  | none => rw [hz] at h; cases h
  | some e =>
    rw [hz] at h; cases h
    obtain ⟨h1, h2⟩ := find_in hz cpX_ok
    simp only [Bool.and_eq_true, beq_iff_eq] at h2
    obtain ⟨rfl, rfl⟩ := h2
    exact xat_in h1
def fdM (own k : Nat) : Option (Nat × Nat) := (cpM.find? (fun e => e.1 == own && e.2.1 == k)).map (fun e => (e.2.2.1, e.2.2.2.1))
theorem fdM_ok {own k y nest : Nat} (h : fdM own k = some (y, nest)) : if nest = 0 then Cond.methodLink (xow own) k (xnm y) ∈ xWS else Cond.methodLinkNest (xow own) k (xnm y) "BannerParade" ∈ xNW := by
  unfold fdM at h
  cases hz : cpM.find? (fun e => e.1 == own && e.2.1 == k) with
  | none => rw [hz] at h; cases h
  | some e =>
    rw [hz] at h; cases h
    obtain ⟨h1, h2⟩ := find_in hz cpM_ok
    simp only [Bool.and_eq_true, beq_iff_eq] at h2
    obtain ⟨rfl, rfl⟩ := h2
    unfold xchM at h1
    by_cases hn : e.2.2.2.1 = 0
    · rw [if_pos hn] at h1 ⊢; exact xat_in h1
    · rw [if_neg hn] at h1 ⊢
      exact xNW_in (of_decide_eq_true h1) rfl
def xthr : List (Nat × Nat) := [(402, 406), (427, 431), (72, 76)]
def xsup : List String := ["java/lang/RuntimeException", "java/lang/Exception"]
def xthrE (E : Nat) : Bool :=
  xat ([778, 715, 498].getD E 0) (.classLink "BannerParade" (xthr.getD E (0, 0)).1 (xexn E)) && xat ([114, 113, 107].getD E 0) (.initialized (xexn E)) && xat ([114, 113, 107].getD E 0) (.initialized (xexn E)) &&
  (vx_atS "BannerParade" (xthr.getD E (0, 0)).2 (xexn E) xsup).all (fun w => (lw_tbl.any (fun u => decide (u = w))) && (goodWord w || xNWk w) && vx_ot w) && vx_ot (.classLink "BannerParade" (xthr.getD E (0, 0)).1 (xexn E)) && vx_ot (.initialized (xexn E)) && Bundle.fit (xexn E) && xsup.all Bundle.fit
theorem xthr_0 : xthrE 0 = true := by decide +kernel
theorem xthr_1 : xthrE 1 = true := by decide +kernel
theorem xthr_2 : xthrE 2 = true := by decide +kernel
theorem xthr_ok {E : Nat} (h : E < 3) : xthrE E = true := by
  match E, h with
  | 0, _ => exact xthr_0
  | 1, _ => exact xthr_1
  | 2, _ => exact xthr_2
theorem xcast_ok {E : Nat} (h : E < 3) : Cond.castable (xexn E) (xexn E) ∈ xNW := by
  match E, h with
  | 0, _ => exact xNW_in (i := 780) (by decide +kernel) rfl
  | 1, _ => exact xNW_in (i := 717) (by decide +kernel) rfl
  | 2, _ => exact xNW_in (i := 500) (by decide +kernel) rfl
def xtgt (pcs : List Nat) (pc : Nat) (off L : Int) : Bool := match pcs[L.toNat]? with
  | some t => decide ((pc : Int) + off = (t : Int))
  | none => false
def xinit (y : Nat) : Bool := (xnm y).name == "<init>"
def xstat (y : Nat) : Bool := match xmt y with
  | some (_, _, rc, _, _, _) => rc == 99 && !xinit y
  | none => false
def xvirt (y : Nat) : Bool := match xmt y with
  | some (_, _, rc, _, _, _) => !(rc == 99) && !xinit y
  | none => false
/-- new; dup; ldc or ldc_w; invokespecial; athrow -/
def xchT (own : Nat) (b : ByteArray) (pc E : Nat) : Bool :=
  own == 10 && decide (E < 3) && decide (decode b pc = .ok (.new (xthr.getD E (0, 0)).1, 3)) && decide (decode b (pc + 3) = .ok (.dup, 1)) &&
  (match decode b (pc + 4) with
  | .ok (.ldc k, 2) => (fdS own k).isSome && decide (decode b (pc + 6) = .ok (.invokespecial (xthr.getD E (0, 0)).2, 3)) && decide (decode b (pc + 9) = .ok (.athrow, 1))
  | .ok (.ldc_w k, 3) => (fdS own k).isSome && decide (decode b (pc + 7) = .ok (.invokespecial (xthr.getD E (0, 0)).2, 3)) && decide (decode b (pc + 10) = .ok (.athrow, 1))
  | _ => false)
def xcov (hh : List (Nat × Nat × Nat × Nat)) (pc : Nat) : Bool := hh.all (fun h => decide (h.1 ≤ pc) && decide (pc < h.2.1))
def xchk (own nL : Nat) (ini : Bool) (b : ByteArray) (pcs : List Nat) (hh : List (Nat × Nat × Nat × Nat)) : Nat → List Instr → Bool
  | _, [] => true
  | pc, i :: is =>
    match i with
    | .goto_w L => pcs[L.toNat]? == some pc
    | .goto L => match decode b pc with
      | .ok (.goto off, 3) => xtgt pcs pc off L
      | _ => false
    | .ifCond c L => match decode b pc with
      | .ok (.ifCond c' off, 3) => decide (c = c') && xtgt pcs pc off L && xchk own nL ini b pcs hh (pc + 3) is
      | _ => false
    | .if_icmp c L => match decode b pc with
      | .ok (.if_icmp c' off, 3) => decide (c = c') && xtgt pcs pc off L && xchk own nL ini b pcs hh (pc + 3) is
      | _ => false
    | .ifnull _ => match decode b pc with
      | .ok (.ifnull _, 3) => xchk own nL ini b pcs hh (pc + 3) is
      | _ => false
    | .tableswitch d lo hi offs => match decode b pc with
      | .ok (.tableswitch d' lo' hi' offs', _) => lo == lo' && hi == hi' && xtgt pcs pc d' d && offs.size == offs'.size && (offs.toList.zip offs'.toList).all (fun q => xtgt pcs pc q.2 q.1)
      | _ => false
    | .lookupswitch d ps => match decode b pc with
      | .ok (.lookupswitch d' ps', _) => xtgt pcs pc d' d && (ps'.toList.zip (ps'.toList.drop 1)).all (fun (a, next) => a.1 < next.1) && ps.size == ps'.size && (ps.toList.zip ps'.toList).all (fun q => q.1.1 == q.2.1 && xtgt pcs pc q.2.2 q.1.2)
      | _ => false
    | .ireturn => decide (decode b pc = .ok (.ireturn, 1))
    | .lreturn => decide (decode b pc = .ok (.lreturn, 1))
    | .freturn => decide (decode b pc = .ok (.freturn, 1))
    | .dreturn => decide (decode b pc = .ok (.dreturn, 1))
    | .areturn => decide (decode b pc = .ok (.areturn, 1))
    | .return_ => decide (decode b pc = .ok (.return_, 1))
    | .checkcast E => hh.isEmpty && xchT own b pc E
    | .invokevirtual y => match decode b pc with
      | .ok (.invokevirtual k, 3) => fdM own k == some (y, 0) && xvirt y && xcov hh pc && decide (y < 398) && !(y == 382) && xchk own nL ini b pcs hh (pc + 3) is
      | _ => false
    | .invokespecial y => match decode b pc with
      | .ok (.invokespecial k, 3) => (fdM own k).map Prod.fst == some y && xinit y && xcov hh pc && decide (y < 398) && !(y == 382) && xchk own nL ini b pcs hh (pc + 3) is
      | _ => false
    | .invokestatic y => match decode b pc with
      | .ok (.invokestatic k, 3) => (fdM own k).map Prod.fst == some y && xstat y && xcov hh pc && decide (y < 398) && !(y == 382) && xchk own nL ini b pcs hh (pc + 3) is
      | _ => false
    | i => match decode b pc with
      | .ok (a, n) => decide (xsim own nL ini a = some (i, n)) && xchk own nL ini b pcs hh (pc + n) is
      | _ => false
def xrtk : Nat → Option FieldType → Bool
  | 0, none => true
  | 1, some .int => true
  | 2, some .boolean => true
  | 3, some .byte => true
  | 4, some .char => true
  | 5, some .long => true
  | 6, some .float => true
  | 7, some .double => true
  | 8, some (.object _) => true
  | _, _ => false
def xhok (own nL : Nat) (b : ByteArray) (pcs : List Nat) (q : (Nat × Nat × Nat) × (Nat × Nat × Nat × Nat)) : Bool :=
  decide (q.1.1 < 3) && !(q.2.2.2.2 == 0) && fdX own q.2.2.2.2 == some q.1.1 && decide (q.1.2.2 < nL) &&
  (match decode b q.2.2.2.1 with
  | .ok (.astore_n k, 1) => (k : Nat) == q.1.2.2 && pcs[q.1.2.1]? == some (q.2.2.2.1 + 1)
  | .ok (.astore k, 2) => k == q.1.2.2 && pcs[q.1.2.1]? == some (q.2.2.2.1 + 2)
  | _ => false)
/-- all of it, for method y -/
def xyok (y : Nat) : Bool := match xmt y, xrl y with
  | some (na, ml, rc, rt, hd, bs), (own, nm, b, ml', ret, hh, pcs) =>
    ml == ml' && decide (ml ≤ 60) && xrtk rt ret && (pcs[0]? == some 0) && pcs.length == bs.length && ((pcs.zip bs).all fun q => xchk own ml (nm.name == "<init>") b pcs hh q.1 q.2.2) && hd.length == hh.length && (hd.zip hh).all (xhok own ml b pcs) && (hh.isEmpty || xstat y) &&
    (decide (rc < 12) && xow rc == nm.cls || rc == 30 && nm.cls == "java/lang/String" || rc == 99)
  | none, _ => false
def xyw (y : Nat) : Bool := match xmt y with
  | some (na, _, rc, _, _, _) => xwm y rc (xrl y) (xWs.getD y (0, 0, 0, 0)) (xstat y) && plainFor (xnm y) && !((xnm y).cls == "java/lang/invoke/MethodHandle") && !((xnm y).cls == "java/lang/invoke/VarHandle") &&
    ((parseMethodDescriptor (xnm y).desc).map (fun d => d.parameters.length) == some (if xstat y then na else na - 1)) && (xstat y || decide (1 ≤ na)) && (if rc == 99 then true else xow (xrl y).1 == (xnm y).cls)
  | none => false
