/-! The words by their places: what the pool entries of 60.names say stands among the tables' words, and is good. -/
def xWS : List Cond := lw_tbl.filter goodWord
def xF (f : Nat) : String × String × String :=
  if f = 960 then ("java/lang/String", "value", "[B") else if f = 961 then ("java/lang/String", "coder", "B")
  else match vwCl[f / 32]? with
    | some (C, T, _) => (C, (T (f % 32)).2.1, (T (f % 32)).2.2.1)
    | none => ("", "", "")
def xG (g : Nat) : String × String × String :=
  if g = 0 then ("BannerParade", "LEAST_SETTINGS", "[I") else if g = 1 then ("BannerParade", "GREATEST_SETTINGS", "[I")
  else if g = 2 then ("java/lang/String", "COMPACT_STRINGS", "Z") else if g = 3 then ("java/lang/Math", "negativeZeroFloatBits", "J")
  else ("jdk/internal/util/Preconditions", "SIOOBE_FORMATTER", "Ljava/util/function/BiFunction;")
def xNt (z : Nat) : MethodName := if z = 0 then ⟨"java/lang/Float", "floatToRawIntBits", "(F)I"⟩ else if z = 2 then ⟨"java/lang/Math", "max", "(FF)F"⟩ else ⟨"java/lang/Double", "doubleToRawLongBits", "(D)J"⟩
def xow (c : Nat) : String := xown.getD c ""
def xrl (y : Nat) : Nat × MethodName × ByteArray × Nat × Option FieldType × List (Nat × Nat × Nat × Nat) × List Nat := xRs.getD y (0, ⟨"", "", ""⟩, ⟨#[]⟩, 0, none, [], [])
abbrev xnm (y : Nat) : MethodName := (xrl y).2.1
def xat (i : Nat) (w : Cond) : Bool := decide (lw_tbl[i]? = some w) && goodWord w
theorem xat_in {i : Nat} {w : Cond} (h : xat i w = true) : w ∈ xWS := by
  unfold xat at h
  rw [Bool.and_eq_true, decide_eq_true_eq] at h
  exact List.mem_filter.mpr ⟨List.mem_of_getElem? h.1, h.2⟩
theorem cpF_ok : (cpF.all fun e => xat e.2.2.2 (.fieldLink (xow e.1) e.2.1 (xF e.2.2.1).1 (xF e.2.2.1).2.1 (xF e.2.2.1).2.2)) = true := by decide +kernel
def xchM (e : Nat × Nat × Nat × Nat × Nat) : Bool := if e.2.2.2.1 = 0 then xat e.2.2.2.2 (.methodLink (xow e.1) e.2.1 (xnm e.2.2.1)) else decide (lw_tbl[e.2.2.2.2]? = some (.methodLinkNest (xow e.1) e.2.1 (xnm e.2.2.1) "BannerParade"))
theorem all_cut {α : Type} (f : α → Bool) (k : Nat) (l : List α) (h1 : (l.take k).all f = true) (h2 : (l.drop k).all f = true) : l.all f = true := by
  rw [← List.take_append_drop k l, List.all_append, h1, h2]; rfl
theorem cpM_0 : (((cpM.drop 0).take 40).all xchM) = true := by decide +kernel
theorem cpM_40 : (((cpM.drop 40).take 40).all xchM) = true := by decide +kernel
theorem cpM_80 : (((cpM.drop 80).take 40).all xchM) = true := by decide +kernel
theorem cpM_120 : (((cpM.drop 120).take 40).all xchM) = true := by decide +kernel
theorem cpM_160 : (((cpM.drop 160).take 40).all xchM) = true := by decide +kernel
theorem cpM_200 : (((cpM.drop 200).take 40).all xchM) = true := by decide +kernel
theorem cpM_240 : (((cpM.drop 240).take 40).all xchM) = true := by decide +kernel
theorem cpM_280 : (((cpM.drop 280).take 40).all xchM) = true := by decide +kernel
theorem cpM_320 : (((cpM.drop 320).take 40).all xchM) = true := by decide +kernel
theorem cpM_360 : (((cpM.drop 360).take 40).all xchM) = true := by decide +kernel
theorem cpM_400 : (((cpM.drop 400).take 40).all xchM) = true := by decide +kernel
theorem cpM_440 : (((cpM.drop 440).take 40).all xchM) = true := by decide +kernel
theorem cpM_end : ((cpM.drop 480).all xchM) = true := by decide +kernel
theorem cpM_from440 : ((cpM.drop 440).all xchM) = true := all_cut xchM 40 _ cpM_440 (by rw [List.drop_drop]; exact cpM_end)
theorem cpM_from400 : ((cpM.drop 400).all xchM) = true := all_cut xchM 40 _ cpM_400 (by rw [List.drop_drop]; exact cpM_from440)
theorem cpM_from360 : ((cpM.drop 360).all xchM) = true := all_cut xchM 40 _ cpM_360 (by rw [List.drop_drop]; exact cpM_from400)
theorem cpM_from320 : ((cpM.drop 320).all xchM) = true := all_cut xchM 40 _ cpM_320 (by rw [List.drop_drop]; exact cpM_from360)
theorem cpM_from280 : ((cpM.drop 280).all xchM) = true := all_cut xchM 40 _ cpM_280 (by rw [List.drop_drop]; exact cpM_from320)
theorem cpM_from240 : ((cpM.drop 240).all xchM) = true := all_cut xchM 40 _ cpM_240 (by rw [List.drop_drop]; exact cpM_from280)
theorem cpM_from200 : ((cpM.drop 200).all xchM) = true := all_cut xchM 40 _ cpM_200 (by rw [List.drop_drop]; exact cpM_from240)
theorem cpM_from160 : ((cpM.drop 160).all xchM) = true := all_cut xchM 40 _ cpM_160 (by rw [List.drop_drop]; exact cpM_from200)
theorem cpM_from120 : ((cpM.drop 120).all xchM) = true := all_cut xchM 40 _ cpM_120 (by rw [List.drop_drop]; exact cpM_from160)
theorem cpM_from80 : ((cpM.drop 80).all xchM) = true := all_cut xchM 40 _ cpM_80 (by rw [List.drop_drop]; exact cpM_from120)
theorem cpM_from40 : ((cpM.drop 40).all xchM) = true := all_cut xchM 40 _ cpM_40 (by rw [List.drop_drop]; exact cpM_from80)
theorem cpM_from0 : ((cpM.drop 0).all xchM) = true := all_cut xchM 40 _ cpM_0 (by rw [List.drop_drop]; exact cpM_from40)
theorem cpM_ok : (cpM.all xchM) = true := cpM_from0
theorem cpC_ok : (cpC.all fun e => xat e.2.2.2 (.classLink (xow e.1) e.2.1 (xow e.2.2.1))) = true := by decide +kernel
theorem cpO_ok : (cpO.all fun e => xat e.2.2 (.methodLink (xow e.1) e.2.1 objectInit)) = true := by decide +kernel
theorem cpK_ok : (cpK.all fun e => xat e.2.2.2 (.constant (xow e.1) e.2.1 (Int32.ofInt e.2.2.1))) = true := by decide +kernel
theorem cpL_ok : (cpL.all fun e => xat e.2.2.2 (.constantFloat (xow e.1) e.2.1 (UInt32.ofNat e.2.2.1))) = true := by decide +kernel
theorem cpD_ok : (cpD.all fun e => xat e.2.2.2 (.constantDouble (xow e.1) e.2.1 (UInt64.ofNat e.2.2.1))) = true := by decide +kernel
theorem cpJ_ok : (cpJ.all fun e => xat e.2.2.2 (.constantLong (xow e.1) e.2.1 (Int64.ofInt e.2.2.1))) = true := by decide +kernel
theorem cpG_ok : (cpG.all fun e => if e.2.2.2.1 = 0 then xat e.2.2.2.2 (.fieldLink (xow e.1) e.2.1 (xG e.2.2.1).1 (xG e.2.2.1).2.1 (xG e.2.2.1).2.2) else decide (lw_tbl[e.2.2.2.2]? = some (.fieldLinkNest (xow e.1) e.2.1 (xG e.2.2.1).1 (xG e.2.2.1).2.1 (xG e.2.2.1).2.2 "BannerParade"))) = true := by decide +kernel
theorem cpN_ok : (cpN.all fun e => xat e.2.2.2 (.methodLink (xow e.1) e.2.1 (xNt e.2.2.1))) = true := by decide +kernel
/-- a method's own words: code (with its table, where it has one), static or object method, selects, its component initialized -/
def xwm (y : Nat) (rc : Nat) (r : Nat × MethodName × ByteArray × Nat × Option FieldType × List (Nat × Nat × Nat × Nat) × List Nat) (w : Nat × Nat × Nat × Nat) (st : Bool) : Bool :=
  (if r.2.2.2.2.2.1 = [] then xat w.1 (.code r.2.1 r.2.2.1 r.2.2.2.1 r.2.2.2.2.1) else xat w.1 (.codeWith r.2.1 r.2.2.1 r.2.2.2.1 r.2.2.2.2.1 r.2.2.2.2.2.1)) &&
  (if st then xat w.2.1 (.static r.2.1) else xat w.2.1 (.instanceMethod r.2.1)) && (if st || r.2.1.name == "<init>" then true else xat w.2.2.1 (.selects (xow r.1) r.2.1 r.2.1)) && xat w.2.2.2 (.initialized (xow r.1)) && (r.2.1.cls == xow r.1) && decide (y < 1000) && decide (rc < 100)
