/-! The words by their places: what the pool entries of 60.names say stands among the tables' words, and is good. -/
def RSB : String := "java/lang/StringBuilder"
def RAB : String := "java/lang/AbstractStringBuilder"
def xow (c : Nat) : String := xown.getD c ""
def xrl (y : Nat) : Nat × MethodName × ByteArray × Nat × Option FieldType × List (Nat × Nat × Nat × Nat) × List Nat := xRs.getD y xRd
abbrev xnm (y : Nat) : MethodName := (xrl y).2.1
/-- what a builder's own methods are selected as, where they are another class's: out of the tables -/
def xpv : List Cond := [.selects RSB (xnm 198) (xnm 198), .selects RSB (xnm 199) (xnm 199), .selects RSB (xnm 200) (xnm 200), .selects RSB (xnm 201) (xnm 201)]
def lw_tbx : List Cond := lw_tbl ++ xpv
def xWS : List Cond := lw_tbx.filter goodWord
def xF (f : Nat) : String × String × String :=
  if f = 960 then ("java/lang/String", "value", "[B") else if f = 961 then ("java/lang/String", "coder", "B")
  else match vwCl[f / 32]? with
    | some (_, T, _) => ((T (f % 32)).1, (T (f % 32)).2.1, (T (f % 32)).2.2.1)
    | none => ("", "", "")
def xGs : List (String × String × String) := [("BannerParade", "LEAST_SETTINGS", "[I"), ("BannerParade", "GREATEST_SETTINGS", "[I"), ("java/lang/String", "COMPACT_STRINGS", "Z"), ("java/lang/Math", "negativeZeroFloatBits", "J"), ("jdk/internal/util/Preconditions", "SIOOBE_FORMATTER", "Ljava/util/function/BiFunction;"), ("java/lang/Integer", "DigitTens", "[B"), ("java/lang/Integer", "DigitOnes", "[B"), ("java/util/ArrayList", "DEFAULTCAPACITY_EMPTY_ELEMENTDATA", "[Ljava/lang/Object;"), ("jdk/internal/util/ArraysSupport", "U", "Ljdk/internal/misc/Unsafe;"), ("jdk/internal/misc/Unsafe", "ARRAY_INT_BASE_OFFSET", "I"), ("jdk/internal/util/ArraysSupport", "LOG2_ARRAY_INT_INDEX_SCALE", "I"), ("jdk/internal/util/ArraysSupport", "LOG2_ARRAY_LONG_INDEX_SCALE", "I")]
def xG (g : Nat) : String × String × String := xGs.getD g ("", "", "")
def xNt (z : Nat) : MethodName := if z = 3 then ⟨"java/lang/System", "arraycopy", "(Ljava/lang/Object;ILjava/lang/Object;II)V"⟩ else if z = 4 then ⟨"jdk/internal/misc/Unsafe", "getLong", "(Ljava/lang/Object;J)J"⟩ else ⟨"[B", "clone", "()Ljava/lang/Object;"⟩
/-- the method that a call names, where another is selected -/
def xln (y : Nat) : Nat := if y = 220 then 197 else if y = 221 then 203 else y
def xhost (n : Nat) : String := if n = 2 then "BannerParadeLaw" else "BannerParade"
def xat (i : Nat) (w : Cond) : Bool := decide (lw_tbx[i]? = some w) && goodWord w
theorem xat_in {i : Nat} {w : Cond} (h : xat i w = true) : w ∈ xWS := by
  unfold xat at h
  rw [Bool.and_eq_true, decide_eq_true_eq] at h
  exact List.mem_filter.mpr ⟨List.mem_of_getElem? h.1, h.2⟩
theorem cpF_ok : (cpF.all fun e => if e.2.2.2.1 = 0 then xat e.2.2.2.2 (.fieldLink (xow e.1) e.2.1 (xF e.2.2.1).1 (xF e.2.2.1).2.1 (xF e.2.2.1).2.2) else decide (lw_tbx[e.2.2.2.2]? = some (.fieldLinkNest (xow e.1) e.2.1 (xF e.2.2.1).1 (xF e.2.2.1).2.1 (xF e.2.2.1).2.2 "BannerParadeLaw"))) = true := by decide +kernel
def xchM (e : Nat × Nat × Nat × Nat × Nat) : Bool := if e.2.2.2.1 = 0 then xat e.2.2.2.2 (.methodLink (xow e.1) e.2.1 (xnm (xln e.2.2.1))) else decide (lw_tbx[e.2.2.2.2]? = some (.methodLinkNest (xow e.1) e.2.1 (xnm e.2.2.1) (xhost e.2.2.2.1))) && decide (xln e.2.2.1 = e.2.2.1)
theorem all_cut {α : Type} (f : α → Bool) (k : Nat) (l : List α) (h1 : (l.take k).all f = true) (h2 : (l.drop k).all f = true) : l.all f = true := by
  rw [← List.take_append_drop k l, List.all_append, h1, h2]; rfl
theorem cpM_0 : (((cpM.drop 0).take 40).all xchM) = true := by decide +kernel
theorem cpM_40 : (((cpM.drop 40).take 40).all xchM) = true := by decide +kernel
theorem cpM_80 : (((cpM.drop 80).take 40).all xchM) = true := by decide +kernel
theorem cpM_120 : (((cpM.drop 120).take 40).all xchM) = true := by decide +kernel
theorem cpM_160 : (((cpM.drop 160).take 40).all xchM) = true := by decide +kernel
theorem cpM_end : ((cpM.drop 200).all xchM) = true := by decide +kernel
theorem cpM_from160 : ((cpM.drop 160).all xchM) = true := all_cut xchM 40 _ cpM_160 (by rw [List.drop_drop]; exact cpM_end)
theorem cpM_from120 : ((cpM.drop 120).all xchM) = true := all_cut xchM 40 _ cpM_120 (by rw [List.drop_drop]; exact cpM_from160)
theorem cpM_from80 : ((cpM.drop 80).all xchM) = true := all_cut xchM 40 _ cpM_80 (by rw [List.drop_drop]; exact cpM_from120)
theorem cpM_from40 : ((cpM.drop 40).all xchM) = true := all_cut xchM 40 _ cpM_40 (by rw [List.drop_drop]; exact cpM_from80)
theorem cpM_from0 : ((cpM.drop 0).all xchM) = true := all_cut xchM 40 _ cpM_0 (by rw [List.drop_drop]; exact cpM_from40)
theorem cpM_ok : (cpM.all xchM) = true := cpM_from0
theorem cpC_ok : (cpC.all fun e => xat e.2.2.2 (.classLink (xow e.1) e.2.1 (xow e.2.2.1))) = true := by decide +kernel
theorem cpO_ok : (cpO.all fun e => xat e.2.2 (.methodLink (xow e.1) e.2.1 objectInit)) = true := by decide +kernel
theorem cpK_ok : (cpK.all fun e => xat e.2.2.2 (.constant (xow e.1) e.2.1 (Int32.ofInt e.2.2.1))) = true := by decide +kernel
theorem cpL_ok : (cpL.all fun e => xat e.2.2.2 (.constantFloat (xow e.1) e.2.1 (UInt32.ofNat e.2.2.1))) = true := by decide +kernel
theorem cpJ_ok : (cpJ.all fun e => xat e.2.2.2 (.constantLong (xow e.1) e.2.1 (Int64.ofInt e.2.2.1))) = true := by decide +kernel
theorem cpG_ok : (cpG.all fun e => if e.2.2.2.1 = 0 then xat e.2.2.2.2 (.fieldLink (xow e.1) e.2.1 (xG e.2.2.1).1 (xG e.2.2.1).2.1 (xG e.2.2.1).2.2) else decide (lw_tbx[e.2.2.2.2]? = some (.fieldLinkNest (xow e.1) e.2.1 (xG e.2.2.1).1 (xG e.2.2.1).2.1 (xG e.2.2.1).2.2 "BannerParade"))) = true := by decide +kernel
theorem cpN_ok : (cpN.all fun e => xat e.2.2.2 (.methodLink (xow e.1) e.2.1 (xNt e.2.2.1))) = true := by decide +kernel
/-- the builder's methods that are selected through another class's name: place of selects, of sameMethod -/
def xUps : List (Nat × Nat × Nat) := [(198, 1522, 1495), (199, 1523, 1496), (200, 1524, 1499), (201, 1525, 1500), (202, 985, 984), (204, 1051, 1050), (220, 1122, 1121), (221, 1056, 1055)]
def xup (y : Nat) : Bool := xUps.any fun e => e.1 == y
theorem xUps_ok : (xUps.all fun e => xat e.2.1 (.selects RSB (xnm (xln e.1)) (xnm e.1)) && xat e.2.2 (.sameMethod RAB RAB (xnm (xln e.1)).name (xnm (xln e.1)).desc) && (xnm (xln e.1)).cls == RAB) = true := by decide +kernel
/-- those that are called as the upper class's own -/
def xSus : List (Nat × Nat) := [(195, 1494), (196, 1501), (197, 1121), (203, 1055)]
def xsu (y : Nat) : Bool := xSus.any fun e => e.1 == y
theorem xSus_ok : (xSus.all fun e => xat e.2 (.sameMethod RAB RAB (xnm e.1).name (xnm e.1).desc) && (xnm e.1).cls == RAB && !((xnm e.1).name == "<init>")) = true := by decide +kernel
theorem xsuper : Cond.superclass RSB RAB ∈ xWS := xat_in (i := 945) (by decide +kernel)
/-- a method's own words: code, static or object method, selects, its class initialized -/
def xwm (y : Nat) (rc : Nat) (r : Nat × MethodName × ByteArray × Nat × Option FieldType × List (Nat × Nat × Nat × Nat) × List Nat) (w : Nat × Nat × Nat × Nat) (st : Bool) : Bool :=
  (r.2.2.2.2.2.1 == [] && xat w.1 (.code r.2.1 r.2.2.1 r.2.2.2.1 r.2.2.2.2.1)) &&
  (if st then xat w.2.1 (.static r.2.1) else xat w.2.1 (.instanceMethod r.2.1)) && (if st || r.2.1.name == "<init>" || xup y || xsu y then true else xat w.2.2.1 (.selects (xow r.1) r.2.1 r.2.1)) && xat w.2.2.2 (.initialized (xow r.1)) && (r.2.1.cls == xow r.1) && decide (y < 1000) && decide (rc < 100)
theorem xsel_priv {y : MethodName} {C : String} {s : State} {args : Array Value} {n : Nat} (hy : y.cls ≠ "java/lang/invoke/MethodHandle" ∧ y.cls ≠ "java/lang/invoke/VarHandle")
    (hins : (Cond.instantiable C n).before args s = true) (hpriv : (Cond.privateMethod y).before args s = true) (hinst : (Cond.instanceMethod y).before args s = true) (hsame : (Cond.sameMethod y.cls y.cls y.name y.desc).before args s = true) :
    (Cond.selects C y y).before args s = true := by
  obtain ⟨c, k, hc, hk, -, hniab, -, -⟩ := Cond.instantiable_spec hins
  have hni : k.isInterface = false := (Bool.or_eq_false_iff.mp hniab).1
  obtain ⟨mk, methM, hnamed, hmethM, -, -⟩ := Cond.instanceMethod_spec hinst
  have hfound : s.methodFound? y.cls y.name y.desc = some mk := State.methodFound?_of_named hnamed hy
  have hsel : selectMethod {} s.vm c mk = .method mk := selectMethod_private hmethM (Cond.privateMethod_at hpriv mk methM hnamed hmethM)
  obtain ⟨cn, ck, r1, hcn, hck, hni2, -, -⟩ := Cond.sameMethod_found hsame
  have hcls : mk.cls = cn := Option.some.inj ((findClass_of_methodNamed hnamed).symm.trans hcn)
  rw [← hcls] at hck
  simp only [Cond.before, Cond.holds, Cond.value, hc, hfound, hnamed, hsel, hk, hck]
  simp [hni2]
theorem xpv_ok {s : State} {args : Array Value} (hts : ∀ w ∈ lw_tbl, w.before args s = true) : ∀ w ∈ lw_tbx, w.before args s = true := by
  intro w hw
  rcases List.mem_append.mp hw with h | h
  · exact hts w h
  · have hI : (Cond.instantiable RSB 4).before args s = true := hts _ (List.mem_of_getElem? (i := 916) (by decide +kernel))
    simp only [xpv, List.mem_cons, List.not_mem_nil, or_false] at h
    rcases h with rfl | rfl | rfl | rfl
    · exact xsel_priv ⟨by decide +kernel, by decide +kernel⟩ hI (hts (.privateMethod (xnm 198)) (List.mem_of_getElem? (i := 954) (by decide +kernel))) (hts (.instanceMethod (xnm 198)) (List.mem_of_getElem? (i := 955) (by decide +kernel))) (hts (.sameMethod (xnm 198).cls (xnm 198).cls (xnm 198).name (xnm 198).desc) (List.mem_of_getElem? (i := 1495) (by decide +kernel)))
    · exact xsel_priv ⟨by decide +kernel, by decide +kernel⟩ hI (hts (.privateMethod (xnm 199)) (List.mem_of_getElem? (i := 958) (by decide +kernel))) (hts (.instanceMethod (xnm 199)) (List.mem_of_getElem? (i := 959) (by decide +kernel))) (hts (.sameMethod (xnm 199).cls (xnm 199).cls (xnm 199).name (xnm 199).desc) (List.mem_of_getElem? (i := 1496) (by decide +kernel)))
    · exact xsel_priv ⟨by decide +kernel, by decide +kernel⟩ hI (hts (.privateMethod (xnm 200)) (List.mem_of_getElem? (i := 1148) (by decide +kernel))) (hts (.instanceMethod (xnm 200)) (List.mem_of_getElem? (i := 1149) (by decide +kernel))) (hts (.sameMethod (xnm 200).cls (xnm 200).cls (xnm 200).name (xnm 200).desc) (List.mem_of_getElem? (i := 1499) (by decide +kernel)))
    · exact xsel_priv ⟨by decide +kernel, by decide +kernel⟩ hI (hts (.privateMethod (xnm 201)) (List.mem_of_getElem? (i := 1152) (by decide +kernel))) (hts (.instanceMethod (xnm 201)) (List.mem_of_getElem? (i := 1153) (by decide +kernel))) (hts (.sameMethod (xnm 201).cls (xnm 201).cls (xnm 201).name (xnm 201).desc) (List.mem_of_getElem? (i := 1500) (by decide +kernel)))
