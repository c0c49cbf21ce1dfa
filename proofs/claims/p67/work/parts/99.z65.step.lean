/-! What stays true of the real world around X's cells, and the relation of a walk's point to X's. -/
def xNWk (w : Cond) : Bool := match w with
  | .declares _ => true
  | .castable _ _ => true
  | .methodLinkNest _ _ _ _ => true
  | .fieldLinkNest _ _ _ _ _ _ => true
  | _ => false
def xNW : List Cond := lw_tbx.filter xNWk
def xlens : List Nat := xstr.map List.length
/-- the texts' own cells (some texts are one object: two classes name them) -/
def xk_S (N : Nat) (len : List Nat) (byt : List (List Int32)) (adK adV : Nat → Nat) (A : Nat → Prop) (U : State) (H : Heap) : Prop :=
  (∀ i : Nat, i < N → va_O "java/lang/String" (adK i) A U H ∧ va_OF "java/lang/String" "coder" "B" (.int 0) (adK i) A U H ∧ va_OF "java/lang/String" "value" "[B" (.ref (adV i)) (adK i) A U H ∧ va_T .byte (adV i) (len.getD i 0) (fun j => .int ((byt.getD i []).getD j 0)) A U H) ∧ True
theorem xk_S.moved {N : Nat} {len : List Nat} {byt : List (List Int32)} {adK adV : Nat → Nat} {A : Nat → Prop} {u U : State} {H : Heap} (hvm : u.vm.Alike U.vm) (h : xk_S N len byt adK adV A u H) : xk_S N len byt adK adV A U H :=
  ⟨fun i hi => ⟨va_O.moved hvm (h.1 i hi).1, va_OF.moved hvm (h.1 i hi).2.1, va_OF.moved hvm (h.1 i hi).2.2.1, va_T.moved hvm (h.1 i hi).2.2.2⟩, trivial⟩
theorem xk_S.kept {N : Nat} {len : List Nat} {byt : List (List Int32)} {adK adV : Nat → Nat} {A : Nat → Prop} {U : State} {H H1 : Heap} (h : xk_S N len byt adK adV A U H) (hq : ∀ a : Nat, a < H.size → ¬ A a → H1[a]? = H[a]?) : xk_S N len byt adK adV A U H1 :=
  ⟨fun i hi => ⟨(h.1 i hi).1.kept hq, (h.1 i hi).2.1.kept hq, (h.1 i hi).2.2.1.kept hq, (h.1 i hi).2.2.2.kept hq⟩, trivial⟩
/-- the digits, a list's first array, the memory's object and its numbers -/
def xEnvD (ad : Nat → Nat) (A : Nat → Prop) (U : State) (H : Heap) : Prop :=
  (va_Z "java/lang/Integer" "DigitTens" "[B" (.ref (ad 1000058)) A U H ∧ va_T .byte (ad 1000058) 100 (fun j => .int ((xstr.getD 18 []).getD j 0)) A U H) ∧
  (va_Z "java/lang/Integer" "DigitOnes" "[B" (.ref (ad 1000059)) A U H ∧ va_T .byte (ad 1000059) 100 (fun j => .int ((xstr.getD 19 []).getD j 0)) A U H) ∧
  va_Z "java/util/ArrayList" "DEFAULTCAPACITY_EMPTY_ELEMENTDATA" "[Ljava/lang/Object;" (.ref (ad 1000003)) A U H ∧
  va_Z "jdk/internal/util/ArraysSupport" "U" "Ljdk/internal/misc/Unsafe;" (.ref (ad 1000004)) A U H ∧ va_O "jdk/internal/misc/Unsafe" (ad 1000004) A U H ∧
  va_Z "jdk/internal/misc/Unsafe" "ARRAY_INT_BASE_OFFSET" "I" (.int 16) A U H ∧ va_Z "jdk/internal/util/ArraysSupport" "LOG2_ARRAY_INT_INDEX_SCALE" "I" (.int 2) A U H ∧ va_Z "jdk/internal/util/ArraysSupport" "LOG2_ARRAY_LONG_INDEX_SCALE" "I" (.int 3) A U H
theorem xEnvD.moved {ad : Nat → Nat} {A : Nat → Prop} {u U : State} {H H1 : Heap} (h : xEnvD ad A u H) (hv : u.vm.Alike U.vm) (hq : ∀ a : Nat, a < H.size → ¬ A a → H1[a]? = H[a]?) : xEnvD ad A U H1 := by
  obtain ⟨⟨a1, a2⟩, ⟨b1, b2⟩, c1, d1, e1, f1, g1, h1⟩ := h
  exact ⟨⟨(a1.moved hv).kept hq, (a2.moved hv).kept hq⟩, ⟨(b1.moved hv).kept hq, (b2.moved hv).kept hq⟩, (c1.moved hv).kept hq, (d1.moved hv).kept hq, (va_O.moved hv e1).kept hq, (f1.moved hv).kept hq, (g1.moved hv).kept hq, (h1.moved hv).kept hq⟩
theorem xEnvD.ad {ad ad' : Nat → Nat} {A : Nat → Prop} {U : State} {H : Heap} (h : xEnvD ad A U H) (e : ∀ a, 1000000 ≤ a → ad' a = ad a) : xEnvD ad' A U H := by
  unfold xEnvD at h ⊢
  rw [e 1000058 (by omega), e 1000059 (by omega), e 1000003 (by omega), e 1000004 (by omega)]
  exact h
def xEnv (ad : Nat → Nat) (sv : Value) (A : Nat → Prop) (U : State) (H : Heap) : Prop :=
  (va_Z "BannerParade" "LEAST_SETTINGS" "[I" (.ref (ad 1000001)) A U H ∧ va_T .int (ad 1000001) 6 (fun j => .int ([1, 0, 1, 0, 1, 0].getD j 0)) A U H) ∧
  (va_Z "BannerParade" "GREATEST_SETTINGS" "[I" (.ref (ad 1000002)) A U H ∧ va_T .int (ad 1000002) 6 (fun j => .int ([999, 9999, 9999, 50, 100, 9999].getD j 0)) A U H) ∧
  va_Z "java/lang/String" "COMPACT_STRINGS" "Z" (.int 1) A U H ∧ xEnvD ad A U H ∧
  va_Z "jdk/internal/util/Preconditions" "SIOOBE_FORMATTER" "Ljava/util/function/BiFunction;" sv A U H ∧
  xk_S 18 xlens xstr (fun i => ad (1000010 + i)) (fun i => ad (1000040 + i)) A U H ∧ (∀ q ∈ cpS, vk_R (xow q.1) q.2.1 (cpSx.getD q.2.2 "") (ad (1000010 + q.2.2)) U) ∧
  True ∧ True ∧ (∀ w ∈ xNW, va_Nw w U) ∧
  True ∧ sv.category = 1 ∧ (va_AO RX8 U ∧ va_AO "java/lang/String" U)
theorem xNW_warm {w : Cond} (hw : w ∈ xNW) {s U : State} (hW : s.WarmedH U.vm) (h : va_Nw w s) : va_Nw w U := by
  have h1 := (List.mem_filter.mp hw).2
  cases w with
  | declares x => exact va_Nw.warmD hW h
  | castable a b => exact va_Nw.warmC hW h
  | methodLinkNest a b c d => exact va_Nw.warmM hW h
  | fieldLinkNest a b c d e f => exact va_Nw.warmF hW h
  | _ => cases h1
theorem xEnv.to {ad : Nat → Nat} {sv : Value} {A : Nat → Prop} {u U : State} {H H1 : Heap} (h : xEnv ad sv A u H) (hW : u.WarmedH U.vm) (hq : ∀ a : Nat, a < H.size → ¬ A a → H1[a]? = H[a]?) : xEnv ad sv A U H1 := by
  obtain ⟨⟨a1, a2⟩, ⟨b1, b2⟩, c1, d1, e1, f1, g1, i1, j1, k1, l1, m1, n1⟩ := h
  have hv := hW.alike
  refine ⟨⟨(a1.moved hv).kept hq, (a2.moved hv).kept hq⟩, ⟨(b1.moved hv).kept hq, (b2.moved hv).kept hq⟩, (c1.moved hv).kept hq, d1.moved hv hq, (e1.moved hv).kept hq, (f1.moved hv).kept hq, fun q hq => vk_R.warm hW (g1 q hq), trivial, trivial, fun w hw => xNW_warm hw hW (k1 w hw), trivial, m1, n1.1.moved hv, n1.2.moved hv⟩
theorem cpS_lt : (cpS.all fun q => decide (q.2.2 < 18)) = true := by decide +kernel
theorem xEnv.ad {ad ad' : Nat → Nat} {sv : Value} {A : Nat → Prop} {U : State} {H : Heap} (h : xEnv ad sv A U H) (e : ∀ a, 1000000 ≤ a → ad' a = ad a) : xEnv ad' sv A U H := by
  obtain ⟨⟨a1, a2⟩, ⟨b1, b2⟩, c1, d1, e1, f1, g1, i1, j1, k1, l1, m1, n1⟩ := h
  have z1 : (fun i => ad' (1000010 + i)) = fun i => ad (1000010 + i) := funext fun i => e _ (by omega)
  have z2 : (fun i => ad' (1000040 + i)) = fun i => ad (1000040 + i) := funext fun i => e _ (by omega)
  refine ⟨⟨by rw [e _ (by omega)]; exact a1, by rw [e _ (by omega)]; exact a2⟩, ⟨by rw [e _ (by omega)]; exact b1, by rw [e _ (by omega)]; exact b2⟩, c1, d1.ad e, e1, by rw [z1, z2]; exact f1, fun q hq => by rw [e _ (by omega)]; exact g1 q hq, i1, j1, k1, l1, m1, n1⟩
def nC (σ : XS) : Nat := σ.1.length + σ.2.1
def nS (σ : XS) : Nat := (σ.1.map (fun x => x.2.1)).sum + 6 * σ.2.1
abbrev xreL (ad : Nat → Nat) (sv : Value) (ls : XL) : List (Nat × Value) := ls.map (fun q => (q.1, xre ad sv q.2))
/-- the heap stands for σ, by ad -/
def xWf (D : va_G) (cA : Nat → ClassId) (A : Nat → Prop) (s : State) (adc ad : Nat → Nat) (σ : XS) (H : Heap) (locs : List Loc) : Prop :=
  va_P D vwCl (xws ad cA σ) H ∧ va_D A (xws ad cA σ) ∧ va_S A s.heap H locs ∧ ∀ a, 1000000 ≤ a → ad a = adc a
/-- the script's numbers, at a state -/
def xScr (K : XK) (adc : Nat → Nat) (A : Nat → Prop) (U : State) (H : Heap) : Prop := K.1 = 0 ∨ (va_X (adc 1000000) (K.1 - 1) K.2 U H ∧ adc 1000000 < H.size ∧ ¬ A (adc 1000000))
theorem xScr.to {K : XK} {adc : Nat → Nat} {A : Nat → Prop} {u U : State} {H H1 : Heap} (h : xScr K adc A u H) (hv : u.vm.Alike U.vm) (hz : H.size ≤ H1.size) (hq : ∀ a : Nat, a < H.size → ¬ A a → H1[a]? = H[a]?) : xScr K adc A U H1 := by
  rcases h with h | ⟨h1, h2, h3⟩
  · exact Or.inl h
  · exact Or.inr ⟨(va_X.moved hv h1).kept (hq _ h2 h3), Nat.lt_of_lt_of_le h2 hz, h3⟩
/-- what holds through a method's body -/
def xCx (p : Program) (s : State) (m : MethodId) (args : Array Value) (meth : Method) (c : Code) (D : va_G) (cA : Nat → ClassId) (A : Nat → Prop) (sv : Value) (adc : Nat → Nat) (own : Nat) (cc : ByteArray) (nL : Nat) (nm : MethodName) : Prop :=
  p.tables.exec = Jvm.exec ∧ c.code = cc ∧ c.maxLocals = nL ∧ s.vm.findClass (xow own) = some m.cls ∧ (∀ w ∈ xWS, w.before args s = true) ∧ va_K D vwCl (xtys cA) s ∧ (∀ q, s.heap.size ≤ q → A q) ∧ xEnv adc sv A s s.heap ∧ meth.name = nm.name
/-- the script, for the method that may have one -/
abbrev xSc (K : XK) (adc : Nat → Nat) (A : Nat → Prop) (s : State) : Prop := xScr K adc A s s.heap
theorem xre_cat {ad : Nat → Nat} {sv : Value} (h : sv.category = 1) (v : Value) : (xre ad sv v).category = v.category := by
  cases v <;> first | rfl | exact h
theorem xk_mem {ls : XL} {i : Nat} {v : Value} (h : xk ls i = some v) : (i, v) ∈ ls := by
  induction ls with
  | nil => cases h
  | cons q t ih =>
    obtain ⟨j, w⟩ := q
    unfold xk at h
    by_cases e : j = i
    · rw [if_pos e] at h
      cases h; subst e
      exact List.mem_cons_self
    · rw [if_neg e] at h
      exact List.mem_cons_of_mem _ (ih h)
theorem xdel_mem {ls : XL} {i n : Nat} {q : Nat × Value} (h : q ∈ xdel ls i n) : q ∈ ls ∧ ¬ (q.1 < i + n ∧ i < q.1 + q.2.category) := by
  induction ls with
  | nil => cases h
  | cons r t ih =>
    obtain ⟨j, w⟩ := r
    unfold xdel at h
    by_cases e : j < i + n ∧ i < j + w.category
    · rw [if_pos e] at h
      exact ⟨List.mem_cons_of_mem _ (ih h).1, (ih h).2⟩
    · rw [if_neg e] at h
      rcases List.mem_cons.mp h with rfl | h
      · exact ⟨List.mem_cons_self, e⟩
      · exact ⟨List.mem_cons_of_mem _ (ih h).1, (ih h).2⟩
theorem xnorm_mem {lv : List Nat} {ls : XL} {q : Nat × Value} (h : q ∈ xnorm lv ls) : q ∈ ls := by
  induction lv with
  | nil => cases h
  | cons k t ih =>
    unfold xnorm at h
    split at h
    · rename_i v hv
      rcases List.mem_cons.mp h with rfl | h
      · exact xk_mem hv
      · exact ih h
    · exact ih h
theorem lv_mono {ls : Array Slot} {nL : Nat} {l l' : List (Nat × Value)} (h : lv_has ls nL l) (hm : ∀ q ∈ l', q ∈ l) : lv_has ls nL l' := ⟨h.1, h.2.1, fun q hq => h.2.2 q (hm q hq)⟩
theorem xk_at {ls : Array Slot} {nL : Nat} {l : XL} {ad : Nat → Nat} {sv : Value} {i : Nat} {v : Value} (h : lv_has ls nL (xreL ad sv l)) (hk : xk l i = some v) : ls[i]? = some (.val (xre ad sv v)) :=
  h.2.2 (i, xre ad sv v) (List.mem_map.mpr ⟨(i, v), xk_mem hk, rfl⟩)
theorem xreL_norm {ls : Array Slot} {nL : Nat} {l : XL} {ad : Nat → Nat} {sv : Value} (h : lv_has ls nL (xreL ad sv l)) (lv : List Nat) : lv_has ls nL (xreL ad sv (xnorm lv l)) :=
  lv_mono h (fun q hq => by
    obtain ⟨r, hr, rfl⟩ := List.mem_map.mp hq
    exact List.mem_map.mpr ⟨r, xnorm_mem hr, rfl⟩)
theorem xst_1 {ls : Array Slot} {nL : Nat} {l : XL} {ad : Nat → Nat} {sv : Value} (hsv : sv.category = 1) {i : Nat} {v : Value} (hc : v.category = 1) (h : lv_has ls nL ((i, xre ad sv v) :: (xreL ad sv l).filter (fun q => !(q.1 == i) && !(q.1 + 1 == i && q.2.category == 2)))) : lv_has ls nL (xreL ad sv (xst l i v)) := by
  refine lv_mono h (fun q hq => ?_)
  obtain ⟨r, hr, rfl⟩ := List.mem_map.mp hq
  unfold xst at hr
  rcases List.mem_cons.mp hr with rfl | hr
  · exact List.mem_cons_self
  · obtain ⟨h1, h2⟩ := xdel_mem hr
    refine List.mem_cons_of_mem _ (List.mem_filter.mpr ⟨List.mem_map.mpr ⟨r, h1, rfl⟩, ?_⟩)
    dsimp only
    rw [xre_cat hsv]
    have h3 : r.2.category = 1 ∨ r.2.category = 2 := lv_cat r.2
    simp only [Bool.and_eq_true, Bool.not_eq_true', beq_eq_false_iff_ne, ne_eq, Bool.and_eq_false_iff]
    rw [hc] at h2
    constructor
    · intro e; omega
    · by_cases e : r.1 + 1 = i
      · right; omega
      · left; exact e
theorem xst_2 {ls : Array Slot} {nL : Nat} {l : XL} {ad : Nat → Nat} {sv : Value} (hsv : sv.category = 1) {i : Nat} {v : Value} (hc : v.category = 2) (h : lv_has ls nL ((i, xre ad sv v) :: (xreL ad sv l).filter (fun q => !(q.1 == i) && (!(q.1 == i + 1) && !(q.1 + 1 == i && q.2.category == 2))))) : lv_has ls nL (xreL ad sv (xst l i v)) := by
  refine lv_mono h (fun q hq => ?_)
  obtain ⟨r, hr, rfl⟩ := List.mem_map.mp hq
  unfold xst at hr
  rcases List.mem_cons.mp hr with rfl | hr
  · exact List.mem_cons_self
  · obtain ⟨h1, h2⟩ := xdel_mem hr
    refine List.mem_cons_of_mem _ (List.mem_filter.mpr ⟨List.mem_map.mpr ⟨r, h1, rfl⟩, ?_⟩)
    dsimp only
    rw [xre_cat hsv]
    have h3 : r.2.category = 1 ∨ r.2.category = 2 := lv_cat r.2
    simp only [Bool.and_eq_true, Bool.not_eq_true', beq_eq_false_iff_ne, ne_eq, Bool.and_eq_false_iff]
    rw [hc] at h2
    refine ⟨by omega, by omega, ?_⟩
    by_cases e : r.1 + 1 = i
    · right; omega
    · left; exact e
