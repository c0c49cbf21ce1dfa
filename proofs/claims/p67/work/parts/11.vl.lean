/-! Shorter words for the conditions, and what their printed forms use. -/
abbrev VU (D y : Nat) (args : List AV) (m : XM) (Q : XM → Prop) (E : Nat → XM → Prop) : Prop := V D y args m (fun _ m' => Q m') E
abbrev VI (D y : Nat) (args : List AV) (m : XM) (Q : Int32 → XM → Prop) (E : Nat → XM → Prop) : Prop := V D y args m (fun v m' => Q (xti v) m') E
abbrev VJ (D y : Nat) (args : List AV) (m : XM) (Q : Int64 → XM → Prop) (E : Nat → XM → Prop) : Prop := V D y args m (fun v m' => Q (xtl v) m') E
abbrev VF (D y : Nat) (args : List AV) (m : XM) (Q : UInt32 → XM → Prop) (E : Nat → XM → Prop) : Prop := V D y args m (fun v m' => Q (xtf v) m') E
abbrev VD (D y : Nat) (args : List AV) (m : XM) (Q : UInt64 → XM → Prop) (E : Nat → XM → Prop) : Prop := V D y args m (fun v m' => Q (xtd v) m') E
abbrev VA (D y : Nat) (args : List AV) (m : XM) (Q : Nat → XM → Prop) (E : Nat → XM → Prop) : Prop := V D y args m (fun v m' => Q (xtr v) m') E
abbrev VLU (D y L : Nat) (al : AL) (st : List AV) (m : XM) (Q : XM → Prop) (E : Nat → XM → Prop) : Prop := VL D y L al st m (fun _ m' => Q m') E
abbrev VLI (D y L : Nat) (al : AL) (st : List AV) (m : XM) (Q : Int32 → XM → Prop) (E : Nat → XM → Prop) : Prop := VL D y L al st m (fun v m' => Q (xti v) m') E
abbrev VLJ (D y L : Nat) (al : AL) (st : List AV) (m : XM) (Q : Int64 → XM → Prop) (E : Nat → XM → Prop) : Prop := VL D y L al st m (fun v m' => Q (xtl v) m') E
abbrev VLF (D y L : Nat) (al : AL) (st : List AV) (m : XM) (Q : UInt32 → XM → Prop) (E : Nat → XM → Prop) : Prop := VL D y L al st m (fun v m' => Q (xtf v) m') E
abbrev VLD (D y L : Nat) (al : AL) (st : List AV) (m : XM) (Q : UInt64 → XM → Prop) (E : Nat → XM → Prop) : Prop := VL D y L al st m (fun v m' => Q (xtd v) m') E
abbrev VLA (D y L : Nat) (al : AL) (st : List AV) (m : XM) (Q : Nat → XM → Prop) (E : Nat → XM → Prop) : Prop := VL D y L al st m (fun v m' => Q (xtr v) m') E
theorem xk_norm (lv : List Nat) (ls : XL) (k : Nat) : xk (xnorm lv ls) k = if k ∈ lv then xk ls k else none := by
  induction lv with
  | nil => rfl
  | cons j t ih =>
    unfold xnorm
    by_cases hjk : j = k
    · subst hjk
      rw [if_pos List.mem_cons_self]
      cases h : xk ls j with
      | some v =>
        show (if j = j then some v else _) = _
        rw [if_pos rfl]
      | none =>
        show xk (xnorm t ls) j = none
        rw [ih, h]; split <;> rfl
    · have e : (k ∈ j :: t) = (k ∈ t) := by
        exact propext ⟨fun h => (List.mem_cons.mp h).resolve_left (fun h => hjk h.symm), List.mem_cons_of_mem _⟩
      simp only [e]
      cases h : xk ls j with
      | some v =>
        show (if j = k then some v else xk (xnorm t ls) k) = _
        rw [if_neg hjk, ih]
      | none => exact ih
theorem xnorm_congr {lv : List Nat} {ls ls' : XL} (h : ∀ k ∈ lv, xk ls' k = xk ls k) : xnorm lv ls' = xnorm lv ls := by
  induction lv with
  | nil => rfl
  | cons j t ih =>
    unfold xnorm
    rw [h j List.mem_cons_self, ih (fun k hk => h k (List.mem_cons_of_mem _ hk))]
theorem xnorm_idem (lv : List Nat) (ls : XL) : xnorm lv (xnorm lv ls) = xnorm lv ls :=
  xnorm_congr fun k hk => by rw [xk_norm, if_pos hk]
theorem VL_norm {y L na ml rc rt : Nat} {lv : List Nat} {is : List Instr} {bs : List XB} (hm : xmt y = some (na, ml, rc, rt, [], bs)) (hb : bs[L]? = some (lv, is)) {D : Nat} {al : AL} {st : List AV} {m : XM} {Q : Value → XM → Prop} {E : Nat → XM → Prop}
    (h : VL D y L (anorm lv al) st m Q E) : VL D y L al st m Q E := by
  intro hl hs
  obtain ⟨n, r, m', h1, h2⟩ := h (anorm_wt hl lv) hs
  refine ⟨n, r, m', fun e w => ?_, h2⟩
  rw [← h1 e w]
  cases n with
  | zero => rfl
  | succ n =>
    unfold xrun
    rw [hm]
    dsimp only
    rw [hb]
    dsimp only
    rw [← anorm_cv, xnorm_idem]
theorem xrt20 : xrt 2 (n32 0) = true := by decide
theorem xrt21 : xrt 2 (n32 1) = true := by decide
theorem n32_toInt {k : Nat} (h : k < 2147483648) : (n32 k).toInt = k := by
  unfold n32
  rw [Int32.toInt_ofNat_of_lt (by omega)]
theorem ix_n32 {k : Nat} (h : k < 2147483648) : ix (n32 k) = k := by
  unfold ix Int32.toNatClampNeg
  rw [n32_toInt h]; omega
theorem xin_n {i n : Nat} (h : i < n) (hi : i < 2147483648) : xin (n32 i) n = true := by
  unfold xin
  rw [Bool.and_eq_true]
  refine ⟨decide_eq_true ?_, decide_eq_true ?_⟩
  · rw [Int32.le_iff_toInt_le, n32_toInt hi]
    show (0 : Int32).toInt ≤ _
    rw [show (0 : Int32).toInt = 0 from rfl]; omega
  · have := ix_n32 hi
    unfold ix at this
    omega
theorem xin_k {i n : Nat} (h : (Nat.blt i n && Nat.blt i 2147483648) = true) : xin (n32 i) n = true := by
  rw [Bool.and_eq_true, Nat.blt_eq, Nat.blt_eq] at h
  exact xin_n h.1 h.2

