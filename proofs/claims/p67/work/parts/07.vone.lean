/-! The verification conditions of one instruction are sound. -/
def sck (a : Nat) : Bool := match S0[a]? with
  | some (c, n, rs) => Nat.blt n 10000 && (if c < 12 then Nat.beq n (xnf.getD c 0) && (List.range n).all (fun j => !(xref c j) || (rs[j]? == some (some (a + (fof (32 * c + j)).1)) && Nat.beq (xkd (a + (fof (32 * c + j)).1)) (fof (32 * c + j)).2 && !(Nat.beq (fof (32 * c + j)).2 99)))
    else Nat.blt 19 c && (if c = 25 then (if n = 8 then (List.range 8).all (fun j => rs[j]? == some (some (a + 3 + 20 * j)) && Nat.beq (xkd (a + 3 + 20 * j)) 8) else Nat.beq n 2 && (List.range 2).all (fun j => rs[j]? == some (some (a + 162 + 20 * j)) && Nat.beq (xkd (a + 162 + 20 * j)) 8)) else true))
  | none => true
theorem S0_len : S0.length = 283 := by decide +kernel
theorem sck_ok : ((List.range 283).all sck) = true := by decide +kernel
theorem sck_at {a : Nat} {x : XC} (h : S0[a]? = some x) : sck a = true := by
  have : a < 283 := by
    rw [← S0_len]
    exact (List.getElem?_eq_some_iff.mp h).1
  exact List.all_eq_true.mp sck_ok a (List.mem_range.mpr this)
theorem S0_none {a : Nat} (h : 1000000 ≤ a) : S0[a]? = none := by
  rw [List.getElem?_eq_none_iff, S0_len]; omega
theorem xk_arr {a k c : Nat} (h : xkd a = k) (hc : k / 10000 = c) (h0 : c ≠ 0) : ∃ rs, S0[a]? = some (c, k % 10000, rs) := by
  unfold xkd at h
  split at h
  · rename_i c' n rs e
    have hs := sck_at e
    unfold sck at hs
    rw [e] at hs
    dsimp only at hs
    rw [Bool.and_eq_true] at hs
    have hn : n < 10000 := by simpa [Nat.blt_eq] using hs.1
    split at h
    · omega
    · have e1 : c' = c := by omega
      have e2 : n = k % 10000 := by omega
      subst e1; subst e2
      exact ⟨rs, e⟩
  · exfalso
    split at h
    · omega
    · split at h
      · omega
      · split at h
        · omega
        · split at h <;> omega
theorem xk_obj {a k : Nat} (h : xkd a = k) (hk : k < 12) : ∃ rs, S0[a]? = some (k, xnf.getD k 0, rs) ∧ ∀ j, j < xnf.getD k 0 → xref k j = true → rs[j]? = some (some (a + (fof (32 * k + j)).1)) ∧ xkd (a + (fof (32 * k + j)).1) = (fof (32 * k + j)).2 ∧ (fof (32 * k + j)).2 ≠ 99 := by
  unfold xkd at h
  split at h
  · rename_i c' n rs e
    have hs := sck_at e
    unfold sck at hs
    rw [e] at hs
    dsimp only at hs
    rw [Bool.and_eq_true] at hs
    obtain ⟨h1, h2⟩ := hs
    split at h
    · rename_i hc
      subst h
      rw [if_pos hk, Bool.and_eq_true] at h2
      have e2 := Nat.eq_of_beq_eq_true h2.1
      subst e2
      refine ⟨rs, e, ?_⟩
      intro j hj hr
      have := List.all_eq_true.mp h2.2 j (List.mem_range.mpr hj)
      rw [hr] at this
      simp only [Bool.not_true, Bool.false_or, Bool.and_eq_true, beq_iff_eq, Nat.beq_eq, Bool.not_eq_true'] at this
      exact ⟨this.1.1, this.1.2, Nat.ne_of_beq_eq_false this.2⟩
    · omega
  · exfalso
    split at h
    · omega
    · split at h
      · omega
      · split at h
        · omega
        · split at h <;> omega
theorem xk_ring {a : Nat} (h : xkd a = 250008) : ∃ rs, S0[a]? = some (25, 8, rs) ∧ ∀ j, j < 8 → rs[j]? = some (some (a + 3 + 20 * j)) ∧ xkd (a + 3 + 20 * j) = 8 := by
  obtain ⟨rs, e⟩ := xk_arr (c := 25) h (by omega) (by omega)
  refine ⟨rs, e, ?_⟩
  have hs := sck_at e
  unfold sck at hs
  rw [e] at hs
  dsimp only at hs
  rw [Bool.and_eq_true, if_neg (by omega), Bool.and_eq_true, if_pos rfl, if_pos (by omega)] at hs
  intro j hj
  have := List.all_eq_true.mp hs.2.2 j (List.mem_range.mpr hj)
  simp only [Bool.and_eq_true, beq_iff_eq, Nat.beq_eq] at this
  exact this
theorem xk_slots {a : Nat} (h : xkd a = 250002) : ∃ rs, S0[a]? = some (25, 2, rs) ∧ ∀ j, j < 2 → rs[j]? = some (some (a + 162 + 20 * j)) ∧ xkd (a + 162 + 20 * j) = 8 := by
  obtain ⟨rs, e⟩ := xk_arr (c := 25) h (by omega) (by omega)
  refine ⟨rs, e, ?_⟩
  have hs := sck_at e
  unfold sck at hs
  rw [e] at hs
  dsimp only at hs
  rw [Bool.and_eq_true, if_neg (by omega), Bool.and_eq_true, if_pos rfl, if_neg (by omega), Bool.and_eq_true] at hs
  intro j hj
  have := List.all_eq_true.mp hs.2.2.2 j (List.mem_range.mpr hj)
  simp only [Bool.and_eq_true, beq_iff_eq, Nat.beq_eq] at this
  exact this
theorem xk_const {a k : Nat} (h : xkd a = k) (h1 : 12 ≤ k) (h2 : k < 99) : S0[a]? = none ∧ ((k = 40 ∧ a = 1000001) ∨ (k = 41 ∧ a = 1000002) ∨ (k = 30 ∧ 1000010 ≤ a ∧ a < 1000028) ∨ (k = 31 ∧ 1000040 ≤ a ∧ a < 1000058)) := by
  unfold xkd at h
  split at h
  · rename_i c' n rs e
    exfalso
    have hs := sck_at e
    unfold sck at hs
    rw [e] at hs
    dsimp only at hs
    rw [Bool.and_eq_true] at hs
    split at h
    · omega
    · rename_i hc
      rw [if_neg hc, Bool.and_eq_true] at hs
      have : 19 < c' := by simpa [Nat.blt_eq] using hs.2.1
      omega
  · rename_i e
    refine ⟨e, ?_⟩
    split at h
    · omega
    · split at h
      · omega
      · split at h
        · omega
        · split at h <;> omega
def vgoes (i : Instr) (al : AL) (st : List AV) (m : XM) (k : AL → List AV → XM → Prop) : Prop :=
  ∃ (al' : AL) (st' : List AV) (m' : XM), (∀ (e : Nat) (w : Nat → Value), xone xK0 i (cvL al) (cvS st) (S0, e, w, m) = some (cvL al', cvS st', S0, e, w, m')) ∧ wtL al' ∧ wtS st' ∧ k al' st' m'
theorem wt_val (v : Value) : wt (.inl v) := trivial
theorem vone_ok1 {i : Instr} {al : AL} {st : List AV} {m : XM} {k : AL → List AV → XM → Prop} (h : vone i al st m k) (hl : wtL al) (hs : wtS st)
    (hi : ∀ f, i ≠ .getfield f) (hp : ∀ f, i ≠ .putfield f) (h3 : i ≠ .iaload) (h4 : i ≠ .iastore) (h5 : i ≠ .baload) (h6 : i ≠ .bastore) (h7 : i ≠ .aaload) (h8 : i ≠ .arraylength) : vgoes i al st m k := by
  cases i
  case getfield f => exact absurd rfl (hi f)
  case putfield f => exact absurd rfl (hp f)
  case iaload => exact absurd rfl h3
  case iastore => exact absurd rfl h4
  case baload => exact absurd rfl h5
  case bastore => exact absurd rfl h6
  case aaload => exact absurd rfl h7
  case arraylength => exact absurd rfl h8
  case iconst n =>
    refine ⟨_, _, _, ?_, hl, wtS_cons (v := .inl _) hs trivial, h⟩
    intro e w
    show some (cvL al, Value.int (Int32.ofInt n) :: cvS st, _) = _
    rw [← xi_eq]; rfl
  case ldc_w b => exact ⟨_, _, _, fun e w => rfl, hl, wtS_cons (v := vF (UInt32.ofNat b)) hs trivial, h⟩
  case ldc2_w b => exact ⟨_, _, _, fun e w => rfl, hl, wtS_cons (v := vD (UInt64.ofNat b)) hs trivial, h⟩
  case jsr b => exact ⟨_, _, _, fun e w => rfl, hl, wtS_cons (v := vJ (Int64.ofInt b)) hs trivial, h⟩
  case fconst n => exact ⟨_, _, _, fun e w => rfl, hl, wtS_cons (v := vF _) hs trivial, h⟩
  case dconst n => exact ⟨_, _, _, fun e w => rfl, hl, wtS_cons (v := vD _) hs trivial, h⟩
  case lconst n => exact ⟨_, _, _, fun e w => rfl, hl, wtS_cons (v := vJ _) hs trivial, h⟩
  case ldc s =>
    unfold vone at h
    dsimp only at h
    split at h
    · rename_i hb
      rw [Nat.blt_eq] at hb
      refine ⟨_, _, _, fun e w => rfl, hl, wtS_cons (v := vR 30 (1000010 + s)) hs ⟨?_, by omega⟩, h⟩
      show xkd (1000010 + s) = 30
      unfold xkd
      rw [S0_none (by omega)]
      dsimp only
      rw [if_neg (by omega), if_neg (by omega), if_pos (by omega)]
    · exact h.elim
  case iload j =>
    unfold vone at h
    dsimp only at h
    split at h
    · rename_i e
      refine ⟨_, _, _, ?_, hl, wtS_cons (v := .inl _) hs trivial, h⟩
      intro e w
      unfold xone
      simp only [ak_cv, *]; rfl
    · exact h.elim
  case lload j =>
    unfold vone at h
    dsimp only at h
    split at h
    · rename_i e
      refine ⟨_, _, _, ?_, hl, wtS_cons (v := .inl _) hs trivial, h⟩
      intro e w
      unfold xone
      simp only [ak_cv, *]; rfl
    · exact h.elim
  case fload j =>
    unfold vone at h
    dsimp only at h
    split at h
    · rename_i e
      refine ⟨_, _, _, ?_, hl, wtS_cons (v := .inl _) hs trivial, h⟩
      intro e w
      unfold xone
      simp only [ak_cv, *]; rfl
    · exact h.elim
  case dload j =>
    unfold vone at h
    dsimp only at h
    split at h
    · rename_i e
      refine ⟨_, _, _, ?_, hl, wtS_cons (v := .inl _) hs trivial, h⟩
      intro e w
      unfold xone
      simp only [ak_cv, *]; rfl
    · exact h.elim
  case aload j =>
    unfold vone at h
    dsimp only at h
    split at h
    · rename_i kd a e
      refine ⟨_, _, _, ?_, hl, wtS_cons (v := .inr (kd, a)) hs (ak_wt hl e), h⟩
      intro e w
      unfold xone
      simp only [ak_cv, *]; rfl
    · exact h.elim
  case istore j =>
    unfold vone at h
    dsimp only at h
    split at h
    · rename_i v r
      refine ⟨_, _, _, ?_, ast_wt (v := .inl _) hl trivial, wtS_tl hs, h⟩
      intro e w
      rw [← ast_cv]; rfl
    · exact h.elim
  case lstore j =>
    unfold vone at h
    dsimp only at h
    split at h
    · rename_i v r
      refine ⟨_, _, _, ?_, ast_wt (v := .inl _) hl trivial, wtS_tl hs, h⟩
      intro e w
      rw [← ast_cv]; rfl
    · exact h.elim
  case fstore j =>
    unfold vone at h
    dsimp only at h
    split at h
    · rename_i v r
      refine ⟨_, _, _, ?_, ast_wt (v := .inl _) hl trivial, wtS_tl hs, h⟩
      intro e w
      rw [← ast_cv]; rfl
    · exact h.elim
  case dstore j =>
    unfold vone at h
    dsimp only at h
    split at h
    · rename_i v r
      refine ⟨_, _, _, ?_, ast_wt (v := .inl _) hl trivial, wtS_tl hs, h⟩
      intro e w
      rw [← ast_cv]; rfl
    · exact h.elim
  case astore j =>
    unfold vone at h
    dsimp only at h
    split at h
    · rename_i kd a r
      refine ⟨_, _, _, ?_, ast_wt (v := .inr (kd, a)) hl (wtS_hd hs), wtS_tl hs, h⟩
      intro e w
      rw [← ast_cv]; rfl
    · exact h.elim
  case iinc j n =>
    unfold vone at h
    dsimp only at h
    split at h
    · rename_i v e9
      refine ⟨_, _, _, ?_, ast_wt (v := .inl _) hl trivial, hs, h⟩
      intro e w
      rw [← ast_cv]
      unfold xone
      simp only [ak_cv, e9, Option.map, cv, xi_eq]
    · exact h.elim
  case iadd | isub | imul | iand | ior | ishl | ishr | iushr | ladd | lsub | lshl | lcmp | fcmp op | dcmp op =>
    unfold vone at h
    dsimp only at h
    split at h
    · exact ⟨_, _, _, fun e w => rfl, hl, wtS_cons (v := .inl _) (wtS_tl (wtS_tl hs)) trivial, h⟩
    · exact h.elim
  case ineg | i2l | i2b | i2c | i2f | i2d | f2i | d2l =>
    unfold vone at h
    dsimp only at h
    split at h
    · exact ⟨_, _, _, fun e w => rfl, hl, wtS_cons (v := .inl _) (wtS_tl hs) trivial, h⟩
    · exact h.elim
  case idiv | irem | fmul | fdiv | fsub | dmul | ddiv | dsub =>
    unfold vone at h
    dsimp only at h
    split at h
    · refine ⟨_, _, _, ?_, hl, wtS_cons (v := .inl _) (wtS_tl (wtS_tl hs)) trivial, h.2⟩
      intro e w
      first
        | exact if_neg h.1
        | exact if_pos h.1
    · exact h.elim
  case dup =>
    unfold vone at h
    dsimp only at h
    split at h
    · rename_i v r
      split at h
      · rename_i hb
        refine ⟨_, _, _, ?_, hl, wtS_cons hs (wtS_hd hs), h⟩
        intro e w
        exact if_pos (by rw [cv_cat]; exact Nat.eq_of_beq_eq_true hb)
      · exact h.elim
    · exact h.elim
  case dup2 =>
    unfold vone at h
    dsimp only at h
    split at h
    · rename_i v u r
      split at h
      · rename_i hb
        rw [Bool.and_eq_true] at hb
        refine ⟨_, _, _, ?_, hl, wtS_cons (wtS_cons hs (wtS_hd (wtS_tl hs))) (wtS_hd hs), h⟩
        intro e w
        exact if_pos ⟨by rw [cv_cat]; exact Nat.eq_of_beq_eq_true hb.1, by rw [cv_cat]; exact Nat.eq_of_beq_eq_true hb.2⟩
      · exact h.elim
    · exact h.elim
  case pop =>
    unfold vone at h
    dsimp only at h
    split at h
    · rename_i v r
      split at h
      · rename_i hb
        refine ⟨_, _, _, ?_, hl, wtS_tl hs, h⟩
        intro e w
        exact if_pos (by rw [cv_cat]; exact Nat.eq_of_beq_eq_true hb)
      · exact h.elim
    · exact h.elim
  case frem =>
    unfold vone at h
    dsimp only at h
    split at h
    · refine ⟨_, _, _, ?_, hl, wtS_cons (v := .inl _) (wtS_tl (wtS_tl hs)) trivial, h.2⟩
      intro e w
      exact if_pos ⟨h.1.1, h.1.2, Nat.zero_le _⟩
    · exact h.elim
  case invokedynamic j =>
    unfold vone at h
    dsimp only at h
    split at h
    · split at h
      · rename_i hb
        refine ⟨_, _, _, ?_, hl, wtS_cons (v := .inl _) (wtS_tl hs) trivial, h⟩
        intro e w
        exact if_pos ⟨Nat.eq_of_beq_eq_true hb, Nat.zero_le _⟩
      · exact h.elim
    · split at h
      · rename_i hb
        refine ⟨_, _, _, ?_, hl, wtS_cons (v := .inl _) (wtS_tl hs) trivial, h⟩
        intro e w
        exact if_pos ⟨Nat.eq_of_beq_eq_true hb, Nat.zero_le _⟩
      · exact h.elim
    · exact h.elim
  case getstatic j =>
    unfold vone at h
    dsimp only at h
    split at h
    · exact ⟨_, _, _, fun e w => rfl, hl, wtS_cons (v := vR 40 1000001) hs ⟨by unfold xkd; rw [S0_none (by omega)]; rfl, by omega⟩, h⟩
    · exact ⟨_, _, _, fun e w => rfl, hl, wtS_cons (v := vR 41 1000002) hs ⟨by unfold xkd; rw [S0_none (by omega)]; rfl, by omega⟩, h⟩
    · exact ⟨_, _, _, fun e w => rfl, hl, wtS_cons (v := vI 1) hs trivial, h⟩
    · exact ⟨_, _, _, fun e w => rfl, hl, wtS_cons (v := vJ (-2147483648)) hs trivial, h⟩
    · exact ⟨_, _, _, fun e w => rfl, hl, wtS_cons (v := Sum.inl (Value.retAddr 0)) hs trivial, h⟩
    · exact h.elim
  all_goals exact h.elim

