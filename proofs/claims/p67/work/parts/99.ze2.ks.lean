/-! A run that needs no script is the same with one; the class's constructor, by the kernel. -/
theorem xone_K {K : XK} {i : Instr} {ls : XL} {st : List Value} {σ : XS} {z : XL × List Value × XS} (h : xone xK0 i ls st σ = some z) : xone K i ls st σ = some z := by
  cases i
  case iaload =>
    unfold xone at h ⊢
    dsimp only at h ⊢
    split at h
    · rename_i i a r
      split at h
      · rename_i ci n rs hS
        try dsimp only
        try rw [hS]
        exact h
      · rename_i hS
        try dsimp only
        try rw [hS]
        try dsimp only
        split at h
        · rename_i n f hK
          rw [(xci_far (K := K) hK).2]
          exact h
        · cases h
    · cases h
  case arraylength =>
    unfold xone at h ⊢
    dsimp only at h ⊢
    split at h
    · rename_i a r
      split at h
      · rename_i ci n rs hS
        try dsimp only
        try rw [hS]
        exact h
      · rename_i hS
        try dsimp only
        try rw [hS]
        try dsimp only
        split at h
        · rename_i n f hK
          rw [(xci_far (K := K) hK).2]
          exact h
        · rename_i hK
          split at h
          · rename_i n f hB
            rw [xci_no (K := K) (xcb_far hB)]
            try dsimp only
            try rw [hB]
            exact h
          · cases h
    · cases h
  all_goals exact h
set_option maxHeartbeats 4000000 in
theorem xblk_K {K : XK} {rt : Nat} {hd : List (Nat × Nat × Nat)} {J J' : Nat → XL → List Value → XS → XO} {C C' : Nat → List Value → XS → XO} {z : XR × XS}
    (hJ : ∀ (L : Nat) (ls : XL) (st : List Value) (σ : XS), J L ls st σ = some z → J' L ls st σ = some z) (hC : ∀ (y : Nat) (args : List Value) (σ : XS) (z : XR × XS), C y args σ = some z → C' y args σ = some z) :
    ∀ (is : List Instr) (ls : XL) (st : List Value) (σ : XS), xblk xK0 rt hd J C is ls st σ = some z → xblk K rt hd J' C' is ls st σ = some z := by
  intro is
  induction is with
  | nil => intro ls st σ h; cases h
  | cons i is ih =>
    intro ls st σ h
    cases hq : qnc i with
    | true =>
      rw [xblk_qnc hq] at h ⊢
      split at h
      · rename_i ls' st' σ' hs
        rw [xone_K hs]
        exact ih _ _ _ h
      · cases h
    | false =>
      cases i
      case goto L => exact hJ _ _ _ _ h
      case goto_w L => exact hJ _ _ _ _ h
      case ifCond c L =>
        cases st with
        | nil => cases h
        | cons v r => cases v <;> first | (cases h; done) | exact xbr_up (hJ _ _ _ _) (ih _ _ _) h
      case if_icmp c L =>
        cases st with
        | nil => cases h
        | cons v r => cases v <;> first | (cases h; done) | skip
                      cases r with
                      | nil => cases h
                      | cons u r => cases u <;> first | (cases h; done) | exact xbr_up (hJ _ _ _ _) (ih _ _ _) h
      case ifnull L =>
        cases st with
        | nil => cases h
        | cons v r => cases v <;> first | (cases h; done) | exact ih _ _ _ h
      case ifnonnull L =>
        cases st with
        | nil => cases h
        | cons v r => cases v <;> first | (cases h; done) | exact hJ _ _ _ _ h
      case if_acmp eq L =>
        cases st with
        | nil => cases h
        | cons v r =>
          cases v <;> first | (cases h; done) | skip
          cases r with
          | nil => cases h
          | cons u r =>
            cases u <;> first | (cases h; done) | skip
            unfold xblk at h ⊢
            dsimp only at h ⊢
            split at h
            · rename_i hc
              rw [if_pos hc]; exact hJ _ _ _ _ h
            · cases h
      case tableswitch d lo hi offs =>
        cases st with
        | nil => cases h
        | cons v r =>
          cases v <;> first | (cases h; done) | skip
          unfold xblk at h ⊢
          dsimp only at h ⊢
          split at h
          · rename_i hc
            rw [if_pos hc]
            split at h
            · rename_i hL
              try rw [hL]
              exact hJ _ _ _ _ h
            · cases h
          · rename_i hc
            rw [if_neg hc]; exact hJ _ _ _ _ h
      case lookupswitch d ps =>
        cases st with
        | nil => cases h
        | cons v r =>
          cases v <;> first | (cases h; done) | skip
          unfold xblk at h ⊢
          dsimp only at h ⊢
          split at h
          · rename_i hL
            try rw [hL]
            exact hJ _ _ _ _ h
          · rename_i hL
            try rw [hL]
            exact hJ _ _ _ _ h
      case ireturn => exact h
      case lreturn => exact h
      case freturn => exact h
      case dreturn => exact h
      case areturn => exact h
      case return_ => exact h
      case checkcast E => exact h
      case invokevirtual y => exact xcall_up hJ hC (fun st σ h => ih _ _ _ h) h
      case invokespecial y => exact xcall_up hJ hC (fun st σ h => ih _ _ _ h) h
      case invokestatic y => exact xcall_up hJ hC (fun st σ h => ih _ _ _ h) h
      all_goals (cases hq)
theorem xrun_K {K : XK} : ∀ (n d y L : Nat) (ls : XL) (st : List Value) (σ : XS) (z : XR × XS), xrun xK0 n d y L ls st σ = some z → xrun K n d y L ls st σ = some z := by
  intro n
  induction n with
  | zero => intro d y L ls st σ z h; cases h
  | succ n ih =>
    intro d y L ls st σ z h
    unfold xrun at h ⊢
    split at h
    · cases h
    · rename_i hm
      try rw [hm]
      try dsimp only
      split at h
      · cases h
      · rename_i hb
        try rw [hb]
        try dsimp only
        refine xblk_K (fun L ls st σ h => ih _ _ _ _ _ _ _ h) ?_ _ _ _ _ h
        intro y' args σ' z' h'
        cases d with
        | zero => cases h'
        | succ d0 => exact ih _ _ _ _ _ _ _ h'
def cm0 : XM := fun _ _ => 0
def cw0 : Nat → Value := fun _ => .null
def cS1 : List XC := [(10, 8, List.replicate 8 none)]
def ctA : XO := xrun xK0 400 12 90 0 (lv_args 0 [.ref 0]) [] (cS1, 0, cw0, uz cm0 0)
def ctC : Bool := match ctA with
  | some (.inl none, σ) => decide (σ.1 = S0) && (σ.2.1 == 0) && (σ.2.2.2 2 1 == n32 0)
  | _ => false
theorem ctC_ok : ctC = true := by decide +kernel
theorem ct_get : ∃ w1 m1, ctA = some (.inl none, S0, 0, w1, m1) ∧ m1 2 1 = n32 0 := by
  have h := ctC_ok
  unfold ctC at h
  split at h
  · rename_i σ hA
    rw [Bool.and_eq_true, Bool.and_eq_true, decide_eq_true_eq, beq_iff_eq, beq_iff_eq] at h
    obtain ⟨⟨h1, h2⟩, h3⟩ := h
    obtain ⟨S, e, w1, m1⟩ := σ
    dsimp only at h1 h2 h3
    subst h1 h2
    exact ⟨w1, m1, hA, h3⟩
  · cases h
theorem qc90 {K : XK} {d : Nat} : qM K (d + 12) 90 [.ref 0] (cS1, 0, cw0, uz cm0 0) (fun r σ' => r = none ∧ ∃ w1 m1, σ' = (S0, 0, w1, m1) ∧ m1 2 1 = n32 0) := by
  obtain ⟨w1, m1, h1, h2⟩ := ct_get
  exact qL_up (d := 12) ⟨400, none, _, xrun_K _ _ _ _ _ _ _ _ h1, rfl, w1, m1, rfl, h2⟩ (Nat.le_add_left _ _)
theorem S0_G : qG S0 := by unfold qG; decide +kernel
theorem S0_sum : qsum S0 ≤ 100000 := by decide +kernel
theorem km90 : xmt 90 = some (1, xM90.2.1, 10, 0, [], xM90.2.2.2.2.2) := xmt_at (q := 4) (r := 10) rfl rfl
