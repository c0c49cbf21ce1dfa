/-! The logic of runs of X over the cells that the law makes (S0). -/
def xCf (n d : Nat) : Nat → List Value → XS → XO := fun y' args σ' => match d with
  | 0 => none
  | d' + 1 => xrun xK0 n d' y' 0 (lv_args 0 args) [] σ'
theorem xbr_up {c : ClassFile.Cond} {a b : Int32} {t f t' f' : XO} {z : XR × XS} (ht : t = some z → t' = some z) (hf : f = some z → f' = some z) (h : xbr c a b t f = some z) : xbr c a b t' f' = some z := by
  unfold xbr at h ⊢
  cases c <;> dsimp only at h ⊢ <;> split at h <;> rename_i hc <;> first
    | (rw [if_pos hc]; first | exact ht h | exact hf h)
    | (rw [if_neg hc]; first | exact ht h | exact hf h)
theorem xcall_up {C C' : Nat → List Value → XS → XO} {hd : List (Nat × Nat × Nat)} {J J' : Nat → XL → List Value → XS → XO} {y : Nat} {ls : XL} {st : List Value} {σ : XS} {z : XR × XS} {k k' : List Value → XS → XO}
    (hJ : ∀ (L : Nat) (ls : XL) (st : List Value) (σ : XS), J L ls st σ = some z → J' L ls st σ = some z) (hC : ∀ (y : Nat) (args : List Value) (σ : XS) (z : XR × XS), C y args σ = some z → C' y args σ = some z)
    (hk : ∀ (st : List Value) (σ : XS), k st σ = some z → k' st σ = some z) (h : xcall C hd J y ls st σ k = some z) : xcall C' hd J' y ls st σ k' = some z := by
  unfold xcall at h ⊢
  split at h
  · cases h
  · rename_i na ml rc a4 a5 a6 hm
    try rw [hm]
    try dsimp only
    split at h
    · rename_i hc
      rw [if_pos hc]
      split at h
      · cases h
      · rename_i v σ' hq
        rw [hC _ _ _ _ hq]
        dsimp only
        split at h
        · rename_i h9
          rw [if_pos h9]; exact hk _ _ h
        · cases h
      · rename_i E σ' hq
        rw [hC _ _ _ _ hq]
        dsimp only
        split at h
        · rename_i x L xx hf
          try rw [hf]
          try dsimp only
          split at h
          · rename_i h9
            rw [if_pos h9]; exact hJ _ _ _ _ h
          · cases h
        · rename_i hf
          try rw [hf]
          try dsimp only
          exact h
    · cases h
set_option maxHeartbeats 4000000 in
theorem xblk_up {K : XK} {rt : Nat} {hd : List (Nat × Nat × Nat)} {J J' : Nat → XL → List Value → XS → XO} {C C' : Nat → List Value → XS → XO} {z : XR × XS}
    (hJ : ∀ (L : Nat) (ls : XL) (st : List Value) (σ : XS), J L ls st σ = some z → J' L ls st σ = some z) (hC : ∀ (y : Nat) (args : List Value) (σ : XS) (z : XR × XS), C y args σ = some z → C' y args σ = some z) :
    ∀ (is : List Instr) (ls : XL) (st : List Value) (σ : XS), xblk K rt hd J C is ls st σ = some z → xblk K rt hd J' C' is ls st σ = some z := by
  intro is
  induction is with
  | nil => intro ls st σ h; cases h
  | cons i is ih =>
    intro ls st σ h
    cases i
    case goto L => exact hJ _ _ _ _ h
    case goto_w L => exact hJ _ _ _ _ h
    case ifCond c L =>
      cases st with
      | nil => cases h
      | cons v r => cases v <;> first | (cases h; done) | exact xbr_up (hJ _ _ _ _) (ih _ _ _) h
    case if_icmp c L =>
      cases st with
      | nil => cases h
      | cons v r => cases v <;> first | (cases h; done) | skip
                    cases r with
                    | nil => cases h
                    | cons u r => cases u <;> first | (cases h; done) | exact xbr_up (hJ _ _ _ _) (ih _ _ _) h
    case ifnull L =>
      cases st with
      | nil => cases h
      | cons v r => cases v <;> first | (cases h; done) | exact ih _ _ _ h
    case ifnonnull L =>
      cases st with
      | nil => cases h
      | cons v r => cases v <;> first | (cases h; done) | exact hJ _ _ _ _ h
    case if_acmp eq L =>
      cases st with
      | nil => cases h
      | cons v r =>
        cases v <;> first | (cases h; done) | skip
        cases r with
        | nil => cases h
        | cons u r =>
          cases u <;> first | (cases h; done) | skip
          unfold xblk at h ⊢
          dsimp only at h ⊢
          split at h
          · rename_i hc
            rw [if_pos hc]; exact hJ _ _ _ _ h
          · cases h
    case tableswitch d lo hi offs =>
      cases st with
      | nil => cases h
      | cons v r =>
        cases v <;> first | (cases h; done) | skip
        unfold xblk at h ⊢
        dsimp only at h ⊢
        split at h
        · rename_i hc
          rw [if_pos hc]
          split at h
          · rename_i hL
            try rw [hL]
            exact hJ _ _ _ _ h
          · cases h
        · rename_i hc
          rw [if_neg hc]; exact hJ _ _ _ _ h
    case lookupswitch d ps =>
      cases st with
      | nil => cases h
      | cons v r =>
        cases v <;> first | (cases h; done) | skip
        unfold xblk at h ⊢
        dsimp only at h ⊢
        split at h
        · rename_i hL
          try rw [hL]
          exact hJ _ _ _ _ h
        · rename_i hL
          try rw [hL]
          exact hJ _ _ _ _ h
    case ireturn => exact h
    case lreturn => exact h
    case freturn => exact h
    case dreturn => exact h
    case areturn => exact h
    case return_ => exact h
    case checkcast E => exact h
    case invokevirtual y => exact xcall_up hJ hC (fun st σ h => ih _ _ _ h) h
    case invokespecial y => exact xcall_up hJ hC (fun st σ h => ih _ _ _ h) h
    case invokestatic y => exact xcall_up hJ hC (fun st σ h => ih _ _ _ h) h
    all_goals
      unfold xblk at h ⊢
      dsimp only at h ⊢
      split at h
      · rename_i hq
        try rw [hq]
        exact ih _ _ _ h
      · cases h
theorem xrun_up {z : XR × XS} : ∀ (n : Nat) (K : XK) (d d' y L : Nat) (ls : XL) (st : List Value) (σ : XS), d ≤ d' → xrun K n d y L ls st σ = some z → xrun K (n + 1) d' y L ls st σ = some z := by
  suffices H : ∀ (n : Nat) (z : XR × XS) (K : XK) (d d' y L : Nat) (ls : XL) (st : List Value) (σ : XS), d ≤ d' → xrun K n d y L ls st σ = some z → xrun K (n + 1) d' y L ls st σ = some z from fun n => H n z
  intro n
  induction n with
  | zero => intro z K d d' y L ls st σ _ h; cases h
  | succ n ih =>
    intro z K d d' y L ls st σ hd h
    unfold xrun at h ⊢
    split at h
    · cases h
    · rename_i hm
      try rw [hm]
      try dsimp only
      split at h
      · cases h
      · rename_i hb
        try rw [hb]
        try dsimp only
        refine xblk_up (fun L ls st σ h => ih _ _ _ _ _ _ _ _ _ hd h) ?_ _ _ _ _ h
        intro y' args σ' z' h'
        cases d with
        | zero => cases h'
        | succ d0 =>
          cases d' with
          | zero => omega
          | succ d1 => exact ih _ _ _ _ _ _ _ _ _ (by omega) h'
theorem xrun_le {z : XR × XS} {n n' : Nat} {K : XK} {d d' y L : Nat} {ls : XL} {st : List Value} {σ : XS} (hd : d ≤ d') (hn : n < n') (h : xrun K n d y L ls st σ = some z) : xrun K n' d' y L ls st σ = some z := by
  obtain ⟨k, rfl⟩ := Nat.exists_eq_add_of_le (show n + 1 ≤ n' by omega)
  clear hn
  induction k with
  | zero => exact xrun_up _ _ _ _ _ _ _ _ _ hd h
  | succ k ih => exact xrun_up _ _ _ _ _ _ _ _ _ (Nat.le_refl _) ih


