/-! A run of X only adds cells. -/
def xle (σ τ : XS) : Prop := σ.1.length ≤ τ.1.length ∧ nC σ ≤ nC τ ∧ nS σ ≤ nS τ
theorem xle.rf {σ : XS} : xle σ σ := ⟨Nat.le_refl _, Nat.le_refl _, Nat.le_refl _⟩
theorem xle.tr {σ τ u : XS} (h1 : xle σ τ) (h2 : xle τ u) : xle σ u := ⟨Nat.le_trans h1.1 h2.1, Nat.le_trans h1.2.1 h2.2.1, Nat.le_trans h1.2.2 h2.2.2⟩
theorem xle_m {σ : XS} {w : Nat → Value} {m : XM} : xle σ (σ.1, σ.2.1, w, m) := ⟨Nat.le_refl _, Nat.le_refl _, Nat.le_refl _⟩
theorem xle_e {σ : XS} {w : Nat → Value} {m : XM} : xle σ (σ.1, σ.2.1 + 1, w, m) := ⟨Nat.le_refl _, by unfold nC; dsimp only; omega, by unfold nS; dsimp only; omega⟩
theorem xle_s {σ : XS} {a ci n : Nat} {rs rs' : List (Option Nat)} {w : Nat → Value} {m : XM} (hS : σ.1[a]? = some (ci, n, rs)) : xle σ (σ.1.set a (ci, n, rs'), σ.2.1, w, m) := by
  refine ⟨by dsimp only; rw [List.length_set]; exact Nat.le_refl _, by unfold nC; dsimp only; rw [List.length_set]; exact Nat.le_refl _, ?_⟩
  unfold nS; dsimp only
  rw [List.map_set]
  have hlt := (List.getElem?_eq_some_iff.mp hS).1
  have e : (List.map (fun x : XC => x.2.1) σ.1).set a n = List.map (fun x : XC => x.2.1) σ.1 := by
    apply List.ext_getElem?
    intro i
    by_cases hi : i = a
    · subst hi
      rw [List.getElem?_set_self (by simpa using hlt), List.getElem?_map, hS]; rfl
    · rw [List.getElem?_set_ne (Ne.symm hi)]
  dsimp only
  rw [e]
  exact Nat.le_refl _
theorem xle_p {σ : XS} {x : XC} {w : Nat → Value} {m : XM} : xle σ (σ.1 ++ [x], σ.2.1, w, m) := by
  refine ⟨by dsimp only; rw [List.length_append]; omega, by unfold nC; dsimp only; rw [List.length_append]; omega, ?_⟩
  unfold nS; dsimp only
  rw [List.map_append, List.sum_append]; omega
theorem xle_R {σ : XS} {ci n f v a : Nat} {rs : List (Option Nat)} {S' : List XC} {w : Nat → Value} {m : XM} (hS : σ.1[a]? = some (ci, n, rs)) (h : xputR ci n rs f v σ.1 a = some S') : xle σ (S', σ.2.1, w, m) := by
  unfold xputR at h
  split at h
  · cases h; exact xle_s hS
  · cases h
theorem gs_if {k n : Nat} {a b : XL × List Value × XS} {o : Option (XL × List Value × XS)} (h : (if k = n then some a else o) = some b) : a = b ∨ o = some b := by
  split at h
  · exact Or.inl (Option.some.inj h)
  · exact Or.inr h
set_option maxHeartbeats 4000000 in
theorem xone_mono {K : XK} {i : Instr} {ls ls' : XL} {st st' : List Value} {σ σ' : XS} (h : xone K i ls st σ = some (ls', st', σ')) : xle σ σ' := by
  cases i
  case getstatic k =>
    unfold xone at h; dsimp only at h
    iterate 12 (rcases gs_if h with h | h; (cases h; exact xle.rf))
    cases h
  all_goals ((unfold xone at h; dsimp only at h) <;> (try cases h) <;> (try exact xle.rf) <;>
      (repeat' split at h) <;> (try cases h) <;> first | exact xle.rf | exact xle_m | (exact xle_s (by assumption)) | exact xle_p | (exact xle_R (by assumption) (by assumption)))
theorem xbr_some {c : ClassFile.Cond} {a b : Int32} {t f : XO} {r : XR × XS} (h : xbr c a b t f = some r) : t = some r ∨ f = some r := by
  unfold xbr at h
  cases c <;> dsimp only at h <;> split at h <;> first | exact Or.inl h | exact Or.inr h
theorem xcall_mono {C : Nat → List Value → XS → XO} {hd : List (Nat × Nat × Nat)} {J : Nat → XL → List Value → XS → XO} {y : Nat} {ls : XL} {st : List Value} {σ σ' : XS} {r : XR} {k : List Value → XS → XO}
    (hJ : ∀ (L : Nat) (ls : XL) (st : List Value) (σ : XS) (r : XR) (σ' : XS), J L ls st σ = some (r, σ') → xle σ σ') (hC : ∀ (y : Nat) (args : List Value) (σ : XS) (r : XR) (σ' : XS), C y args σ = some (r, σ') → xle σ σ')
    (hk : ∀ (st : List Value) (σ : XS) (r : XR) (σ' : XS), k st σ = some (r, σ') → xle σ σ') (h : xcall C hd J y ls st σ k = some (r, σ')) : xle σ σ' := by
  unfold xcall at h
  split at h
  · cases h
  · split at h
    · split at h
      · cases h
      · rename_i hc
        split at h
        · exact (hC _ _ _ _ _ hc).tr (hk _ _ _ _ h)
        · cases h
      · rename_i hc
        split at h
        · split at h
          · exact (hC _ _ _ _ _ hc).tr (hJ _ _ _ _ _ _ h)
          · cases h
        · split at h
          · cases h; exact hC _ _ _ _ _ hc
          · cases h
    · cases h
set_option maxHeartbeats 4000000 in
theorem xblk_mono {K : XK} {rt : Nat} {hd : List (Nat × Nat × Nat)} {J : Nat → XL → List Value → XS → XO} {C : Nat → List Value → XS → XO}
    (hJ : ∀ (L : Nat) (ls : XL) (st : List Value) (σ : XS) (r : XR) (σ' : XS), J L ls st σ = some (r, σ') → xle σ σ') (hC : ∀ (y : Nat) (args : List Value) (σ : XS) (r : XR) (σ' : XS), C y args σ = some (r, σ') → xle σ σ') :
    ∀ (is : List Instr) (ls : XL) (st : List Value) (σ : XS) (r : XR) (σ' : XS), xblk K rt hd J C is ls st σ = some (r, σ') → xle σ σ' := by
  intro is
  induction is with
  | nil => intro ls st σ r σ' h; cases h
  | cons i is ih =>
    intro ls st σ r σ' h
    unfold xblk at h
    split at h
    · exact hJ _ _ _ _ _ _ h
    · exact hJ _ _ _ _ _ _ h
    · split at h
      · rcases xbr_some h with h | h
        · exact hJ _ _ _ _ _ _ h
        · exact ih _ _ _ _ _ h
      · cases h
    · split at h
      · rcases xbr_some h with h | h
        · exact hJ _ _ _ _ _ _ h
        · exact ih _ _ _ _ _ h
      · cases h
    · split at h
      · exact ih _ _ _ _ _ h
      · cases h
    · split at h
      · exact hJ _ _ _ _ _ _ h
      · cases h
    · split at h
      · split at h
        · exact hJ _ _ _ _ _ _ h
        · cases h
      · cases h
    · split at h
      · split at h
        · split at h
          · exact hJ _ _ _ _ _ _ h
          · cases h
        · exact hJ _ _ _ _ _ _ h
      · cases h
    · split at h
      · split at h
        · exact hJ _ _ _ _ _ _ h
        · exact hJ _ _ _ _ _ _ h
      · cases h
    · split at h
      · split at h
        · cases h; exact xle.rf
        · cases h
      · cases h
    · split at h
      · split at h
        · cases h; exact xle.rf
        · cases h
      · cases h
    · split at h
      · split at h
        · cases h; exact xle.rf
        · cases h
      · cases h
    · split at h
      · split at h
        · cases h; exact xle.rf
        · cases h
      · cases h
    · split at h
      · split at h
        · cases h; exact xle.rf
        · cases h
      · cases h
    · split at h
      · split at h
        · cases h; exact xle.rf
        · cases h
      · cases h
    · split at h
      · split at h
        · cases h; exact xle_e
        · cases h
      · cases h
    · exact xcall_mono hJ hC (fun st σ r σ' h => ih _ _ _ _ _ h) h
    · exact xcall_mono hJ hC (fun st σ r σ' h => ih _ _ _ _ _ h) h
    · exact xcall_mono hJ hC (fun st σ r σ' h => ih _ _ _ _ _ h) h
    · split at h
      · rename_i h1
        exact (xone_mono h1).tr (ih _ _ _ _ _ h)
      · cases h
theorem xrun_mono {K : XK} : ∀ (n d y L : Nat) (ls : XL) (st : List Value) (σ : XS) (r : XR) (σ' : XS), xrun K n d y L ls st σ = some (r, σ') → xle σ σ' := by
  intro n
  induction n generalizing K with
  | zero => intro d y L ls st σ r σ' h; cases h
  | succ n ih =>
    intro d y L ls st σ r σ' h
    unfold xrun at h
    split at h
    · cases h
    · split at h
      · cases h
      · refine xblk_mono (fun L ls st σ r σ' h => ih _ _ _ _ _ _ _ _ h) (fun y args σ r σ' h => ?_) _ _ _ _ _ _ h
        split at h
        · cases h
        · exact ih _ _ _ _ _ _ _ _ h
