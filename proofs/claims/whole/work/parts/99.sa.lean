/-! Which exceptions a method can throw. -/
def exT : List (List Nat) := [[], [], [], [], [], [], [], [], [], [], [], [], [], [], [], [], [], [], [], [], [], [], [], [], [], [], [], [], [], [], [], [], [], [], [], [], [], [], [], [], [], [], [], [], [], [], [], [], [], [], [], [], [], [], [], [], [], [], [], [], [], [], [], [], [], [], [], [], [], [], [], [], [], [], [], [], [], [], [], [], [], [], [], [], [], [], [], [], [], [], [], [], [1, 2], [], [], [], [0, 1], [0, 1], [0, 1, 2], [0, 1, 2], [0, 1, 2], [0, 1, 2], [0, 2], [0, 2], [0, 2], [0, 2], [0, 2], [0, 2], [0, 2], [0, 2], [0, 2], [0, 2], [0, 2], [0, 1], [0, 1], [0, 1], [0], [0], [0], [0], [0], [0], [0], [0], [0], [0], [0, 2], [0, 2], [0, 1, 2], [0, 1, 2], [0, 1, 2], [0, 1], [0], [0, 1, 2], [0, 1, 2], [0, 2], [0, 2], [0], [0, 2], [0], [0], [2], [0, 1], [0, 1, 2], [0, 1, 2], [0, 1, 2], [0, 1, 2], [0, 1], [0, 1, 2], [0, 1, 2], [0, 1], [0], [], [0, 2], [0, 2], [0], [2], [2], [2], [1], [1], [], [], [], [], [], [], [], [], [], [], [], [], [], [], [], [], [], [], [], [], [], [], [], [], [], [], [], [], [], [], [], [], [], [], [], [], [], [], [], [], [], [], [], [], [], [], [], [], [], [], [], [], [], [], [], [], [], [], [], [], [], [], [], [], [], [], [], [], [], [], [], [], [], [], [], [], [], [], [], [], [], [], [], [], [], [], [], [], [], [], [], [], [], [], [], [], [], [], [], [], [], [], [], [], [], [], [], [], [], [], [], [], [], [], [], [], [], [], [], [], [], [], [], [], [], [], [], [], [], [], [], [], [], [], [], [], [], [], [], [], [], [], [], [], [], [], [], [], [], [], [], [], [], [], [], [], [], [], [], [], [], [], [1, 2], [0, 1], [0, 1], [0, 1, 2], [0, 1, 2], [0, 1, 2], [0, 1, 2], [0, 2], [0, 2], [0, 2], [0, 2], [0, 2], [0, 2], [0, 2], [0, 2], [0, 2], [0, 2], [0, 2], [0, 1], [0, 1], [0, 1], [0], [0], [0], [0], [0], [0], [0], [0], [0], [0], [0, 2], [0, 2], [0, 1, 2], [0, 1, 2], [0, 1, 2], [0, 1], [0], [0, 1, 2], [0, 1, 2], [0, 2], [0, 2], [0], [0, 2], [0], [0], [2], [0, 1], [0, 1, 2], [0, 1, 2], [0, 1, 2], [0, 1, 2], [0, 1], [0, 1, 2], [0, 1, 2], [0, 1], [0], [0, 2], [0, 2], [0, 1, 2], [], [], [], [], [], [], [], [], [], [], [], [], [], [], []]
def exo (y : Nat) : List Nat := exT.getD y []
def exI (y : Nat) : Instr → Bool
  | .checkcast E => (exo y).contains E
  | .invokevirtual z => (exo z).all fun E => (exo y).contains E
  | .invokespecial z => (exo z).all fun E => (exo y).contains E
  | .invokestatic z => (exo z).all fun E => (exo y).contains E
  | _ => true
def exR (q : Nat) : Bool := (List.range 20).all fun r => match (xmC.getD q [])[r]? with
  | none => true
  | some z => z.2.2.2.2.2.all fun b => b.2.all (exI (20 * q + r))
theorem exR_ok : ((List.range 20).all exR) = true := by decide +kernel
theorem ex_blk {y na ml rc rt L : Nat} {hd : List (Nat × Nat × Nat)} {bs : List XB} {lv : List Nat} {is : List Instr} (hm : xmt y = some (na, ml, rc, rt, hd, bs)) (hb : bs[L]? = some (lv, is)) : is.all (exI y) = true := by
  obtain ⟨q, r, rfl, hr⟩ : ∃ q r, y = 20 * q + r ∧ r < 20 := ⟨y / 20, y % 20, by omega, by omega⟩
  have hq : q < 20 := by
    have h := (List.getElem?_eq_some_iff.mp hm).1
    have : xmts.length = 398 := by decide +kernel
    omega
  have h1 := List.all_eq_true.mp (List.all_eq_true.mp exR_ok q (List.mem_range.mpr hq)) r (List.mem_range.mpr hr)
  cases hz : (xmC.getD q [])[r]? with
  | none =>
    exfalso
    have hn : ∀ q, q < 20 → ∀ r, r < 20 → (xmC.getD q [])[r]? = none → xmt (20 * q + r) = none := by
      intro q hq r hr hz
      have h2 : ((List.range 20).all fun q => (List.range 20).all fun r => ((xmC.getD q [])[r]?).isSome || (xmt (20 * q + r)).isNone) = true := by decide +kernel
      have := List.all_eq_true.mp (List.all_eq_true.mp h2 q (List.mem_range.mpr hq)) r (List.mem_range.mpr hr)
      rw [hz] at this
      simpa using this
    rw [hn q hq r hr hz] at hm
    cases hm
  | some z =>
    have h2 := xmt_at (q := q) (r := r) (z := z) (by rw [Nat.blt_eq]; exact hr) hz
    rw [h2] at hm
    cases hm
    rw [hz] at h1
    exact List.all_eq_true.mp h1 _ (List.mem_of_getElem? hb)
theorem xbr_ex {c : ClassFile.Cond} {a b : Int32} {t f : XO} {z : XR × XS} (h : xbr c a b t f = some z) : t = some z ∨ f = some z := by
  unfold xbr at h
  cases c <;> dsimp only at h <;> split at h <;> first | exact Or.inl h | exact Or.inr h
theorem xcall_ex {S : List Nat} {C : Nat → List Value → XS → XO} {hd : List (Nat × Nat × Nat)} {J : Nat → XL → List Value → XS → XO} {y : Nat} {ls : XL} {st : List Value} {σ σ' : XS} {x : Nat} {k : List Value → XS → XO}
    (hJ : ∀ (L : Nat) (ls : XL) (st : List Value) (σ : XS) (x : Nat) (σ' : XS), J L ls st σ = some (.inr x, σ') → x ∈ S) (hC : ∀ (args : List Value) (σ : XS) (x : Nat) (σ' : XS), C y args σ = some (.inr x, σ') → x ∈ S)
    (hk : ∀ (st : List Value) (σ : XS) (x : Nat) (σ' : XS), k st σ = some (.inr x, σ') → x ∈ S) (h : xcall C hd J y ls st σ k = some (.inr x, σ')) : x ∈ S := by
  unfold xcall at h
  split at h
  · cases h
  · split at h
    · split at h
      · cases h
      · split at h
        · exact hk _ _ _ _ h
        · cases h
      · rename_i hc
        split at h
        · split at h
          · exact hJ _ _ _ _ _ _ h
          · cases h
        · split at h
          · cases h; exact hC _ _ _ _ hc
          · cases h
    · cases h
theorem xblk_ex {y : Nat} {K : XK} {rt : Nat} {hd : List (Nat × Nat × Nat)} {J : Nat → XL → List Value → XS → XO} {C : Nat → List Value → XS → XO}
    (hJ : ∀ (L : Nat) (ls : XL) (st : List Value) (σ : XS) (x : Nat) (σ' : XS), J L ls st σ = some (.inr x, σ') → x ∈ exo y) (hC : ∀ (z : Nat) (args : List Value) (σ : XS) (x : Nat) (σ' : XS), C z args σ = some (.inr x, σ') → x ∈ exo z) :
    ∀ (is : List Instr) (ls : XL) (st : List Value) (σ : XS) (x : Nat) (σ' : XS), is.all (exI y) = true → xblk K rt hd J C is ls st σ = some (.inr x, σ') → x ∈ exo y := by
  intro is
  induction is with
  | nil => intro ls st σ x σ' _ h; cases h
  | cons i is ih =>
    intro ls st σ x σ' ha h
    rw [List.all_cons, Bool.and_eq_true] at ha
    obtain ⟨ha1, ha⟩ := ha
    have sub : ∀ z, ((exo z).all fun E => (exo y).contains E) = true → ∀ (args : List Value) (σ : XS) (x : Nat) (σ' : XS), C z args σ = some (.inr x, σ') → x ∈ exo y := fun z hz args σ x σ' hc => by
      have := List.all_eq_true.mp hz x (hC _ _ _ _ _ hc)
      exact List.contains_iff_mem.mp this
    unfold xblk at h
    split at h
    · exact hJ _ _ _ _ _ _ h
    · exact hJ _ _ _ _ _ _ h
    · split at h
      · rcases xbr_ex h with h | h
        · exact hJ _ _ _ _ _ _ h
        · exact ih _ _ _ _ _ ha h
      · cases h
    · split at h
      · rcases xbr_ex h with h | h
        · exact hJ _ _ _ _ _ _ h
        · exact ih _ _ _ _ _ ha h
      · cases h
    · split at h
      · exact ih _ _ _ _ _ ha h
      · cases h
    · split at h
      · split at h
        · split at h
          · exact hJ _ _ _ _ _ _ h
          · cases h
        · exact hJ _ _ _ _ _ _ h
      · cases h
    · split at h
      · split at h
        · exact hJ _ _ _ _ _ _ h
        · exact hJ _ _ _ _ _ _ h
      · cases h
    · split at h
      · split at h
        · cases h
        · cases h
      · cases h
    · split at h
      · split at h
        · cases h
        · cases h
      · cases h
    · split at h
      · split at h
        · cases h
        · cases h
      · cases h
    · split at h
      · split at h
        · cases h
        · cases h
      · cases h
    · split at h
      · split at h
        · cases h
        · cases h
      · cases h
    · split at h
      · split at h
        · cases h
        · cases h
      · cases h
    · split at h
      · split at h
        · cases h; exact List.contains_iff_mem.mp ha1
        · cases h
      · cases h
    · exact xcall_ex hJ (sub _ ha1) (fun st σ x σ' h => ih _ _ _ _ _ ha h) h
    · exact xcall_ex hJ (sub _ ha1) (fun st σ x σ' h => ih _ _ _ _ _ ha h) h
    · exact xcall_ex hJ (sub _ ha1) (fun st σ x σ' h => ih _ _ _ _ _ ha h) h
    · split at h
      · exact ih _ _ _ _ _ ha h
      · cases h
theorem xrun_ex {K : XK} : ∀ (n d y L : Nat) (ls : XL) (st : List Value) (σ : XS) (x : Nat) (σ' : XS), xrun K n d y L ls st σ = some (.inr x, σ') → x ∈ exo y := by
  intro n
  induction n generalizing K with
  | zero => intro d y L ls st σ x σ' h; cases h
  | succ n ih =>
    intro d y L ls st σ x σ' h
    unfold xrun at h
    split at h
    · cases h
    · rename_i hm
      split at h
      · cases h
      · rename_i hb
        refine xblk_ex (fun L ls st σ x σ' h => ih _ _ _ _ _ _ _ _ h) (fun z args σ x σ' h => ?_) _ _ _ _ _ _ (ex_blk hm hb) h
        split at h
        · cases h
        · exact ih _ _ _ _ _ _ _ _ h
/-- what a call comes to, with the exceptions it can throw -/
theorem V_run {D y : Nat} {args : List AV} {m : XM} {Q : Value → XM → Prop} {E : Nat → XM → Prop} (h : V D y args m Q E) (hw : wtS args) :
    ∃ (n : Nat) (r : XR) (m' : XM), (∀ (e : Nat) (w : Nat → Value), xrun xK0 n D y 0 (lv_args 0 (cvS args)) [] (S0, e, w, m) = some (r, S0, e + exn r, w, m')) ∧ (match r with
      | .inl v => vrt (rtOf y) v ∧ Q (v.getD .null) m'
      | .inr x => x ∈ exo y ∧ E x m') := by
  obtain ⟨n, r, m', h1, h2⟩ := h hw (vargs_wt hw 0) (fun q hq => by cases hq)
  refine ⟨n, r, m', fun e w => ?_, ?_⟩
  · rw [vargs_cv]; exact h1 e w
  · cases r with
    | inl v => exact h2
    | inr x => exact ⟨xrun_ex _ _ _ _ _ _ _ _ _ (h1 0 (fun _ => .null)), h2⟩
/-- two things that are known of one call -/
theorem V_and {D y : Nat} {args : List AV} {m : XM} {Q Q' : Value → XM → Prop} {E E' : Nat → XM → Prop} (h : V D y args m Q E) (h' : V D y args m Q' E') : V D y args m (fun v m' => Q v m' ∧ Q' v m') (fun x m' => E x m' ∧ E' x m') := by
  intro hw hl hs
  obtain ⟨n, r, m1, h1, h2⟩ := h hw hl hs
  obtain ⟨n', r', m1', h1', h2'⟩ := h' hw hl hs
  have e1 := xrun_le' (Nat.le_max_left n n') (h1 0 (fun _ => .null))
  have e2 := xrun_le' (Nat.le_max_right n n') (h1' 0 (fun _ => .null))
  rw [e1] at e2
  have e3 := Option.some.inj e2
  have er : r = r' := congrArg Prod.fst e3
  have em : m1 = m1' := congrArg (fun z => z.2.2.2.2) e3
  subst er em
  refine ⟨n, r, m1, h1, ?_⟩
  cases r with
  | inl v => exact ⟨h2.1, h2.2, h2'.2⟩
  | inr x => exact ⟨h2, h2'⟩
/-- more depth does no harm -/
theorem V_deep {D D' y : Nat} {args : List AV} {m : XM} {Q : Value → XM → Prop} {E : Nat → XM → Prop} (hD : D ≤ D') (h : V D y args m Q E) : V D' y args m Q E := by
  intro hw hl hs
  obtain ⟨n, r, m1, h1, h2⟩ := h hw hl hs
  exact ⟨n + 1, r, m1, fun e w => xrun_le hD (Nat.lt_succ_self n) (h1 e w), h2⟩
