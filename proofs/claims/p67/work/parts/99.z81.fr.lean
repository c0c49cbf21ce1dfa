/-! A run that makes no cell is the same run where there are more cells, whatever the script. -/
def mx (N : Nat) (m m1 : XM) : XM := fun a => if a < N then m a else m1 a
abbrev xtn (N : Nat) (T : List XC) (m1 : XM) (σ : XS) : XS := (σ.1 ++ T, σ.2.1, σ.2.2.1, mx N σ.2.2.2 m1)
theorem mx_um {N : Nat} {m m1 : XM} {a k : Nat} {v : Int32} (h : a < N) : um (mx N m m1) a k v = mx N (um m a k v) m1 := by
  funext a' k'
  unfold um mx
  by_cases h1 : a' < N
  · rw [if_pos h1, if_pos h1]
  · rw [if_neg h1, if_neg h1, if_neg (fun q : a' = a ∧ k' = k => h1 (by rw [q.1]; exact h))]
theorem mx_ucp {N : Nat} {m m1 : XM} {b j n i : Nat} {f : Nat → Int32} (h : b < N) : ucp (mx N m m1) b j n f i = mx N (ucp m b j n f i) m1 := by
  funext a' k'
  unfold ucp mx
  by_cases h1 : a' < N
  · rw [if_pos h1, if_pos h1]
  · rw [if_neg h1, if_neg h1, if_neg (fun q : a' = b ∧ j ≤ k' ∧ k' < j + n => h1 (by rw [q.1]; exact h))]
theorem mx_at {N : Nat} {m m1 : XM} {a : Nat} (h : a < N) : mx N m m1 a = m a := by unfold mx; rw [if_pos h]
theorem ap_in {S T : List XC} {a : Nat} {x : XC} (h : S[a]? = some x) : (S ++ T)[a]? = some x := by
  rw [List.getElem?_append_left (List.getElem?_eq_some_iff.mp h).1]; exact h
theorem ap_lt {S : List XC} {a : Nat} {x : XC} (h : S[a]? = some x) : a < S.length := (List.getElem?_eq_some_iff.mp h).1
theorem ap_far {S T : List XC} {a : Nat} (h : S.length + T.length ≤ 1000000) (ha : 1000000 ≤ a) : (S ++ T)[a]? = none := by
  rw [List.getElem?_eq_none]; rw [List.length_append]; omega
theorem ap_set {S T : List XC} {a : Nat} {x y : XC} (h : S[a]? = some x) : (S ++ T).set a y = S.set a y ++ T := by
  rw [List.set_append_left _ _ (ap_lt h)]
theorem xci_far {K : XK} {a : Nat} {z : XK} (h : xci xK0 a = some z) : 1000000 ≤ a ∧ xci K a = some z := by
  unfold xci at h ⊢
  by_cases h0 : a = 1000000
  · rw [if_pos h0, if_pos (show xK0.1 = 0 from rfl)] at h; cases h
  · rw [if_neg h0] at h ⊢
    by_cases h1 : a = 1000001
    · exact ⟨by omega, h⟩
    · by_cases h2 : a = 1000002
      · exact ⟨by omega, h⟩
      · rw [if_neg h1, if_neg h2] at h; cases h
theorem xcb_far {a : Nat} {z : XK} (h : xcb a = some z) : 1000040 ≤ a := by
  unfold xcb at h
  by_cases h1 : 1000040 ≤ a
  · exact h1
  · rw [if_neg h1] at h; cases h
theorem xci_no {K : XK} {a : Nat} (h : 1000040 ≤ a) : xci K a = none := by
  unfold xci
  rw [if_neg (by omega), if_neg (by omega), if_neg (by omega)]
section FR
variable {K : XK} {N : Nat} {T : List XC} {m1 : XM}
theorem xget_fr {S : List XC} {m : XM} {f a : Nat} {v : Value} (hN : S.length = N) (hT : N + T.length ≤ 1000000) (h : xget S m f a = some v) : xget (S ++ T) (mx N m m1) f a = some v := by
  unfold xget at h ⊢
  cases hS : S[a]? with
  | some x =>
    have ha := ap_lt hS
    obtain ⟨ci, n, rs⟩ := x
    rw [hS] at h
    rw [ap_in hS]
    dsimp only at h ⊢
    unfold xgetS at h ⊢
    rw [mx_at (by omega)]
    exact h
  | none =>
    rw [hS] at h
    dsimp only at h
    have ha : 1000000 ≤ a := by
      by_cases q : 1000010 ≤ a ∧ a < 1000028
      · omega
      · rw [if_neg q] at h; cases h
    rw [ap_far (by omega) ha]
    exact h
theorem xsrc_fr {S : List XC} {m : XM} {a : Nat} {z : Nat × Nat × (Nat → Int32)} (hN : S.length = N) (hT : N + T.length ≤ 1000000) (h : xsrc S m a = some z) : xsrc (S ++ T) (mx N m m1) a = some z := by
  unfold xsrc at h ⊢
  cases hS : S[a]? with
  | some x =>
    have ha := ap_lt hS
    obtain ⟨ci, n, rs⟩ := x
    rw [hS] at h
    rw [ap_in hS]
    dsimp only at h ⊢
    rw [mx_at (by omega)]
    exact h
  | none =>
    rw [hS] at h
    dsimp only at h
    cases hc : xcb a with
    | none => rw [hc] at h; cases h
    | some q =>
      rw [ap_far (by omega) (by have := xcb_far hc; omega)]
      rw [hc] at h
      exact h
theorem xrecv_fr {rc : Nat} {S : List XC} {vs : List Value} (hT : S.length + T.length ≤ 1000000) (h : xrecv rc S vs = true) : xrecv rc (S ++ T) vs = true := by
  cases vs with
  | nil => exact h
  | cons v t =>
    cases v with
    | ref a =>
      unfold xrecv at h ⊢
      dsimp only at h ⊢
      by_cases h9 : rc = 99
      · rw [if_pos h9]
      · rw [if_neg h9] at h ⊢
        cases hS : S[a]? with
        | some x => rw [hS] at h; rw [ap_in hS]; exact h
        | none =>
          rw [hS] at h
          dsimp only at h
          have ha : 1000000 ≤ a := by
            simp only [Bool.or_eq_true, Bool.and_eq_true, decide_eq_true_eq, beq_iff_eq] at h
            rcases h with ⟨⟨-, h1⟩, -⟩ | ⟨-, h1⟩
            · exact Nat.le_trans (by decide) h1
            · rw [h1]; decide
          rw [ap_far hT ha]
          exact h
    | _ => exact h
set_option maxHeartbeats 4000000 in
theorem xone_fr {i : Instr} {ls ls' : XL} {st st' : List Value} {σ σ' : XS} (hN : σ.1.length = N) (hT : N + T.length ≤ 1000000) (h : xone xK0 i ls st σ = some (ls', st', σ')) (hN' : σ'.1.length = N) : xone K i ls st (xtn N T m1 σ) = some (ls', st', xtn N T m1 σ') := by
  obtain ⟨S, e, w, m⟩ := σ
  have hN0 : S.length = N := hN
  show xone K i ls st (S ++ T, e, w, mx N m m1) = some (ls', st', xtn N T m1 σ')
  cases i
  case getfield f =>
    unfold xone at h ⊢
    dsimp only at h ⊢
    split at h
    · rename_i a r
      split at h
      · rename_i v hv
        cases h
        rw [xget_fr hN0 hT hv]
      · cases h
    · cases h
  case putfield f =>
    unfold xone at h ⊢
    dsimp only at h ⊢
    split at h
    · rename_i v a r
      split at h
      · rename_i ci n rs hS
        have ha := ap_lt hS
        try dsimp only
        rw [ap_in hS]
        try dsimp only
        split at h
        · rename_i hc
          cases h
          rw [if_pos hc, mx_um (by omega)]
        · rename_i hc
          rw [if_neg hc]
          unfold xputI at h ⊢
          split at h
          · rename_i hc2
            split at hc2
            · rename_i hc3
              cases h; cases hc2
              rw [if_pos hc3, mx_um (by omega)]
            · cases hc2
          · cases h
      · cases h
    · rename_i v a r
      split at h
      · rename_i ci n rs hS
        have ha := ap_lt hS
        try dsimp only
        rw [ap_in hS]
        try dsimp only
        split at h
        · rename_i hc
          cases h
          obtain ⟨c1, c2, c3, c4, c5, c6⟩ := hc
          rw [if_pos ⟨c1, c2, c3, c4, c5, Or.imp_left (fun q => by rw [List.length_append]; exact Nat.lt_of_lt_of_le q (Nat.le_add_right _ _)) c6⟩, ap_set hS]
        · rename_i hc
          have hv9 : ∀ q : ci = 14 ∧ n = 4 ∧ f = 960 ∧ rs.length = n ∧ v < S.length, ¬ (ci = f / 32 ∧ ci < 15 ∧ f % 32 < n ∧ xref ci (f % 32) = true ∧ rs.length = n ∧ (v < (S ++ T).length ∨ (v = 1000003 ∧ ci = 13))) := fun q z => by
            obtain ⟨q1, q2, q3, q4, q5⟩ := q
            obtain ⟨z1, -⟩ := z
            omega
          split at h
          · rename_i S' hp
            unfold xputR at hp
            split at hp
            · rename_i hq
              cases h; cases hp
              rw [if_neg (hv9 hq)]
              unfold xputR
              obtain ⟨q1, q2, q3, q4, q5⟩ := hq
              rw [if_pos ⟨q1, q2, q3, q4, by rw [List.length_append]; omega⟩]
              try dsimp only
              rw [ap_set hS]
            · cases hp
          · cases h
      · cases h
    · cases h
  case iaload =>
    unfold xone at h ⊢
    dsimp only at h ⊢
    split at h
    · rename_i i a r
      split at h
      · rename_i ci n rs hS
        have ha := ap_lt hS
        try dsimp only
        rw [ap_in hS]
        try dsimp only
        rw [mx_at (by omega)]
        split at h
        · rename_i hc; cases h; rw [if_pos hc]
        · cases h
      · rename_i hS
        split at h
        · rename_i n f hK
          obtain ⟨k1, k2⟩ := xci_far (K := K) hK
          split at h
          · rename_i hc
            cases h
            try dsimp only
            rw [ap_far (by omega) k1]
            try dsimp only
            rw [k2]
            try dsimp only
            rw [if_pos hc]
          · cases h
        · cases h
    · cases h
  case iastore =>
    unfold xone at h ⊢
    dsimp only at h ⊢
    split at h
    · rename_i v i a r
      split at h
      · rename_i ci n rs hS
        have ha := ap_lt hS
        try dsimp only
        rw [ap_in hS]
        try dsimp only
        split at h
        · rename_i hc; cases h; rw [if_pos hc, mx_um (by omega)]
        · cases h
      · cases h
    · cases h
  case baload =>
    unfold xone at h ⊢
    dsimp only at h ⊢
    split at h
    · rename_i i a r
      split at h
      · rename_i ci n rs hS
        have ha := ap_lt hS
        try dsimp only
        rw [ap_in hS]
        try dsimp only
        rw [mx_at (by omega)]
        split at h
        · rename_i hc; cases h; rw [if_pos hc]
        · cases h
      · rename_i hS
        split at h
        · rename_i n f hK
          have k1 := xcb_far hK
          split at h
          · rename_i hc
            cases h
            try dsimp only
            rw [ap_far (by omega) (by omega)]
            try dsimp only
            try rw [hK]
            try dsimp only
            rw [if_pos hc]
          · cases h
        · cases h
    · cases h
  case bastore =>
    unfold xone at h ⊢
    dsimp only at h ⊢
    split at h
    · rename_i v i a r
      split at h
      · rename_i ci n rs hS
        have ha := ap_lt hS
        try dsimp only
        rw [ap_in hS]
        try dsimp only
        split at h
        · rename_i hc; cases h; rw [if_pos hc, mx_um (by omega)]
        · rename_i hc0
          split at h
          · rename_i hc; cases h; rw [if_neg hc0, if_pos hc, mx_um (by omega)]
          · cases h
      · cases h
    · cases h
  case aaload =>
    unfold xone at h ⊢
    dsimp only at h ⊢
    split at h
    · rename_i i a r
      split at h
      · rename_i ci n rs hS
        try dsimp only
        rw [ap_in hS]
        try dsimp only
        split at h
        · rename_i hc
          rw [if_pos hc]
          split at h
          · rename_i b hb; cases h; first | rfl | rw [hb]
          · cases h
        · cases h
      · cases h
    · cases h
  case aastore =>
    unfold xone at h ⊢
    dsimp only at h ⊢
    split at h
    · rename_i v i a r
      split at h
      · rename_i ci n rs hS
        try dsimp only
        rw [ap_in hS]
        try dsimp only
        split at h
        · rename_i cv nv rv hV
          rw [ap_in hV]
          try dsimp only
          split at h
          · rename_i hc
            cases h
            rw [if_pos hc, ap_set hS]
          · cases h
        · cases h
      · cases h
    · cases h
  case laload =>
    unfold xone at h ⊢
    dsimp only at h ⊢
    split at h
    · split at h
      · rename_i hS
        try dsimp only
        rw [ap_in hS]
        try dsimp only
        split at h
        · rename_i hc; cases h; rw [if_pos hc]
        · cases h
      · cases h
    · cases h
  case lastore =>
    unfold xone at h ⊢
    dsimp only at h ⊢
    split at h
    · split at h
      · rename_i hS
        try dsimp only
        rw [ap_in hS]
        try dsimp only
        split at h
        · rename_i hc; cases h; rw [if_pos hc]
        · cases h
      · cases h
    · cases h
  case daload =>
    unfold xone at h ⊢
    dsimp only at h ⊢
    split at h
    · split at h
      · rename_i hS
        try dsimp only
        rw [ap_in hS]
        try dsimp only
        split at h
        · rename_i hc; cases h; rw [if_pos hc]
        · cases h
      · cases h
    · cases h
  case dastore =>
    unfold xone at h ⊢
    dsimp only at h ⊢
    split at h
    · split at h
      · rename_i hS
        try dsimp only
        rw [ap_in hS]
        try dsimp only
        split at h
        · rename_i hc; cases h; rw [if_pos hc]
        · cases h
      · cases h
    · cases h
  case arraylength =>
    unfold xone at h ⊢
    dsimp only at h ⊢
    split at h
    · rename_i a r
      split at h
      · rename_i ci n rs hS
        try dsimp only
        rw [ap_in hS]
        try dsimp only
        split at h
        · rename_i hc; cases h; rw [if_pos hc]
        · cases h
      · rename_i hS
        split at h
        · rename_i n f hK
          obtain ⟨k1, k2⟩ := xci_far (K := K) hK
          cases h
          try dsimp only
          rw [ap_far (by omega) k1]
          try dsimp only
          rw [k2]
        · rename_i hK
          split at h
          · rename_i n f hB
            have k1 := xcb_far hB
            cases h
            try dsimp only
            rw [ap_far (by omega) (by omega)]
            try dsimp only
            rw [xci_no k1]
            try dsimp only
            try rw [hB]
          · cases h
    · cases h
  case new c =>
    unfold xone at h
    dsimp only at h
    split at h
    · cases h
      dsimp only at hN'
      rw [List.length_append] at hN'
      simp only [List.length_cons, List.length_nil] at hN'
      omega
    · cases h
  case newarray t =>
    unfold xone at h
    dsimp only at h
    split at h
    · split at h
      · split at h
        · split at h
          · cases h
            dsimp only at hN'
            rw [List.length_append] at hN'
            simp only [List.length_cons, List.length_nil] at hN'
            omega
          · cases h
        · split at h
          · cases h
          · cases h
            dsimp only at hN'
            rw [List.length_append] at hN'
            simp only [List.length_cons, List.length_nil] at hN'
            omega
      · cases h
    · cases h
  case anewarray c =>
    unfold xone at h
    dsimp only at h
    split at h
    · split at h
      · cases h
        dsimp only at hN'
        rw [List.length_append] at hN'
        simp only [List.length_cons, List.length_nil] at hN'
        omega
      · cases h
    · cases h
  case lneg =>
    unfold xone at h
    dsimp only at h
    split at h
    · split at h
      · split at h
        · cases h
          dsimp only at hN'
          rw [List.length_append] at hN'
          simp only [List.length_cons, List.length_nil] at hN'
          omega
        · cases h
      · cases h
    · cases h
  case lrem =>
    unfold xone at h ⊢
    dsimp only at h ⊢
    split at h
    · rename_i n j b i a r
      split at h
      · rename_i ca na f hs
        split at h
        · rename_i cb nb rb hB
          have hb := ap_lt hB
          split at h
          · rename_i hc
            cases h
            try dsimp only
            rw [xsrc_fr hN0 hT hs]
            try dsimp only
            rw [ap_in hB]
            try dsimp only
            rw [if_pos hc, mx_ucp (by omega)]
          · cases h
        · cases h
      · cases h
    · cases h
  case ldiv =>
    unfold xone at h ⊢
    dsimp only at h ⊢
    split at h
    · rename_i off a u r
      split at h
      · rename_i ci n rs hS
        have ha := ap_lt hS
        try dsimp only
        rw [ap_in hS]
        try dsimp only
        rw [mx_at (by omega)]
        split at h
        · rename_i hc; cases h; rw [if_pos hc]
        · cases h
      · cases h
    · cases h
  case monitorenter =>
    unfold xone at h ⊢
    dsimp only at h ⊢
    split at h
    · split at h
      · rename_i hS
        try dsimp only
        rw [ap_in hS]
        try dsimp only
        split at h
        · rename_i hc; cases h; rw [if_pos hc]
        · cases h
      · cases h
    · cases h
  case getstatic g =>
    unfold xone at h ⊢
    dsimp only at h ⊢
    iterate 12 (rcases Nat.decEq g _ with q | q; rotate_left; (rw [if_pos q] at h ⊢; cases h; rfl); rw [if_neg q] at h ⊢)
    cases h
  all_goals
    (unfold xone at h ⊢; dsimp only at h ⊢) <;> (try cases h) <;> (try rfl) <;> (repeat' split at h) <;> (try cases h) <;> (try rfl) <;> (try (simp_all; done))
theorem xbr_fr {c : ClassFile.Cond} {a b : Int32} {t f t' f' : XO} {z z' : XR × XS} (ht : t = some z → t' = some z') (hf : f = some z → f' = some z') (h : xbr c a b t f = some z) : xbr c a b t' f' = some z' := by
  unfold xbr at h ⊢
  cases c <;> dsimp only at h ⊢ <;> split at h <;> rename_i hc <;> first
    | (rw [if_pos hc]; first | exact ht h | exact hf h)
    | (rw [if_neg hc]; first | exact ht h | exact hf h)
theorem xcall_fr {C C' : Nat → List Value → XS → XO} {hd : List (Nat × Nat × Nat)} {J J' : Nat → XL → List Value → XS → XO} {y : Nat} {ls : XL} {st : List Value} {σ σ' : XS} {r : XR} {k k' : List Value → XS → XO} (hT : N + T.length ≤ 1000000) (hN : σ.1.length = N) (hN' : σ'.1.length = N)
    (mJ : ∀ (L : Nat) (ls : XL) (st : List Value) (σ : XS) (r : XR) (σ' : XS), J L ls st σ = some (r, σ') → xle σ σ') (mC : ∀ (y : Nat) (args : List Value) (σ : XS) (r : XR) (σ' : XS), C y args σ = some (r, σ') → xle σ σ') (mk : ∀ (st : List Value) (σ : XS) (r : XR) (σ' : XS), k st σ = some (r, σ') → xle σ σ')
    (hJ : ∀ (L : Nat) (ls : XL) (st : List Value) (σ : XS) (r : XR) (σ' : XS), σ.1.length = N → σ'.1.length = N → J L ls st σ = some (r, σ') → J' L ls st (xtn N T m1 σ) = some (r, xtn N T m1 σ'))
    (hC : ∀ (y : Nat) (args : List Value) (σ : XS) (r : XR) (σ' : XS), σ.1.length = N → σ'.1.length = N → C y args σ = some (r, σ') → C' y args (xtn N T m1 σ) = some (r, xtn N T m1 σ'))
    (hk : ∀ (st : List Value) (σ : XS) (r : XR) (σ' : XS), σ.1.length = N → σ'.1.length = N → k st σ = some (r, σ') → k' st (xtn N T m1 σ) = some (r, xtn N T m1 σ')) (h : xcall C hd J y ls st σ k = some (r, σ')) : xcall C' hd J' y ls st (xtn N T m1 σ) k' = some (r, xtn N T m1 σ') := by
  unfold xcall at h ⊢
  split at h
  · cases h
  · rename_i na ml rc a4 a5 a6 hm
    try rw [hm]
    try dsimp only
    split at h
    · rename_i hc
      obtain ⟨c1, c2, c3, c4⟩ := hc
      rw [if_pos ⟨c1, xrecv_fr (by omega) c2, c3, c4⟩]
      split at h
      · cases h
      · rename_i v σ1 hq
        split at h
        · have l1 := (mC _ _ _ _ _ hq).1
          have l2 := (mk _ _ _ _ h).1
          have e1 : σ1.1.length = N := by omega
          rw [hC _ _ _ _ _ hN e1 hq]
          dsimp only
          rw [if_pos (Or.inl (by rw [List.length_append, List.length_append]; omega))]
          exact hk _ _ _ _ e1 hN' h
        · cases h
      · rename_i E σ1 hq
        split at h
        · rename_i x L xx hf
          split at h
          · rename_i h9
            have e1 : σ1.1.length = N := by omega
            rw [hC _ _ _ _ _ hN e1 hq]
            dsimp only
            rw [hf]
            dsimp only
            rw [if_pos (by rw [List.length_append, List.length_append]; omega)]
            exact hJ _ _ _ _ _ _ e1 hN' h
          · cases h
        · rename_i hf
          split at h
          · rename_i h9
            cases h
            rw [hC _ _ _ _ _ hN hN' hq]
            dsimp only
            rw [hf]
            dsimp only
            rw [if_pos h9]
          · cases h
    · cases h
set_option maxHeartbeats 4000000 in
theorem xblk_fr {rt : Nat} {hd : List (Nat × Nat × Nat)} {J J' : Nat → XL → List Value → XS → XO} {C C' : Nat → List Value → XS → XO} (hT : N + T.length ≤ 1000000)
    (mJ : ∀ (L : Nat) (ls : XL) (st : List Value) (σ : XS) (r : XR) (σ' : XS), J L ls st σ = some (r, σ') → xle σ σ') (mC : ∀ (y : Nat) (args : List Value) (σ : XS) (r : XR) (σ' : XS), C y args σ = some (r, σ') → xle σ σ')
    (hJ : ∀ (L : Nat) (ls : XL) (st : List Value) (σ : XS) (r : XR) (σ' : XS), σ.1.length = N → σ'.1.length = N → J L ls st σ = some (r, σ') → J' L ls st (xtn N T m1 σ) = some (r, xtn N T m1 σ'))
    (hC : ∀ (y : Nat) (args : List Value) (σ : XS) (r : XR) (σ' : XS), σ.1.length = N → σ'.1.length = N → C y args σ = some (r, σ') → C' y args (xtn N T m1 σ) = some (r, xtn N T m1 σ')) :
    ∀ (is : List Instr) (ls : XL) (st : List Value) (σ : XS) (r : XR) (σ' : XS), σ.1.length = N → σ'.1.length = N → xblk xK0 rt hd J C is ls st σ = some (r, σ') → xblk K rt hd J' C' is ls st (xtn N T m1 σ) = some (r, xtn N T m1 σ') := by
  intro is
  induction is with
  | nil => intro ls st σ r σ' _ _ h; cases h
  | cons i is ih =>
    intro ls st σ r σ' hN hN' h
    cases hq : qnc i with
    | true =>
      rw [xblk_qnc hq] at h ⊢
      split at h
      · rename_i ls1 st1 σ1 h1
        have l1 := (xone_mono h1).1
        have l2 := (xblk_mono mJ mC _ _ _ _ _ _ h).1
        have e1 : σ1.1.length = N := by omega
        rw [xone_fr hN hT h1 e1]
        exact ih _ _ _ _ _ e1 hN' h
      · cases h
    | false =>
      cases i <;> (try (cases hq; done))
      case goto L => exact hJ _ _ _ _ _ _ hN hN' h
      case goto_w L => exact hJ _ _ _ _ _ _ hN hN' h
      case ifCond c L =>
        cases st with
        | nil => cases h
        | cons v s => cases v <;> first | (cases h; done) | exact xbr_fr (hJ _ _ _ _ _ _ hN hN') (ih _ _ _ _ _ hN hN') h
      case if_icmp c L =>
        cases st with
        | nil => cases h
        | cons v s => cases v <;> first | (cases h; done) | skip
                      cases s with
                      | nil => cases h
                      | cons u s => cases u <;> first | (cases h; done) | exact xbr_fr (hJ _ _ _ _ _ _ hN hN') (ih _ _ _ _ _ hN hN') h
      case ifnull L =>
        cases st with
        | nil => cases h
        | cons v s => cases v <;> first | (cases h; done) | exact ih _ _ _ _ _ hN hN' h
      case ifnonnull L =>
        cases st with
        | nil => cases h
        | cons v s => cases v <;> first | (cases h; done) | exact hJ _ _ _ _ _ _ hN hN' h
      case if_acmp eq L =>
        cases st with
        | nil => cases h
        | cons v s =>
          cases v <;> first | (cases h; done) | skip
          cases s with
          | nil => cases h
          | cons u s =>
            cases u <;> first | (cases h; done) | skip
            unfold xblk at h ⊢
            dsimp only at h ⊢
            split at h
            · rename_i hc
              obtain ⟨c1, c2, c3, c4⟩ := hc
              rw [if_pos ⟨Nat.lt_of_lt_of_le c1 (by rw [List.length_append]; exact Nat.le_add_right _ _), Nat.lt_of_lt_of_le c2 (by rw [List.length_append]; exact Nat.le_add_right _ _), c3, c4⟩]; exact hJ _ _ _ _ _ _ hN hN' h
            · cases h
      case tableswitch d lo hi offs =>
        cases st with
        | nil => cases h
        | cons v s =>
          cases v <;> first | (cases h; done) | skip
          unfold xblk at h ⊢
          dsimp only at h ⊢
          split at h
          · rename_i hc
            rw [if_pos hc]
            split at h
            · rename_i hL
              try rw [hL]
              exact hJ _ _ _ _ _ _ hN hN' h
            · cases h
          · rename_i hc
            rw [if_neg hc]; exact hJ _ _ _ _ _ _ hN hN' h
      case lookupswitch d ps =>
        cases st with
        | nil => cases h
        | cons v s =>
          cases v <;> first | (cases h; done) | skip
          unfold xblk at h ⊢
          dsimp only at h ⊢
          split at h
          · rename_i hL
            try rw [hL]
            exact hJ _ _ _ _ _ _ hN hN' h
          · rename_i hL
            try rw [hL]
            exact hJ _ _ _ _ _ _ hN hN' h
      case ireturn =>
        unfold xblk at h ⊢
        dsimp only at h ⊢
        (repeat' split at h) <;> first | (cases h; done) | (cases h; simp_all; done)
      case lreturn =>
        unfold xblk at h ⊢
        dsimp only at h ⊢
        (repeat' split at h) <;> first | (cases h; done) | (cases h; simp_all; done)
      case freturn =>
        unfold xblk at h ⊢
        dsimp only at h ⊢
        (repeat' split at h) <;> first | (cases h; done) | (cases h; simp_all; done)
      case dreturn =>
        unfold xblk at h ⊢
        dsimp only at h ⊢
        (repeat' split at h) <;> first | (cases h; done) | (cases h; simp_all; done)
      case areturn =>
        unfold xblk at h ⊢
        dsimp only at h ⊢
        (repeat' split at h) <;> first | (cases h; done) | (cases h; simp_all; done)
      case return_ =>
        unfold xblk at h ⊢
        dsimp only at h ⊢
        (repeat' split at h) <;> first | (cases h; done) | (cases h; simp_all; done)
      case checkcast E =>
        unfold xblk at h ⊢
        dsimp only at h ⊢
        (repeat' split at h) <;> first | (cases h; done) | (cases h; simp_all; done)
      case invokevirtual y =>
        rw [xblk] at h ⊢
        exact xcall_fr hT hN hN' mJ mC (fun st σ r σ' h => xblk_mono mJ mC _ _ _ _ _ _ h) hJ hC (fun st σ r σ' e1 e2 h => ih _ _ _ _ _ e1 e2 h) h
      case invokespecial y =>
        rw [xblk] at h ⊢
        exact xcall_fr hT hN hN' mJ mC (fun st σ r σ' h => xblk_mono mJ mC _ _ _ _ _ _ h) hJ hC (fun st σ r σ' e1 e2 h => ih _ _ _ _ _ e1 e2 h) h
      case invokestatic y =>
        rw [xblk] at h ⊢
        exact xcall_fr hT hN hN' mJ mC (fun st σ r σ' h => xblk_mono mJ mC _ _ _ _ _ _ h) hJ hC (fun st σ r σ' e1 e2 h => ih _ _ _ _ _ e1 e2 h) h
theorem xrun_fr (hT : N + T.length ≤ 1000000) : ∀ (n d y L : Nat) (ls : XL) (st : List Value) (σ : XS) (r : XR) (σ' : XS), σ.1.length = N → σ'.1.length = N → xrun xK0 n d y L ls st σ = some (r, σ') → xrun K n d y L ls st (xtn N T m1 σ) = some (r, xtn N T m1 σ') := by
  intro n
  induction n with
  | zero => intro d y L ls st σ r σ' _ _ h; cases h
  | succ n ih =>
    intro d y L ls st σ r σ' hN hN' h
    unfold xrun at h ⊢
    split at h
    · cases h
    · rename_i hm
      try rw [hm]
      try dsimp only
      split at h
      · cases h
      · rename_i hb
        try rw [hb]
        try dsimp only
        refine xblk_fr (J := fun L' ls' st' σ' => xrun xK0 n d y L' ls' st' σ') (J' := fun L' ls' st' σ' => xrun K n d y L' ls' st' σ') hT (fun L ls st σ r σ' h => xrun_mono _ _ _ _ _ _ _ _ _ h) ?_ (fun L ls st σ r σ' e1 e2 h => ih _ _ _ _ _ _ _ _ e1 e2 h) ?_ _ _ _ _ _ _ hN hN' h
        · intro y' as σ r σ' h
          cases d with
          | zero => cases h
          | succ d' => exact xrun_mono _ _ _ _ _ _ _ _ _ h
        · intro y' as σ r σ' e1 e2 h
          cases d with
          | zero => cases h
          | succ d' => exact ih _ _ _ _ _ _ _ _ e1 e2 h
end FR
