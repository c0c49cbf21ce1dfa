/-! The law's start: what the constructors make. -/
def cm0 : XM := fun _ _ => 0
def cw0 : Nat → Value := fun _ => .null
def cS1 : List XC := [(10, 8, List.replicate 8 none)]
def ctA : XO := xrun xK0 400 39 90 0 (lv_args 0 [.ref 0]) [] (cS1, 0, cw0, uz cm0 0)
def cS2 : List XC := S0.take 283
def cS3 : List XC := cS2 ++ [(11, 22, List.replicate 22 none)]
def cS4 : List XC := S0.take 293
def ctB (σ : XS) : XO := xrun xK0 400 39 173 0 (lv_args 0 [.ref 283]) [] (cS3, 0, σ.2.2.1, uz σ.2.2.2 283)
def celC (m : XM) : Bool := (m 0 7 == n32 0) && ((m 283 6 == n32 0) && ((m 74 0 == n32 0) && ((m 74 1 == n32 0) && ((m 283 7 == n32 0) && ((m 77 0 == n32 0) && ((m 77 1 == n32 0) && ((m 288 0 == n32 0) && ((m 288 1 == n32 0) && ((m 2 1 == n32 0) && ((m 283 9 == n32 0) && ((m 1 3 == n32 0) && ((m 283 10 == n32 0) && ((m 1 4 == -(n32 1)) && ((m 283 11 == -(n32 1)) && ((m 281 0 == n32 0) && (m 283 21 == n32 0))))))))))))))))
def ctC : Bool := match ctA with
  | some (.inl none, σ) => decide (σ.1 = cS2) && (σ.2.1 == 0) && (match ctB σ with
    | some (.inl none, τ) => decide (τ.1 = cS4) && (τ.2.1 == 0) && celC τ.2.2.2
    | _ => false)
  | _ => false
theorem ctC_ok : ctC = true := by decide +kernel
theorem cel_CPL {m : XM} (h : celC m = true) : CPL m 0 := by
  unfold celC at h
  simp only [Bool.and_eq_true, beq_iff_eq] at h
  obtain ⟨a1, a2, a3, a4, a5, a6, a7, a8, a9, b1, b2, b3, b4, b5, b6, b7, b8⟩ := h
  refine ⟨⟨by rw [a1, a2], Or.inl a1⟩, fun c => absurd (c.symm.trans a1) n01, ⟨0, 0, a3, by omega, a4, by omega, a5, fun _ => rfl, fun j hj => absurd hj (Nat.not_lt_zero j)⟩, ?_, ⟨0, by omega, b1, b2, fun i hi => absurd hi (Nat.not_lt_zero i)⟩, ⟨by rw [b3, b4], by rw [b5, b6]⟩, 0, by omega, b7, b8, fun i hi => absurd hi (Nat.not_lt_zero i)⟩
  intro s hs
  have : s = 0 ∨ s = 1 := by omega
  rcases this with rfl | rfl
  · exact ⟨by rw [a6, a8], Or.inl a6⟩
  · exact ⟨by rw [a7, a9], Or.inl a7⟩
theorem ct_get : ∃ w1 m1 w2 m2, ctA = some (.inl none, cS2, 0, w1, m1) ∧ xrun xK0 400 39 173 0 (lv_args 0 [.ref 283]) [] (cS3, 0, w1, uz m1 283) = some (.inl none, cS4, 0, w2, m2) ∧ celC m2 = true := by
  have h := ctC_ok
  unfold ctC at h
  split at h
  · rename_i σ hA
    rw [Bool.and_eq_true, Bool.and_eq_true, decide_eq_true_eq, beq_iff_eq] at h
    obtain ⟨⟨h1, h2⟩, h3⟩ := h
    split at h3
    · rename_i τ hB
      rw [Bool.and_eq_true, Bool.and_eq_true, decide_eq_true_eq, beq_iff_eq] at h3
      obtain ⟨⟨h4, h5⟩, h6⟩ := h3
      obtain ⟨S, e, w1, m1⟩ := σ
      obtain ⟨S', e', w2, m2⟩ := τ
      dsimp only at h1 h2 h4 h5 h6
      subst h1 h2 h4 h5
      exact ⟨w1, m1, w2, m2, hA, hB, h6⟩
    · cases h3
  · cases h
theorem xcall_nw {C : Nat → List Value → XS → XO} {hd : List (Nat × Nat × Nat)} {J : Nat → XL → List Value → XS → XO} {y na ml rc rt : Nat} {hd' : List (Nat × Nat × Nat)} {bs : List XB} {as st : List Value} {k : List Value → XS → XO} {S S' : List XC} {e e' : Nat} {w w' : Nat → Value} {m m' : XM} {ls : XL}
    (hm : xmt y = some (na, ml, rc, rt, hd', bs)) (hna : na = as.length) (hrc : xrecv rc S as = true) (h8 : xcat st ≤ 8) (hml : xcat as ≤ ml) (hc : C y as (S, e, w, m) = some (.inl none, S', e', w', m')) (ho : ls.all (fun q => xok S.length q.2) = true ∧ st.all (xok S.length) = true) :
    xcall C hd J y ls (as.reverse ++ st) (S, e, w, m) k = k st (S', e', w', m') := by
  subst hna
  unfold xcall
  rw [hm]
  dsimp only
  have e1 : (as.reverse ++ st).take as.length = as.reverse := by
    rw [List.take_append_of_le_length (by rw [List.length_reverse]; exact Nat.le_refl _), List.take_of_length_le (by rw [List.length_reverse]; exact Nat.le_refl _)]
  have e2 : (as.reverse ++ st).drop as.length = st := by
    rw [List.drop_append_of_le_length (by rw [List.length_reverse]; exact Nat.le_refl _), List.drop_of_length_le (by rw [List.length_reverse]; exact Nat.le_refl _), List.nil_append]
  rw [e1, e2, List.reverse_reverse, if_pos ⟨by rw [List.length_append, List.length_reverse]; omega, hrc, h8, hml⟩, hc]
  dsimp only
  rw [if_pos (Or.inr ho)]
  rfl
theorem xblk_ip {K : XK} {rt : Nat} {hd : List (Nat × Nat × Nat)} {J : Nat → XL → List Value → XS → XO} {C : Nat → List Value → XS → XO} {is : List Instr} {ls : XL} {st : List Value} {y : Nat} {σ : XS} : xblk K rt hd J C (.invokespecial y :: is) ls st σ = xcall C hd J y ls st σ (fun st' σ' => xblk K rt hd J C is ls st' σ') := by rw [xblk]
theorem b0 : xM382.2.2.2.2.2[0]? = some ([0], [.new 10, .dup] ++ .invokespecial 90 :: ([.astore 1, .new 11, .dup] ++ .invokespecial 173 :: ([.astore 2, .iconst 1, .newarray .long, .astore 3, .iconst 1, .newarray .double, .astore 4, .iconst 0, .istore 5] ++ [.goto_w 1]))) := rfl
theorem fr0 : xfresh [] [(0, .ref 1000000)] [] = true := by decide +kernel
theorem fr2 : xfresh cS2 [(1, .ref 0), (0, .ref 1000000)] [] = true := by decide +kernel
theorem fr4 : xfresh cS4 [(2, .ref 283), (1, .ref 0), (0, .ref 1000000)] [] = true := by decide +kernel
theorem fr5 : xfresh (cS4 ++ [(23, 1, [])]) [(3, .ref 293), (2, .ref 283), (1, .ref 0), (0, .ref 1000000)] [] = true := by decide +kernel
theorem len2 : cS2.length = 283 := by decide +kernel
theorem len4 : cS4.length = 293 := by decide +kernel
theorem len5 : (cS4 ++ [((23, 1, []) : XC)]).length = 294 := by rw [List.length_append, len4]; rfl
theorem cS0 : cS4 ++ [(23, 1, [])] ++ [(24, 1, [])] = S0 := by decide +kernel
theorem km90 : xmt 90 = some (1, xM90.2.1, 10, 0, [], xM90.2.2.2.2.2) := xmt_at (q := 4) (r := 10) rfl rfl
theorem km173 : xmt 173 = some (1, xM173.2.1, 11, 0, [], xM173.2.2.2.2.2) := xmt_at (q := 8) (r := 13) rfl rfl
theorem rc283 : xrecv 11 cS3 [.ref 283] = true := by decide +kernel
