/-! The law at X: its loop, its wrappers. -/
theorem xm382 : xmt 382 = some (1, 9, 99, 2, [], xM382.2.2.2.2.2) := xmt_at (q := 19) (r := 2) rfl rfl
def xnc : Instr → Bool
  | .goto _ => false
  | .goto_w _ => false
  | .ifCond _ _ => false
  | .if_icmp _ _ => false
  | .ifnull _ => false
  | .tableswitch _ _ _ _ => false
  | .lookupswitch _ _ => false
  | .ireturn => false
  | .lreturn => false
  | .freturn => false
  | .dreturn => false
  | .areturn => false
  | .return_ => false
  | .checkcast _ => false
  | .invokevirtual _ => false
  | .invokespecial _ => false
  | .invokestatic _ => false
  | _ => true
theorem xblk_nc {K : XK} {rt : Nat} {hd : List (Nat × Nat × Nat)} {J : Nat → XL → List Value → XS → XO} {Cc : Nat → List Value → XS → XO} {i : Instr} {is : List Instr} {ls : XL} {st : List Value} {σ : XS} (h : xnc i = true) :
    xblk K rt hd J Cc (i :: is) ls st σ = match xone K i ls st σ with
      | some (ls', st', σ') => xblk K rt hd J Cc is ls' st' σ'
      | none => none := by
  cases i <;> first | rfl | (cases h)
/-- instructions that only go on, one after the other -/
def xseq (K : XK) : List Instr → XL → List Value → XS → Option (XL × List Value × XS)
  | [], ls, st, σ => some (ls, st, σ)
  | i :: t, ls, st, σ => match xnc i with
    | false => none
    | true => match xone K i ls st σ with
      | some (ls', st', σ') => xseq K t ls' st' σ'
      | none => none
theorem xblk_seq {K : XK} {rt : Nat} {hd : List (Nat × Nat × Nat)} {J : Nat → XL → List Value → XS → XO} {Cc : Nat → List Value → XS → XO} {is : List Instr} {z : XL × List Value × XS} : ∀ (l : List Instr) (ls : XL) (st : List Value) (σ : XS), xseq K l ls st σ = some z → xblk K rt hd J Cc (l ++ is) ls st σ = xblk K rt hd J Cc is z.1 z.2.1 z.2.2 := by
  intro l
  induction l with
  | nil => intro ls st σ h; cases h; rfl
  | cons i l ih =>
    intro ls st σ h
    unfold xseq at h
    split at h
    · cases h
    · rename_i hc
      split at h
      · rename_i h1
        rw [List.cons_append, xblk_nc hc, h1]
        exact ih _ _ _ h
      · cases h
def BX (K : XK) (D : Nat) (is : List Instr) (ls : XL) (st : List Value) (e : Nat) (w : Nat → Value) (m : XM) (B : Nat) : Prop :=
  ∃ (n e' : Nat) (w' : Nat → Value) (m' : XM), xblk K 2 [] (fun L' ls' st' σ' => xrun K n D 382 L' ls' st' σ') (xCf n D) is ls st (S0, e, w, m) = some (.inl (some (.int 1)), S0, e', w', m') ∧ e' ≤ B
def LX (K : XK) (D L : Nat) (ls : XL) (st : List Value) (e : Nat) (w : Nat → Value) (m : XM) (B : Nat) : Prop :=
  ∃ (n e' : Nat) (w' : Nat → Value) (m' : XM), xrun K n D 382 L ls st (S0, e, w, m) = some (.inl (some (.int 1)), S0, e', w', m') ∧ e' ≤ B
section LAW
variable {K : XK} {D : Nat} {is : List Instr} {ls : XL} {st : List Value} {e : Nat} {w : Nat → Value} {m : XM} {B : Nat}
theorem LX_at {L : Nat} {lv : List Nat} (hb : xM382.2.2.2.2.2[L]? = some (lv, is)) (h : BX K D is (xnorm lv ls) st e w m B) : LX K D L ls st e w m B := by
  obtain ⟨n, e', w', m', h1, h2⟩ := h
  refine ⟨n + 1, e', w', m', ?_, h2⟩
  unfold xrun
  rw [xm382]
  dsimp only
  rw [hb]
  dsimp only
  exact h1
theorem BX_seq {l : List Instr} {ls' : XL} {st' : List Value} (hs : ∀ e w, xseq K l ls st (S0, e, w, m) = some (ls', st', (S0, e, w, m))) (h : BX K D is ls' st' e w m B) : BX K D (l ++ is) ls st e w m B := by
  obtain ⟨n, e', w', m', h1, h2⟩ := h
  refine ⟨n, e', w', m', ?_, h2⟩
  rw [xblk_seq l _ _ _ (hs e w)]
  exact h1
theorem BX_go {L : Int} (h : LX K D L.toNat ls st e w m B) : BX K D (.goto L :: is) ls st e w m B := h
theorem BX_gow {L : Int} (h : LX K D L.toNat ls st e w m B) : BX K D (.goto_w L :: is) ls st e w m B := h
theorem BX_ieq {L : Int} {x y : Int32} {r : List Value} (hxy : x = y) (h : LX K D L.toNat ls r e w m B) : BX K D (.if_icmp .eq L :: is) ls (.int y :: .int x :: r) e w m B := by
  obtain ⟨n, e', w', m', h1, h2⟩ := h
  refine ⟨n, e', w', m', ?_, h2⟩
  show xbr .eq x y _ _ = _
  unfold xbr
  dsimp only
  rw [if_pos hxy]
  exact h1
theorem BX_igt {L : Int} {x y : Int32} {r : List Value} (h1 : y < x → LX K D L.toNat ls r e w m B) (h2 : ¬ y < x → BX K D is ls r e w m B) : BX K D (.if_icmp .gt L :: is) ls (.int y :: .int x :: r) e w m B := by
  by_cases c : y < x
  · obtain ⟨n, e', w', m', q1, q2⟩ := h1 c
    refine ⟨n, e', w', m', ?_, q2⟩
    show xbr .gt x y _ _ = _
    unfold xbr
    dsimp only
    rw [if_pos c]
    exact q1
  · obtain ⟨n, e', w', m', q1, q2⟩ := h2 c
    refine ⟨n, e', w', m', ?_, q2⟩
    show xbr .gt x y _ _ = _
    unfold xbr
    dsimp only
    rw [if_neg c]
    exact q1
theorem BX_eq {L : Int} {x : Int32} {r : List Value} (h1 : x = 0 → LX K D L.toNat ls r e w m B) (h2 : ¬ x = 0 → BX K D is ls r e w m B) : BX K D (.ifCond .eq L :: is) ls (.int x :: r) e w m B := by
  by_cases c : x = 0
  · obtain ⟨n, e', w', m', q1, q2⟩ := h1 c
    refine ⟨n, e', w', m', ?_, q2⟩
    show xbr .eq x 0 _ _ = _
    unfold xbr
    dsimp only
    rw [if_pos c]
    exact q1
  · obtain ⟨n, e', w', m', q1, q2⟩ := h2 c
    refine ⟨n, e', w', m', ?_, q2⟩
    show xbr .eq x 0 _ _ = _
    unfold xbr
    dsimp only
    rw [if_neg c]
    exact q1
theorem BX_ne {L : Int} {x : Int32} {r : List Value} (h1 : ¬ x = 0 → LX K D L.toNat ls r e w m B) (h2 : x = 0 → BX K D is ls r e w m B) : BX K D (.ifCond .ne L :: is) ls (.int x :: r) e w m B := by
  by_cases c : x = 0
  · obtain ⟨n, e', w', m', q1, q2⟩ := h2 c
    refine ⟨n, e', w', m', ?_, q2⟩
    show xbr .ne x 0 _ _ = _
    unfold xbr
    dsimp only
    rw [if_pos c]
    exact q1
  · obtain ⟨n, e', w', m', q1, q2⟩ := h1 c
    refine ⟨n, e', w', m', ?_, q2⟩
    show xbr .ne x 0 _ _ = _
    unfold xbr
    dsimp only
    rw [if_neg c]
    exact q1
theorem xB2_le {n n' : Nat} {z : XR × XS} {σ : XS} (hn : n ≤ n') (h : xblk K 2 [] (fun L' ls' st' σ' => xrun K n D 382 L' ls' st' σ') (xCf n D) is ls st σ = some z) : xblk K 2 [] (fun L' ls' st' σ' => xrun K n' D 382 L' ls' st' σ') (xCf n' D) is ls st σ = some z :=
  xblk_up (fun _ _ _ _ h => xrun_le' hn h) (fun _ _ _ _ h => xCf_le hn h) _ _ _ _ h
theorem xblk_iv {rt : Nat} {hd : List (Nat × Nat × Nat)} {J : Nat → XL → List Value → XS → XO} {C : Nat → List Value → XS → XO} {y : Nat} {σ : XS} : xblk K rt hd J C (.invokevirtual y :: is) ls st σ = xcall C hd J y ls st σ (fun st' σ' => xblk K rt hd J C is ls st' σ') := by rw [xblk]
theorem xblk_is {rt : Nat} {hd : List (Nat × Nat × Nat)} {J : Nat → XL → List Value → XS → XO} {C : Nat → List Value → XS → XO} {y : Nat} {σ : XS} : xblk K rt hd J C (.invokestatic y :: is) ls st σ = xcall C hd J y ls st σ (fun st' σ' => xblk K rt hd J C is ls st' σ') := by rw [xblk]
/-- what one call gives the block that goes on -/
theorem xcall_go {n : Nat} {C : Nat → List Value → XS → XO} {hd : List (Nat × Nat × Nat)} {J : Nat → XL → List Value → XS → XO} {y na ml rc rt : Nat} {hd' : List (Nat × Nat × Nat)} {bs : List XB} {as st : List Value} {k : List Value → XS → XO} {v : Option Value} {e' : Nat} {w' : Nat → Value} {m' : XM}
    (hm : xmt y = some (na, ml, rc, rt, hd', bs)) (hna : na = as.length) (hrc : xrecv rc S0 as = true) (h8 : xcat st ≤ 8) (hml : xcat as ≤ ml) (hc : C y as (S0, e, w, m) = some (.inl v, S0, e', w', m')) :
    xcall C hd J y ls (as.reverse ++ st) (S0, e, w, m) k = k (v.toList ++ st) (S0, e', w', m') := by
  subst hna
  unfold xcall
  rw [hm]
  dsimp only
  have e1 : (as.reverse ++ st).take as.length = as.reverse := by
    rw [List.take_append_of_le_length (by rw [List.length_reverse]; exact Nat.le_refl _), List.take_of_length_le (by rw [List.length_reverse]; exact Nat.le_refl _)]
  have e2 : (as.reverse ++ st).drop as.length = st := by
    rw [List.drop_append_of_le_length (by rw [List.length_reverse]; exact Nat.le_refl _), List.drop_of_length_le (by rw [List.length_reverse]; exact Nat.le_refl _), List.nil_append]
  rw [e1, e2, List.reverse_reverse, if_pos ⟨by rw [List.length_append, List.length_reverse]; omega, hrc, h8, hml⟩, hc]
  dsimp only
  rw [if_pos (Or.inl rfl)]
theorem xcall_ca {C : Nat → List Value → XS → XO} {hd : List (Nat × Nat × Nat)} {J : Nat → XL → List Value → XS → XO} {y na ml rc rt : Nat} {hd' : List (Nat × Nat × Nat)} {bs : List XB} {as st : List Value} {k : List Value → XS → XO} {x x' L q : Nat} {e' : Nat} {w' : Nat → Value} {m' : XM}
    (hm : xmt y = some (na, ml, rc, rt, hd', bs)) (hna : na = as.length) (hrc : xrecv rc S0 as = true) (h8 : xcat st ≤ 8) (hml : xcat as ≤ ml) (hc : C y as (S0, e, w, m) = some (.inr x, S0, e', w', m')) (hf : hd.find? (fun h => h.1 == x) = some (x', L, q)) :
    xcall C hd J y ls (as.reverse ++ st) (S0, e, w, m) k = J L (xdel ls q 1) [] (S0, e', w', m') := by
  subst hna
  unfold xcall
  rw [hm]
  dsimp only
  have e1 : (as.reverse ++ st).take as.length = as.reverse := by
    rw [List.take_append_of_le_length (by rw [List.length_reverse]; exact Nat.le_refl _), List.take_of_length_le (by rw [List.length_reverse]; exact Nat.le_refl _)]
  have e2 : (as.reverse ++ st).drop as.length = st := by
    rw [List.drop_append_of_le_length (by rw [List.length_reverse]; exact Nat.le_refl _), List.drop_of_length_le (by rw [List.length_reverse]; exact Nat.le_refl _), List.nil_append]
  rw [e1, e2, List.reverse_reverse, if_pos ⟨by rw [List.length_append, List.length_reverse]; omega, hrc, h8, hml⟩, hc]
  dsimp only
  rw [hf]
  dsimp only
  rw [if_pos rfl]
theorem BX_call {z ml rc rt : Nat} {hd : List (Nat × Nat × Nat)} {bs : List XB} {args : List AV} {Q : Value → XM → Prop} {E : Nat → XM → Prop} (hm : xmt z = some (args.length, ml, rc, rt, hd, bs)) (hrc : xrecv rc S0 (cvS args) = true) (h8 : xcat st ≤ 8) (hml : xcat (cvS args) ≤ ml) (hw : wtS args)
    (hV : V D z args m Q E) (hE : ∀ x m', x ∈ exo z → E x m' → False) (h : ∀ v m', vrt rt v → Q (v.getD .null) m' → BX K (D + 1) is ls (v.toList ++ st) e w m' B) : BX K (D + 1) (.invokevirtual z :: is) ls ((cvS args).reverse ++ st) e w m B := by
  obtain ⟨n, r, m1, h1, h2⟩ := V_run hV hw
  cases r with
  | inr x => exact (hE x m1 h2.1 h2.2).elim
  | inl v =>
    dsimp only at h2
    rw [rtOf_of hm] at h2
    obtain ⟨n2, e', w', m', q1, q2⟩ := h v m1 h2.1 h2.2
    refine ⟨max n n2, e', w', m', ?_, q2⟩
    have hc : xCf (max n n2) (D + 1) z (cvS args) (S0, e, w, m) = some (.inl v, S0, e, w, m1) := xrun_le' (Nat.le_max_left _ _) (h1 e w)
    rw [xblk_iv]
    rw [xcall_go (n := 0) hm (show args.length = (cvS args).length by unfold cvS; rw [List.length_map]) hrc h8 hml hc]
    exact xB2_le (Nat.le_max_right _ _) q1
/-- what a wrapper comes to: 0 and its answer in the cell out, or the number of an exception -/
def WR (D W : Nat) (as : List Value) (m : XM) (out : Nat) (QV : Value → XM → Prop) (E : Nat → XM → Prop) : Prop :=
  (∃ (n : Nat) (v : Value) (m' : XM), QV v m' ∧ ∀ (e : Nat) (w : Nat → Value), xrun xK0 n D W 0 (lv_args 0 as) [] (S0, e, w, m) = some (.inl (some (.int (n32 0))), S0, e, uw w out v, m')) ∨
  (∃ (n k : Nat) (m' : XM), E k m' ∧ ∀ (e : Nat) (w : Nat → Value), xrun xK0 n D W 0 (lv_args 0 as) [] (S0, e, w, m) = some (.inl (some (.int (n32 k))), S0, e + 1, w, m'))
theorem BX_wr {W ml rc rt out : Nat} {hd : List (Nat × Nat × Nat)} {bs : List XB} {as : List Value} {QV : Value → XM → Prop} {E : Nat → XM → Prop} (hm : xmt W = some (as.length, ml, 99, rt, hd, bs)) (hrc : xrecv 99 S0 as = true) (h8 : xcat st ≤ 8) (hml : xcat as ≤ ml)
    (hW : WR D W as m out QV E) (h0 : ∀ v m', QV v m' → BX K (D + 1) is ls (.int (n32 0) :: st) e (uw w out v) m' B) (h1 : ∀ k m', E k m' → BX K (D + 1) is ls (.int (n32 k) :: st) (e + 1) w m' B) : BX K (D + 1) (.invokestatic W :: is) ls (as.reverse ++ st) e w m B := by
  rcases hW with ⟨n, v, m1, q, hr⟩ | ⟨n, k, m1, q, hr⟩
  · obtain ⟨n2, e', w', m', q1, q2⟩ := h0 v m1 q
    refine ⟨max n n2, e', w', m', ?_, q2⟩
    have hc : xCf (max n n2) (D + 1) W as (S0, e, w, m) = some (.inl (some (.int (n32 0))), S0, e, uw w out v, m1) := xrun_le' (Nat.le_max_left _ _) (hr e w)
    rw [xblk_is]
    rw [xcall_go (n := 0) hm rfl hrc h8 hml hc]
    exact xB2_le (Nat.le_max_right _ _) q1
  · obtain ⟨n2, e', w', m', q1, q2⟩ := h1 k m1 q
    refine ⟨max n n2, e', w', m', ?_, q2⟩
    have hc : xCf (max n n2) (D + 1) W as (S0, e, w, m) = some (.inl (some (.int (n32 k))), S0, e + 1, w, m1) := xrun_le' (Nat.le_max_left _ _) (hr e w)
    rw [xblk_is]
    rw [xcall_go (n := 0) hm rfl hrc h8 hml hc]
    exact xB2_le (Nat.le_max_right _ _) q1
/-- a wrapper that calls one method, lays what it answers, and catches -/
theorem WR_gen {W y naW mlW ml rt out : Nat} {hd : List (Nat × Nat × Nat)} {bs bsy : List XB} {lv0 : List Nat} {pre post : List Instr} {Le : Int} {args : List AV} {as : List Value} {Q : Value → XM → Prop} {E E' : Nat → XM → Prop} {QV : Value → XM → Prop} {ls1 ls2 : XL} {conv : Option Value → Value}
    (hW : xmt W = some (naW, mlW, 99, 1, hd, bs)) (hb0 : bs[0]? = some (lv0, pre ++ .invokevirtual y :: (post ++ [.goto Le]))) (hLe : bs[Le.toNat]? = some ([], [.iconst 0, .ireturn]))
    (hpre : ∀ e w, xseq xK0 pre (xnorm lv0 (lv_args 0 as)) [] (S0, e, w, m) = some (ls1, (cvS args).reverse ++ [.int 0, .ref out], (S0, e, w, m)))
    (hy : xmt y = some (args.length, ml, 10, rt, [], bsy)) (hrc : xrecv 10 S0 (cvS args) = true) (hml : xcat (cvS args) ≤ ml) (hws : wtS args) (hV : V D y args m Q E)
    (hpost : ∀ v m' e w, vrt rt v → Q (v.getD .null) m' → QV (conv v) m' ∧ xseq xK0 post ls1 (v.toList ++ [.int 0, .ref out]) (S0, e, w, m') = some (ls2, [], (S0, e, uw w out (conv v), m')))
    (hexc : ∀ x ∈ exo y, ∃ (x' L q k : Nat) (kk : Int), hd.find? (fun h => h.1 == x) = some (x', L, q) ∧ bs[L]? = some ([], [.iconst kk, .ireturn]) ∧ Int32.ofInt kk = n32 k ∧ ∀ m', E x m' → E' k m') : WR (D + 1) W as m out QV E' := by
  obtain ⟨n, r, m1, h1, h2⟩ := V_run hV hws
  cases r with
  | inl v =>
    left
    dsimp only at h2
    rw [rtOf_of hy] at h2
    refine ⟨n + 3, conv v, m1, (hpost v m1 0 (fun _ => .null) h2.1 h2.2).1, fun e w => ?_⟩
    unfold xrun
    rw [hW]
    dsimp only
    rw [hb0]
    dsimp only
    rw [xblk_seq pre _ _ _ (hpre e w)]
    dsimp only
    have hc : xCf (n + 2) (D + 1) y (cvS args) (S0, e, w, m) = some (.inl v, S0, e, w, m1) := xrun_le' (Nat.le_add_right _ _) (h1 e w)
    show xcall (xCf (n + 2) (D + 1)) _ _ y ls1 _ _ _ = _
    rw [xcall_go (n := 0) hy (show args.length = (cvS args).length by unfold cvS; rw [List.length_map]) hrc (show xcat [.int 0, .ref out] ≤ 8 from Nat.le_of_ble_eq_true rfl) hml hc]
    rw [xblk_seq post _ _ _ (hpost v m1 e w h2.1 h2.2).2]
    show xrun xK0 (n + 2) (D + 1) W Le.toNat ls2 [] (S0, e, uw w out (conv v), m1) = _
    unfold xrun
    rw [hW]
    dsimp only
    rw [hLe]
    rfl
  | inr x =>
    right
    dsimp only at h2
    obtain ⟨x', L, q, k, kk, g1, g2, g3, g4⟩ := hexc x h2.1
    refine ⟨n + 3, k, m1, g4 m1 h2.2, fun e w => ?_⟩
    unfold xrun
    rw [hW]
    dsimp only
    rw [hb0]
    dsimp only
    rw [xblk_seq pre _ _ _ (hpre e w)]
    dsimp only
    have hc : xCf (n + 2) (D + 1) y (cvS args) (S0, e, w, m) = some (.inr x, S0, e + 1, w, m1) := xrun_le' (Nat.le_add_right _ _) (h1 e w)
    show xcall (xCf (n + 2) (D + 1)) _ _ y ls1 _ _ _ = _
    rw [xcall_ca hy (show args.length = (cvS args).length by unfold cvS; rw [List.length_map]) hrc (show xcat [.int 0, .ref out] ≤ 8 from Nat.le_of_ble_eq_true rfl) hml hc g1]
    show xrun xK0 (n + 2) (D + 1) W L (xdel ls1 q 1) [] (S0, e + 1, w, m1) = _
    unfold xrun
    rw [hW]
    dsimp only
    rw [g2]
    dsimp only
    rw [← g3]
    rfl
end LAW
