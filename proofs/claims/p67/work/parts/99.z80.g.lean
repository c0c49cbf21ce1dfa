/-! The logic of runs of X over any heap. -/
def qC (K : XK) (n d : Nat) : Nat → List Value → XS → XO := fun y' args σ' => match d with
  | 0 => none
  | d' + 1 => xrun K n d' y' 0 (lv_args 0 args) [] σ'
/-- a run from a label comes to Q -/
def qL (K : XK) (d y L : Nat) (ls : XL) (st : List Value) (σ : XS) (Q : Option Value → XS → Prop) : Prop := ∃ (n : Nat) (v : Option Value) (σ' : XS), xrun K n d y L ls st σ = some (.inl v, σ') ∧ Q v σ'
/-- a block's rest comes to Q -/
def qB (K : XK) (d y rt : Nat) (is : List Instr) (ls : XL) (st : List Value) (σ : XS) (Q : Option Value → XS → Prop) : Prop := ∃ (n : Nat) (v : Option Value) (σ' : XS), xblk K rt [] (fun L' ls' st' σ' => xrun K n d y L' ls' st' σ') (qC K n d) is ls st σ = some (.inl v, σ') ∧ Q v σ'
/-- a call comes to Q -/
abbrev qM (K : XK) (d y : Nat) (args : List Value) (σ : XS) (Q : Option Value → XS → Prop) : Prop := qL K d y 0 (lv_args 0 args) [] σ Q
def qnc : Instr → Bool
  | .goto _ => false
  | .goto_w _ => false
  | .ifCond _ _ => false
  | .if_icmp _ _ => false
  | .ifnull _ => false
  | .ifnonnull _ => false
  | .if_acmp _ _ => false
  | .tableswitch _ _ _ _ => false
  | .lookupswitch _ _ => false
  | .ireturn => false
  | .lreturn => false
  | .freturn => false
  | .dreturn => false
  | .areturn => false
  | .return_ => false
  | .checkcast _ => false
  | .invokevirtual _ => false
  | .invokespecial _ => false
  | .invokestatic _ => false
  | _ => true
theorem xblk_qnc {K : XK} {rt : Nat} {hd : List (Nat × Nat × Nat)} {J : Nat → XL → List Value → XS → XO} {Cc : Nat → List Value → XS → XO} {i : Instr} {is : List Instr} {ls : XL} {st : List Value} {σ : XS} (h : qnc i = true) :
    xblk K rt hd J Cc (i :: is) ls st σ = match xone K i ls st σ with
      | some (ls', st', σ') => xblk K rt hd J Cc is ls' st' σ'
      | none => none := by
  cases i <;> first | rfl | (cases h)
def xct (c : ClassFile.Cond) (a b : Int32) : Prop := match c with
  | .eq => a = b
  | .ne => ¬ a = b
  | .lt => a < b
  | .ge => b ≤ a
  | .gt => b < a
  | .le => a ≤ b
theorem xbr_T {c : ClassFile.Cond} {a b : Int32} {t f : XO} (h : xct c a b) : xbr c a b t f = t := by
  unfold xbr; unfold xct at h
  cases c <;> dsimp only at h ⊢ <;> first | rw [if_pos h] | rw [if_neg h]
theorem xbr_F {c : ClassFile.Cond} {a b : Int32} {t f : XO} (h : ¬ xct c a b) : xbr c a b t f = f := by
  unfold xbr; unfold xct at h
  cases c <;> dsimp only at h ⊢ <;> first | rw [if_neg h] | rw [if_pos (Decidable.not_not.mp h)]
section QG
variable {K : XK} {d y rt : Nat} {is : List Instr} {ls : XL} {st : List Value} {σ : XS} {Q : Option Value → XS → Prop}
theorem qL_at {L na ml rc : Nat} {lv : List Nat} {bs : List XB} (hm : xmt y = some (na, ml, rc, rt, [], bs)) (hb : bs[L]? = some (lv, is)) (h : qB K d y rt is (xnorm lv ls) st σ Q) : qL K d y L ls st σ Q := by
  obtain ⟨n, v, σ', h1, h2⟩ := h
  refine ⟨n + 1, v, σ', ?_, h2⟩
  unfold xrun
  rw [hm]
  dsimp only
  rw [hb]
  dsimp only
  exact h1
theorem qL_mono {L : Nat} {Q' : Option Value → XS → Prop} (h : qL K d y L ls st σ Q) (hq : ∀ v σ', Q v σ' → Q' v σ') : qL K d y L ls st σ Q' := by
  obtain ⟨n, v, σ', h1, h2⟩ := h
  exact ⟨n, v, σ', h1, hq _ _ h2⟩
theorem qL_up {L d' : Nat} (h : qL K d y L ls st σ Q) (hd : d ≤ d') : qL K d' y L ls st σ Q := by
  obtain ⟨n, v, σ', h1, h2⟩ := h
  exact ⟨n + 1, v, σ', xrun_up _ _ _ _ _ _ _ _ _ hd h1, h2⟩
theorem qB_one {i : Instr} {ls' : XL} {st' : List Value} {σ1 : XS} (hc : qnc i = true) (hs : xone K i ls st σ = some (ls', st', σ1)) (h : qB K d y rt is ls' st' σ1 Q) : qB K d y rt (i :: is) ls st σ Q := by
  obtain ⟨n, v, σ', h1, h2⟩ := h
  refine ⟨n, v, σ', ?_, h2⟩
  rw [xblk_qnc hc, hs]
  exact h1
theorem qB_go {L : Int} (h : qL K d y L.toNat ls st σ Q) : qB K d y rt (.goto L :: is) ls st σ Q := h
theorem qB_gow {L : Int} (h : qL K d y L.toNat ls st σ Q) : qB K d y rt (.goto_w L :: is) ls st σ Q := h
theorem qB_ifT {c : ClassFile.Cond} {L : Int} {x : Int32} (hc : xct c x 0) (h : qL K d y L.toNat ls st σ Q) : qB K d y rt (.ifCond c L :: is) ls (.int x :: st) σ Q := by
  obtain ⟨n, v, σ', h1, h2⟩ := h
  refine ⟨n, v, σ', ?_, h2⟩
  show xbr c x 0 _ _ = _
  rw [xbr_T hc]; exact h1
theorem qB_ifF {c : ClassFile.Cond} {L : Int} {x : Int32} (hc : ¬ xct c x 0) (h : qB K d y rt is ls st σ Q) : qB K d y rt (.ifCond c L :: is) ls (.int x :: st) σ Q := by
  obtain ⟨n, v, σ', h1, h2⟩ := h
  refine ⟨n, v, σ', ?_, h2⟩
  show xbr c x 0 _ _ = _
  rw [xbr_F hc]; exact h1
theorem qB_icT {c : ClassFile.Cond} {L : Int} {x z : Int32} (hc : xct c x z) (h : qL K d y L.toNat ls st σ Q) : qB K d y rt (.if_icmp c L :: is) ls (.int z :: .int x :: st) σ Q := by
  obtain ⟨n, v, σ', h1, h2⟩ := h
  refine ⟨n, v, σ', ?_, h2⟩
  show xbr c x z _ _ = _
  rw [xbr_T hc]; exact h1
theorem qB_icF {c : ClassFile.Cond} {L : Int} {x z : Int32} (hc : ¬ xct c x z) (h : qB K d y rt is ls st σ Q) : qB K d y rt (.if_icmp c L :: is) ls (.int z :: .int x :: st) σ Q := by
  obtain ⟨n, v, σ', h1, h2⟩ := h
  refine ⟨n, v, σ', ?_, h2⟩
  show xbr c x z _ _ = _
  rw [xbr_F hc]; exact h1
theorem qB_if {c : ClassFile.Cond} {L : Int} {x : Int32} (h1 : xct c x 0 → qL K d y L.toNat ls st σ Q) (h2 : ¬ xct c x 0 → qB K d y rt is ls st σ Q) : qB K d y rt (.ifCond c L :: is) ls (.int x :: st) σ Q := by
  by_cases hc : xct c x 0
  · exact qB_ifT hc (h1 hc)
  · exact qB_ifF hc (h2 hc)
theorem qB_ic {c : ClassFile.Cond} {L : Int} {x z : Int32} (h1 : xct c x z → qL K d y L.toNat ls st σ Q) (h2 : ¬ xct c x z → qB K d y rt is ls st σ Q) : qB K d y rt (.if_icmp c L :: is) ls (.int z :: .int x :: st) σ Q := by
  by_cases hc : xct c x z
  · exact qB_icT hc (h1 hc)
  · exact qB_icF hc (h2 hc)
theorem qB_nn {L : Int} {a : Nat} (h : qL K d y L.toNat ls st σ Q) : qB K d y rt (.ifnonnull L :: is) ls (.ref a :: st) σ Q := h
theorem qB_nu {L : Int} {a : Nat} (h : qB K d y rt is ls st σ Q) : qB K d y rt (.ifnull L :: is) ls (.ref a :: st) σ Q := h
theorem qB_acmp {L : Int} {a b : Nat} (hc : a < σ.1.length ∧ b < σ.1.length ∧ a ≠ b) (h : qL K d y L.toNat ls st σ Q) : qB K d y rt (.if_acmp .ne L :: is) ls (.ref b :: .ref a :: st) σ Q := by
  obtain ⟨n, v, σ', h1, h2⟩ := h
  refine ⟨n, v, σ', ?_, h2⟩
  unfold xblk
  dsimp only
  rw [if_pos ⟨hc.1, hc.2.1, hc.2.2, rfl⟩]; exact h1
theorem qB_iret {v : Int32} (hv : xrt rt v = true) (h : Q (some (.int v)) σ) : qB K d y rt (.ireturn :: is) ls [.int v] σ Q := by
  refine ⟨0, _, _, ?_, h⟩
  unfold xblk
  dsimp only
  rw [if_pos hv]
theorem qB_lret {v : Int64} (h : Q (some (.long v)) σ) : qB K d y 5 (.lreturn :: is) ls [.long v] σ Q := ⟨0, _, _, rfl, h⟩
theorem qB_fret {v : UInt32} (h : Q (some (.float v)) σ) : qB K d y 6 (.freturn :: is) ls [.float v] σ Q := ⟨0, _, _, rfl, h⟩
theorem qB_aret {v : Nat} (h : Q (some (.ref v)) σ) : qB K d y 8 (.areturn :: is) ls [.ref v] σ Q := ⟨0, _, _, rfl, h⟩
theorem qB_ret (h : Q none σ) : qB K d y 0 (.return_ :: is) ls [] σ Q := ⟨0, _, _, rfl, h⟩
theorem qC_le {n n' : Nat} {y' : Nat} {args : List Value} {z : XR × XS} (hn : n ≤ n') (h : qC K n d y' args σ = some z) : qC K n' d y' args σ = some z := by
  cases d with
  | zero => cases h
  | succ d' =>
    rcases Nat.lt_or_eq_of_le hn with q | rfl
    · exact xrun_le (Nat.le_refl _) q h
    · exact h
theorem qJ_le {n n' L : Nat} {z : XR × XS} (hn : n ≤ n') (h : xrun K n d y L ls st σ = some z) : xrun K n' d y L ls st σ = some z := by
  rcases Nat.lt_or_eq_of_le hn with q | rfl
  · exact xrun_le (Nat.le_refl _) q h
  · exact h
/-- a call, in the middle of a block -/
theorem qcall {y' na ml rc rt' : Nat} {bs : List XB} {stk : List Value} {Q1 : Option Value → XS → Prop} (hm : xmt y' = some (na, ml, rc, rt', [], bs)) (hna : na ≤ stk.length) (hrc : xrecv rc σ.1 (stk.take na).reverse = true) (h8 : xcat (stk.drop na) ≤ 8) (hml : xcat (stk.take na).reverse ≤ ml)
    (hM : qM K d y' (stk.take na).reverse σ Q1) (hk : ∀ v σ1, Q1 v σ1 → (σ1.1.length = σ.1.length ∨ (ls.all (fun q => xok σ.1.length q.2) = true ∧ (stk.drop na).all (xok σ.1.length) = true)) ∧ qB K (d + 1) y rt is ls (v.toList ++ stk.drop na) σ1 Q) :
    ∃ (n : Nat) (v : Option Value) (σ' : XS), xcall (qC K n (d + 1)) [] (fun L' ls' st' σ' => xrun K n (d + 1) y L' ls' st' σ') y' ls stk σ (fun st' σ' => xblk K rt [] (fun L' ls' st' σ' => xrun K n (d + 1) y L' ls' st' σ') (qC K n (d + 1)) is ls st' σ') = some (.inl v, σ') ∧ Q v σ' := by
  obtain ⟨n1, v1, σ1, r1, q1⟩ := hM
  obtain ⟨hok, n2, v2, σ2, r2, q2⟩ := hk _ _ q1
  refine ⟨n1 + n2, v2, σ2, ?_, q2⟩
  unfold xcall
  rw [hm]
  dsimp only
  rw [if_pos ⟨hna, hrc, h8, hml⟩]
  have e1 : qC K (n1 + n2) (d + 1) y' (stk.take na).reverse σ = some (.inl v1, σ1) := qC_le (Nat.le_add_right _ _) (n := n1) r1
  rw [e1]
  dsimp only
  rw [if_pos hok]
  exact xblk_up (fun _ _ _ _ h => qJ_le (Nat.le_add_left _ _) h) (fun _ _ _ _ h => qC_le (Nat.le_add_left _ _) h) _ _ _ _ r2
theorem qB_iv {y' na ml rc rt' : Nat} {bs : List XB} {stk : List Value} {Q1 : Option Value → XS → Prop} (hm : xmt y' = some (na, ml, rc, rt', [], bs)) (hna : na ≤ stk.length) (hrc : xrecv rc σ.1 (stk.take na).reverse = true) (h8 : xcat (stk.drop na) ≤ 8) (hml : xcat (stk.take na).reverse ≤ ml)
    (hM : qM K d y' (stk.take na).reverse σ Q1) (hk : ∀ v σ1, Q1 v σ1 → (σ1.1.length = σ.1.length ∨ (ls.all (fun q => xok σ.1.length q.2) = true ∧ (stk.drop na).all (xok σ.1.length) = true)) ∧ qB K (d + 1) y rt is ls (v.toList ++ stk.drop na) σ1 Q) :
    qB K (d + 1) y rt (.invokevirtual y' :: is) ls stk σ Q := by
  obtain ⟨n, v, σ', h1, h2⟩ := qcall (y := y) (rt := rt) (is := is) hm hna hrc h8 hml hM hk
  exact ⟨n, v, σ', by rw [xblk]; exact h1, h2⟩
theorem qB_is {y' na ml rc rt' : Nat} {bs : List XB} {stk : List Value} {Q1 : Option Value → XS → Prop} (hm : xmt y' = some (na, ml, rc, rt', [], bs)) (hna : na ≤ stk.length) (hrc : xrecv rc σ.1 (stk.take na).reverse = true) (h8 : xcat (stk.drop na) ≤ 8) (hml : xcat (stk.take na).reverse ≤ ml)
    (hM : qM K d y' (stk.take na).reverse σ Q1) (hk : ∀ v σ1, Q1 v σ1 → (σ1.1.length = σ.1.length ∨ (ls.all (fun q => xok σ.1.length q.2) = true ∧ (stk.drop na).all (xok σ.1.length) = true)) ∧ qB K (d + 1) y rt is ls (v.toList ++ stk.drop na) σ1 Q) :
    qB K (d + 1) y rt (.invokestatic y' :: is) ls stk σ Q := by
  obtain ⟨n, v, σ', h1, h2⟩ := qcall (y := y) (rt := rt) (is := is) hm hna hrc h8 hml hM hk
  exact ⟨n, v, σ', by rw [xblk]; exact h1, h2⟩
theorem qB_ip {y' na ml rc rt' : Nat} {bs : List XB} {stk : List Value} {Q1 : Option Value → XS → Prop} (hm : xmt y' = some (na, ml, rc, rt', [], bs)) (hna : na ≤ stk.length) (hrc : xrecv rc σ.1 (stk.take na).reverse = true) (h8 : xcat (stk.drop na) ≤ 8) (hml : xcat (stk.take na).reverse ≤ ml)
    (hM : qM K d y' (stk.take na).reverse σ Q1) (hk : ∀ v σ1, Q1 v σ1 → (σ1.1.length = σ.1.length ∨ (ls.all (fun q => xok σ.1.length q.2) = true ∧ (stk.drop na).all (xok σ.1.length) = true)) ∧ qB K (d + 1) y rt is ls (v.toList ++ stk.drop na) σ1 Q) :
    qB K (d + 1) y rt (.invokespecial y' :: is) ls stk σ Q := by
  obtain ⟨n, v, σ', h1, h2⟩ := qcall (y := y) (rt := rt) (is := is) hm hna hrc h8 hml hM hk
  exact ⟨n, v, σ', by rw [xblk]; exact h1, h2⟩
end QG
section QH
variable {K : XK} {d y rt : Nat} {is : List Instr} {ls : XL} {r : List Value} {S : List XC} {e : Nat} {w : Nat → Value} {m : XM} {Q : Option Value → XS → Prop}
theorem q_getI {f a ci n : Nat} {rs : List (Option Nat)} (hS : S[a]? = some (ci, n, rs)) (hc : (Nat.beq ci (f / 32) && Nat.blt (f % 32) n && Nat.blt ci 15 && !xref ci (f % 32)) = true) (h : qB K d y rt is ls (.int (m a (f % 32)) :: r) (S, e, w, m) Q) : qB K d y rt (.getfield f :: is) ls (.ref a :: r) (S, e, w, m) Q := by
  simp only [Bool.and_eq_true, Bool.not_eq_true', Nat.beq_eq, Nat.blt_eq] at hc
  refine qB_one rfl ?_ h
  unfold xone xget
  dsimp only
  rw [hS]
  dsimp only
  rw [if_pos ⟨hc.1.1.1, hc.1.1.2, hc.1.2⟩, hc.2]
  rfl
theorem q_getR {f a ci n b : Nat} {rs : List (Option Nat)} (hS : S[a]? = some (ci, n, rs)) (hr : rs[f % 32]? = some (some b)) (hc : (Nat.beq ci (f / 32) && Nat.blt (f % 32) n && Nat.blt ci 15 && xref ci (f % 32)) = true) (h : qB K d y rt is ls (.ref b :: r) (S, e, w, m) Q) : qB K d y rt (.getfield f :: is) ls (.ref a :: r) (S, e, w, m) Q := by
  simp only [Bool.and_eq_true, Nat.beq_eq, Nat.blt_eq] at hc
  refine qB_one rfl ?_ h
  unfold xone xget
  dsimp only
  rw [hS]
  dsimp only
  rw [if_pos ⟨hc.1.1.1, hc.1.1.2, hc.1.2⟩, hc.2, hr]
  rfl
theorem q_putI {f a ci n : Nat} {v : Int32} {rs : List (Option Nat)} (hS : S[a]? = some (ci, n, rs)) (hc : (Nat.beq ci (f / 32) && Nat.blt (f % 32) n && Nat.blt ci 15 && !xref ci (f % 32)) = true) (hb : xbl ci (f % 32) = false ∨ v = 0 ∨ v = 1) (h : qB K d y rt is ls r (S, e, w, um m a (f % 32) v) Q) : qB K d y rt (.putfield f :: is) ls (.int v :: .ref a :: r) (S, e, w, m) Q := by
  simp only [Bool.and_eq_true, Bool.not_eq_true', Nat.beq_eq, Nat.blt_eq] at hc
  refine qB_one rfl ?_ h
  unfold xone
  dsimp only
  rw [hS]
  dsimp only
  rw [if_pos ⟨hc.1.1.1, hc.1.2, hc.1.1.2, hc.2, hb⟩]
theorem q_putR {f a ci n v : Nat} {rs : List (Option Nat)} (hS : S[a]? = some (ci, n, rs)) (hl : rs.length = n) (hv : v < S.length ∨ (v = 1000003 ∧ ci = 13)) (hc : (Nat.beq ci (f / 32) && Nat.blt (f % 32) n && Nat.blt ci 15 && xref ci (f % 32)) = true) (h : qB K d y rt is ls r (S.set a (ci, n, rs.set (f % 32) (some v)), e, w, m) Q) : qB K d y rt (.putfield f :: is) ls (.ref v :: .ref a :: r) (S, e, w, m) Q := by
  simp only [Bool.and_eq_true, Nat.beq_eq, Nat.blt_eq] at hc
  refine qB_one rfl ?_ h
  unfold xone
  dsimp only
  rw [hS]
  dsimp only
  rw [if_pos ⟨hc.1.1.1, hc.1.2, hc.1.1.2, hc.2, hl, hv⟩]
/-- a text that was made -/
theorem q_getSR {a b : Nat} {rs : List (Option Nat)} (hS : S[a]? = some (14, 4, rs)) (hr : rs[0]? = some (some b)) (h : qB K d y rt is ls (.ref b :: r) (S, e, w, m) Q) : qB K d y rt (.getfield 960 :: is) ls (.ref a :: r) (S, e, w, m) Q := by
  refine qB_one rfl ?_ h
  unfold xone xget
  dsimp only
  rw [hS]
  dsimp only
  rw [if_neg (by decide)]
  unfold xgetS
  rw [if_pos ⟨rfl, rfl⟩, if_pos rfl, hr]
theorem q_getSI {a : Nat} {rs : List (Option Nat)} (hS : S[a]? = some (14, 4, rs)) (h : qB K d y rt is ls (.int (m a 1) :: r) (S, e, w, m) Q) : qB K d y rt (.getfield 961 :: is) ls (.ref a :: r) (S, e, w, m) Q := by
  refine qB_one rfl ?_ h
  unfold xone xget
  dsimp only
  rw [hS]
  dsimp only
  rw [if_neg (by decide)]
  unfold xgetS
  rw [if_pos ⟨rfl, rfl⟩, if_neg (by decide), if_pos rfl]
theorem q_putSR {a v : Nat} {rs : List (Option Nat)} (hS : S[a]? = some (14, 4, rs)) (hl : rs.length = 4) (hv : v < S.length) (h : qB K d y rt is ls r (S.set a (14, 4, rs.set 0 (some v)), e, w, m) Q) : qB K d y rt (.putfield 960 :: is) ls (.ref v :: .ref a :: r) (S, e, w, m) Q := by
  refine qB_one rfl ?_ h
  unfold xone
  dsimp only
  rw [hS]
  dsimp only
  rw [if_neg (fun q => absurd q.1 (by decide))]
  unfold xputR
  rw [if_pos ⟨rfl, rfl, rfl, hl, hv⟩]
theorem q_putSI {a : Nat} {rs : List (Option Nat)} (hS : S[a]? = some (14, 4, rs)) (h : qB K d y rt is ls r (S, e, w, um m a 1 0) Q) : qB K d y rt (.putfield 961 :: is) ls (.int 0 :: .ref a :: r) (S, e, w, m) Q := by
  refine qB_one rfl ?_ h
  unfold xone
  dsimp only
  rw [hS]
  dsimp only
  rw [if_neg (fun q => absurd q.1 (by decide))]
  unfold xputI
  rw [if_pos ⟨rfl, rfl, rfl, rfl⟩]
/-- a constant text -/
theorem q_getCR {a : Nat} (hS : S[a]? = none) (ha : 1000010 ≤ a ∧ a < 1000028) (h : qB K d y rt is ls (.ref (a + 30) :: r) (S, e, w, m) Q) : qB K d y rt (.getfield 960 :: is) ls (.ref a :: r) (S, e, w, m) Q := by
  refine qB_one rfl ?_ h
  unfold xone xget
  dsimp only
  rw [hS]
  dsimp only
  rw [if_pos ha, if_pos rfl]
theorem q_getCI {a : Nat} (hS : S[a]? = none) (ha : 1000010 ≤ a ∧ a < 1000028) (h : qB K d y rt is ls (.int 0 :: r) (S, e, w, m) Q) : qB K d y rt (.getfield 961 :: is) ls (.ref a :: r) (S, e, w, m) Q := by
  refine qB_one rfl ?_ h
  unfold xone xget
  dsimp only
  rw [hS]
  dsimp only
  rw [if_pos ha, if_neg (by decide), if_pos rfl]
theorem q_ial {a n : Nat} {i : Int32} {rs : List (Option Nat)} (hS : S[a]? = some (20, n, rs)) (hi : xin i n = true) (h : qB K d y rt is ls (.int (m a i.toNatClampNeg) :: r) (S, e, w, m) Q) : qB K d y rt (.iaload :: is) ls (.int i :: .ref a :: r) (S, e, w, m) Q := by
  refine qB_one rfl ?_ h
  unfold xone
  dsimp only
  rw [hS]
  dsimp only
  rw [if_pos ⟨rfl, hi⟩]
/-- the script -/
theorem q_ialK {a n : Nat} {f : Nat → Int32} {i : Int32} (hS : S[a]? = none) (hK : xci K a = some (n, f)) (hi : xin i n = true) (h : qB K d y rt is ls (.int (f i.toNatClampNeg) :: r) (S, e, w, m) Q) : qB K d y rt (.iaload :: is) ls (.int i :: .ref a :: r) (S, e, w, m) Q := by
  refine qB_one rfl ?_ h
  unfold xone
  dsimp only
  rw [hS]
  dsimp only
  rw [hK]
  dsimp only
  rw [if_pos hi]
theorem q_iast {a n : Nat} {i v : Int32} {rs : List (Option Nat)} (hS : S[a]? = some (20, n, rs)) (hi : xin i n = true) (h : qB K d y rt is ls r (S, e, w, um m a i.toNatClampNeg v) Q) : qB K d y rt (.iastore :: is) ls (.int v :: .int i :: .ref a :: r) (S, e, w, m) Q := by
  refine qB_one rfl ?_ h
  unfold xone
  dsimp only
  rw [hS]
  dsimp only
  rw [if_pos ⟨rfl, hi⟩]
theorem q_bal {a n : Nat} {i : Int32} {rs : List (Option Nat)} (hS : S[a]? = some (21, n, rs)) (hi : xin i n = true) (h : qB K d y rt is ls (.int (m a i.toNatClampNeg) :: r) (S, e, w, m) Q) : qB K d y rt (.baload :: is) ls (.int i :: .ref a :: r) (S, e, w, m) Q := by
  refine qB_one rfl ?_ h
  unfold xone
  dsimp only
  rw [hS]
  dsimp only
  rw [if_pos ⟨Or.inl rfl, hi⟩]
theorem q_balK {a n : Nat} {f : Nat → Int32} {i : Int32} (hS : S[a]? = none) (hK : xcb a = some (n, f)) (hi : xin i n = true) (h : qB K d y rt is ls (.int (f i.toNatClampNeg) :: r) (S, e, w, m) Q) : qB K d y rt (.baload :: is) ls (.int i :: .ref a :: r) (S, e, w, m) Q := by
  refine qB_one rfl ?_ h
  unfold xone
  dsimp only
  rw [hS]
  dsimp only
  rw [hK]
  dsimp only
  rw [if_pos hi]
theorem q_bast {a n : Nat} {i v : Int32} {rs : List (Option Nat)} (hS : S[a]? = some (21, n, rs)) (hi : xin i n = true) (h : qB K d y rt is ls r (S, e, w, um m a i.toNatClampNeg v.toInt8.toInt32) Q) : qB K d y rt (.bastore :: is) ls (.int v :: .int i :: .ref a :: r) (S, e, w, m) Q := by
  refine qB_one rfl ?_ h
  unfold xone
  dsimp only
  rw [hS]
  dsimp only
  rw [if_pos ⟨rfl, hi⟩]
theorem q_aal {a n b ci : Nat} {i : Int32} {rs : List (Option Nat)} (hS : S[a]? = some (ci, n, rs)) (hci : ci = 25 ∨ ci = 26) (hi : xin i n = true) (hr : rs[i.toNatClampNeg]? = some (some b)) (h : qB K d y rt is ls (.ref b :: r) (S, e, w, m) Q) : qB K d y rt (.aaload :: is) ls (.int i :: .ref a :: r) (S, e, w, m) Q := by
  refine qB_one rfl ?_ h
  unfold xone
  dsimp only
  rw [hS]
  dsimp only
  rw [if_pos ⟨hci, hi⟩, hr]
theorem q_aast {a n v cv nv ci : Nat} {i : Int32} {rs rv : List (Option Nat)} (hS : S[a]? = some (ci, n, rs)) (hV : S[v]? = some (cv, nv, rv)) (hci : ci = 25 ∧ cv = 8 ∨ ci = 26 ∧ cv = 14) (hi : xin i n = true) (hl : rs.length = n) (h : qB K d y rt is ls r (S.set a (ci, n, rs.set i.toNatClampNeg (some v)), e, w, m) Q) : qB K d y rt (.aastore :: is) ls (.ref v :: .int i :: .ref a :: r) (S, e, w, m) Q := by
  refine qB_one rfl ?_ h
  unfold xone
  dsimp only
  rw [hS]
  dsimp only
  rw [hV]
  dsimp only
  rw [if_pos ⟨hci, hi, hl⟩]
theorem q_alen {a n ci : Nat} {rs : List (Option Nat)} (hS : S[a]? = some (ci, n, rs)) (hci : ci = 20 ∨ ci = 21 ∨ ci = 22 ∨ ci = 25) (h : qB K d y rt is ls (.int (Int32.ofNat n) :: r) (S, e, w, m) Q) : qB K d y rt (.arraylength :: is) ls (.ref a :: r) (S, e, w, m) Q := by
  refine qB_one rfl ?_ h
  unfold xone
  dsimp only
  rw [hS]
  dsimp only
  rw [if_pos hci]
theorem q_alenK {a n : Nat} {f : Nat → Int32} (hS : S[a]? = none) (hK : xci K a = some (n, f)) (h : qB K d y rt is ls (.int (Int32.ofNat n) :: r) (S, e, w, m) Q) : qB K d y rt (.arraylength :: is) ls (.ref a :: r) (S, e, w, m) Q := by
  refine qB_one rfl ?_ h
  unfold xone
  dsimp only
  rw [hS]
  dsimp only
  rw [hK]
theorem q_alenB {a n : Nat} {f : Nat → Int32} (hS : S[a]? = none) (hN : xci K a = none) (hK : xcb a = some (n, f)) (h : qB K d y rt is ls (.int (Int32.ofNat n) :: r) (S, e, w, m) Q) : qB K d y rt (.arraylength :: is) ls (.ref a :: r) (S, e, w, m) Q := by
  refine qB_one rfl ?_ h
  unfold xone
  dsimp only
  rw [hS]
  dsimp only
  rw [hN]
  dsimp only
  rw [hK]
theorem q_new {c : Nat} (hc : c < 15) (hf : xfresh S ls r = true) (h : qB K d y rt is ls (.ref S.length :: r) (S ++ [(c, xnf.getD c 0, List.replicate (xnf.getD c 0) none)], e, w, uz m S.length) Q) : qB K d y rt (.new c :: is) ls r (S, e, w, m) Q := by
  refine qB_one rfl ?_ h
  unfold xone
  dsimp only
  rw [if_pos ⟨hc, hf⟩]
theorem q_narr {t : ArrayType} {n : Int32} (ht : xkind t = 20 ∨ xkind t = 21 ∨ xkind t = 22) (hn : 0 ≤ n ∧ n.toNatClampNeg ≤ 5000) (hf : xfresh S ls r = true) (h : qB K d y rt is ls (.ref S.length :: r) (S ++ [(xkind t, n.toNatClampNeg, [])], e, w, uz m S.length) Q) : qB K d y rt (.newarray t :: is) ls (.int n :: r) (S, e, w, m) Q := by
  refine qB_one rfl ?_ h
  unfold xone
  dsimp only
  rw [if_pos ⟨hn.1, hn.2, hf⟩, if_neg (by omega), if_neg (by omega)]
theorem q_anewS {n : Int32} (hn : 0 ≤ n ∧ n.toNatClampNeg ≤ 5000) (hf : xfresh S ls r = true) (h : qB K d y rt is ls (.ref S.length :: r) (S ++ [(26, n.toNatClampNeg, List.replicate n.toNatClampNeg none)], e, w, uz m S.length) Q) : qB K d y rt (.anewarray 14 :: is) ls (.int n :: r) (S, e, w, m) Q := by
  refine qB_one rfl ?_ h
  unfold xone
  dsimp only
  rw [if_pos ⟨Or.inr rfl, hn.1, hn.2, hf⟩]
  rfl
theorem q_copy {a b ca cb na nb : Nat} {n i j : Int32} {f : Nat → Int32} {rb : List (Option Nat)} (hs : xsrc S m a = some (ca, na, f)) (hB : S[b]? = some (cb, nb, rb))
    (hc : ca = cb ∧ (cb = 20 ∨ (cb = 21 ∧ xft f i.toNatClampNeg n.toNatClampNeg = true)) ∧ a ≠ b ∧ 0 ≤ n ∧ 0 ≤ i ∧ 0 ≤ j ∧ i.toNatClampNeg + n.toNatClampNeg ≤ na ∧ j.toNatClampNeg + n.toNatClampNeg ≤ nb ∧ (r.map fun v => v.category).sum ≤ 8)
    (h : qB K d y rt is ls r (S, e, w, ucp m b j.toNatClampNeg n.toNatClampNeg f i.toNatClampNeg) Q) : qB K d y rt (.lrem :: is) ls (.int n :: .int j :: .ref b :: .int i :: .ref a :: r) (S, e, w, m) Q := by
  refine qB_one rfl ?_ h
  unfold xone
  dsimp only
  rw [hs]
  dsimp only
  rw [hB]
  dsimp only
  rw [if_pos hc]
theorem q_clone {a n : Nat} {rs : List (Option Nat)} (hS : S[a]? = some (21, n, rs)) (hn : n ≤ 5000) (hx : xft (m a) 0 n = true) (hf : xfresh S ls r = true) (h8 : (r.map fun v => v.category).sum ≤ 8) (h : qB K d y rt is ls (.ref S.length :: r) (S ++ [(21, n, [])], e, w, ucl m S.length a) Q) : qB K d y rt (.lneg :: is) ls (.ref a :: r) (S, e, w, m) Q := by
  refine qB_one rfl ?_ h
  unfold xone
  dsimp only
  rw [hS]
  dsimp only
  rw [if_pos ⟨rfl, hn, hx, hf, h8⟩]
theorem q_cast {a n : Nat} {rs : List (Option Nat)} (hS : S[a]? = some (21, n, rs)) (h : qB K d y rt is ls (.ref a :: r) (S, e, w, m) Q) : qB K d y rt (.monitorenter :: is) ls (.ref a :: r) (S, e, w, m) Q := by
  refine qB_one rfl ?_ h
  unfold xone
  dsimp only
  rw [hS]
  dsimp only
  rw [if_pos rfl]
theorem q_getl {a n : Nat} {off : Int64} {rs : List (Option Nat)} (hS : S[a]? = some (20, n, rs)) (hc : 0 ≤ off ∧ 16 ≤ off.toNatClampNeg ∧ off.toNatClampNeg % 8 = 0 ∧ off.toNatClampNeg + 8 ≤ 16 + 4 * n ∧ (r.map fun v => v.category).sum ≤ 8)
    (h : qB K d y rt is ls (.long (xgl (m a ((off.toNatClampNeg - 16) / 4)) (m a ((off.toNatClampNeg - 16) / 4 + 1))) :: r) (S, e, w, m) Q) : qB K d y rt (.ldiv :: is) ls (.long off :: .ref a :: .ref 1000004 :: r) (S, e, w, m) Q := by
  refine qB_one rfl ?_ h
  unfold xone
  dsimp only
  rw [hS]
  dsimp only
  rw [if_pos ⟨rfl, rfl, hc⟩]
end QH
