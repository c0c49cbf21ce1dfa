/-! The law's cases. -/
theorem lg_self (x : Int64) : lg_cmp x x = 0 := by
  unfold lg_cmp
  simp
def lsL (i : Nat) : XL := [(0, .ref 1000000), (1, .ref 0), (2, .ref 283), (3, .ref 293), (4, .ref 294), (5, .int (n32 i))]
theorem s0_far : S0[1000000]? = none := by
  rw [List.getElem?_eq_none]
  decide +kernel
section LAWC
variable {len : Nat} {f : Nat → Int32} {D : Nat} {is : List Instr} {ls ls' : XL} {st st' : List Value} {e i : Nat} {w : Nat → Value} {m : XM} {B N : Nat}
theorem BX_1 {K : XK} {j : Instr} (hs : xseq K [j] ls st (S0, e, w, m) = some (ls', st', (S0, e, w, m))) (h : BX K D is ls' st' e w m B) : BX K D (j :: is) ls st e w m B := by
  obtain ⟨n, e', w', m', h1, h2⟩ := h
  refine ⟨n, e', w', m', ?_, h2⟩
  rw [show j :: is = [j] ++ is from rfl, xblk_seq [j] _ _ _ hs]
  exact h1
theorem BX_l {K : XK} (l : List Instr) (hs : xseq K l ls st (S0, e, w, m) = some (ls', st', (S0, e, w, m))) (h : BX K D is ls' st' e w m B) : BX K D (l ++ is) ls st e w m B := by
  obtain ⟨n, e', w', m', h1, h2⟩ := h
  refine ⟨n, e', w', m', ?_, h2⟩
  rw [xblk_seq l _ _ _ hs]
  exact h1
theorem BX_arg {k : Nat} {kk : Int} (hkk : Int32.ofInt kk = n32 k) (hi : i + k < len) (hl : len ≤ 3072) (h0 : xk ls 0 = some (.ref 1000000)) (h5 : xk ls 5 = some (.int (n32 i))) (h : BX (len + 1, f) D is ls (.int (f (i + k)) :: st) e w m B) : BX (len + 1, f) D (.aload 0 :: .iload 5 :: .iconst kk :: .iadd :: .iaload :: is) ls st e w m B := by
  have hs : xseq (len + 1, f) [.aload 0, .iload 5, .iconst kk, .iadd, .iaload] ls st (S0, e, w, m) = some (ls, .int (f (i + k)) :: st, (S0, e, w, m)) := by
    simp only [xseq, xnc, xone, h0, h5, hkk, n32_add]
    try dsimp only
    rw [s0_far]
    dsimp only
    rw [show xci (len + 1, f) 1000000 = some (len, f) from rfl]
    dsimp only
    rw [if_pos (xin_n hi (by omega))]
    dsimp only
    rw [show (n32 (i + k)).toNatClampNeg = i + k from ix_n32 (by omega)]
  obtain ⟨n, e', w', m', h1, h2⟩ := h
  refine ⟨n, e', w', m', ?_, h2⟩
  rw [show Instr.aload 0 :: .iload 5 :: .iconst kk :: .iadd :: .iaload :: is = [.aload 0, .iload 5, .iconst kk, .iadd, .iaload] ++ is from rfl, xblk_seq _ _ _ _ hs]
  exact h1
theorem n32_nz {k : Nat} (h : 1 ≤ k) (h3 : k ≤ 3) : ¬ n32 k = 0 := fun c => by
  have := n32_inj (a := k) (b := 0) (by omega) (by omega) c
  omega
set_option maxRecDepth 20000 in
theorem b378 : xM382.2.2.2.2.2[378]? = some ([0, 1, 2, 3, 4, 5], [.iinc 5 6, .goto 1]) := rfl
theorem tl5 {K : XK} {B5 : Int} (hb5 : xM382.2.2.2.2.2[B5.toNat]? = some ([0, 1, 2, 3, 4, 5], [.goto 378])) (hls : xnorm [0, 1, 2, 3, 4, 5] ls = lsL i) (h : LX K D 378 (lsL i) [] e w m B) : LX K D B5.toNat ls [] e w m B := by
  refine LX_at hb5 ?_
  rw [hls]
  exact BX_go h

theorem tlI {K : XK} {A B5 C C4 C5 C6 C7 X : Int} {r : Int32} {k : Nat} (k3 : k ≤ 3) (hb2 : xM382.2.2.2.2.2[A.toNat]? = some ([0, 1, 2, 3, 4, 5, 6, 7], [.iload 6, .ifCond .ne B5, .goto_w C])) (hb5 : xM382.2.2.2.2.2[B5.toNat]? = some ([0, 1, 2, 3, 4, 5], [.goto 378])) (hb3 : xM382.2.2.2.2.2[C.toNat]? = some ([0, 1, 2, 3, 4, 5, 7], [.aload 3, .iconst 0, .laload, .iload 7, .i2l, .lcmp, .ifCond .eq B5, .goto_w X])) (hw : k = 0 → w 293 = .long r.toInt64) (h : LX K D 378 (lsL i) [] e w m B) : LX K D A.toNat ((7, .int r) :: (6, .int (n32 k)) :: lsL i) [] e w m B := by
  have go5 : LX K D B5.toNat [(0, .ref 1000000), (1, .ref 0), (2, .ref 283), (3, .ref 293), (4, .ref 294), (5, .int (n32 i)), (7, .int r)] [] e w m B := tl5 hb5 rfl h
  refine LX_at hb2 ?_
  show BX _ _ _ [(0, .ref 1000000), (1, .ref 0), (2, .ref 283), (3, .ref 293), (4, .ref 294), (5, .int (n32 i)), (6, .int (n32 k)), (7, .int r)] [] e w m B
  refine BX_1 rfl (BX_ne (fun _ => tl5 hb5 rfl h) (fun c => BX_gow ?_))
  have k0 : k = 0 := by
    by_cases c' : k = 0
    · exact c'
    · exact absurd c (n32_nz (by omega) k3)
  have hw := hw k0
  refine LX_at hb3 ?_
  show BX _ _ _ [(0, .ref 1000000), (1, .ref 0), (2, .ref 283), (3, .ref 293), (4, .ref 294), (5, .int (n32 i)), (7, .int r)] [] e w m B
  refine BX_l [.aload 3, .iconst 0, .laload, .iload 7, .i2l, .lcmp] (st' := [.int (lg_cmp (xtl (w 293)) r.toInt64)]) rfl ?_
  rw [hw, show xtl (.long r.toInt64) = r.toInt64 from rfl, lg_self]
  exact BX_eq (fun _ => go5) (fun c => absurd rfl c)

theorem tlJ {K : XK} {A B5 C C4 C5 C6 C7 X : Int} {r : Int64} {k : Nat} (k3 : k ≤ 3) (hb2 : xM382.2.2.2.2.2[A.toNat]? = some ([0, 1, 2, 3, 4, 5, 6, 7], [.iload 6, .ifCond .ne B5, .goto_w C])) (hb5 : xM382.2.2.2.2.2[B5.toNat]? = some ([0, 1, 2, 3, 4, 5], [.goto 378])) (hb3 : xM382.2.2.2.2.2[C.toNat]? = some ([0, 1, 2, 3, 4, 5, 7], [.aload 3, .iconst 0, .laload, .lload 7, .lcmp, .ifCond .eq B5, .goto_w X])) (hw : k = 0 → w 293 = .long r) (h : LX K D 378 (lsL i) [] e w m B) : LX K D A.toNat ((7, .long r) :: (6, .int (n32 k)) :: lsL i) [] e w m B := by
  have go5 : LX K D B5.toNat [(0, .ref 1000000), (1, .ref 0), (2, .ref 283), (3, .ref 293), (4, .ref 294), (5, .int (n32 i)), (7, .long r)] [] e w m B := tl5 hb5 rfl h
  refine LX_at hb2 ?_
  show BX _ _ _ [(0, .ref 1000000), (1, .ref 0), (2, .ref 283), (3, .ref 293), (4, .ref 294), (5, .int (n32 i)), (6, .int (n32 k)), (7, .long r)] [] e w m B
  refine BX_1 rfl (BX_ne (fun _ => tl5 hb5 rfl h) (fun c => BX_gow ?_))
  have k0 : k = 0 := by
    by_cases c' : k = 0
    · exact c'
    · exact absurd c (n32_nz (by omega) k3)
  have hw := hw k0
  refine LX_at hb3 ?_
  show BX _ _ _ [(0, .ref 1000000), (1, .ref 0), (2, .ref 283), (3, .ref 293), (4, .ref 294), (5, .int (n32 i)), (7, .long r)] [] e w m B
  refine BX_l [.aload 3, .iconst 0, .laload, .lload 7, .lcmp] (st' := [.int (lg_cmp (xtl (w 293)) r)]) rfl ?_
  rw [hw, show xtl (.long r) = r from rfl, lg_self]
  exact BX_eq (fun _ => go5) (fun c => absurd rfl c)

theorem tlB {K : XK} {A B5 C C4 C5 C6 C7 X : Int} {r : Int32} {k : Nat} (k3 : k ≤ 3) (hb2 : xM382.2.2.2.2.2[A.toNat]? = some ([0, 1, 2, 3, 4, 5, 6, 7], [.iload 6, .ifCond .ne B5, .goto_w C])) (hb5 : xM382.2.2.2.2.2[B5.toNat]? = some ([0, 1, 2, 3, 4, 5], [.goto 378])) (hb3 : xM382.2.2.2.2.2[C.toNat]? = some ([0, 1, 2, 3, 4, 5, 7], [.aload 3, .iconst 0, .laload, .iload 7, .ifCond .eq C5, .goto_w C4])) (hb4 : xM382.2.2.2.2.2[C4.toNat]? = some ([0, 1, 2, 3, 4, 5], [.lconst 1, .goto C6])) (hbe : xM382.2.2.2.2.2[C5.toNat]? = some ([0, 1, 2, 3, 4, 5], [.lconst 0, .goto_w C6])) (hb6 : xM382.2.2.2.2.2[C6.toNat]? = some ([0, 1, 2, 3, 4, 5], [.lcmp, .ifCond .eq B5, .goto_w X])) (hw : k = 0 → w 293 = .long (if r = 0 then 0 else 1)) (h : LX K D 378 (lsL i) [] e w m B) : LX K D A.toNat ((7, .int r) :: (6, .int (n32 k)) :: lsL i) [] e w m B := by
  have go5 : LX K D B5.toNat [(0, .ref 1000000), (1, .ref 0), (2, .ref 283), (3, .ref 293), (4, .ref 294), (5, .int (n32 i)), (7, .int r)] [] e w m B := tl5 hb5 rfl h
  refine LX_at hb2 ?_
  show BX _ _ _ [(0, .ref 1000000), (1, .ref 0), (2, .ref 283), (3, .ref 293), (4, .ref 294), (5, .int (n32 i)), (6, .int (n32 k)), (7, .int r)] [] e w m B
  refine BX_1 rfl (BX_ne (fun _ => tl5 hb5 rfl h) (fun c => BX_gow ?_))
  have k0 : k = 0 := by
    by_cases c' : k = 0
    · exact c'
    · exact absurd c (n32_nz (by omega) k3)
  have hw := hw k0
  refine LX_at hb3 ?_
  show BX _ _ _ [(0, .ref 1000000), (1, .ref 0), (2, .ref 283), (3, .ref 293), (4, .ref 294), (5, .int (n32 i)), (7, .int r)] [] e w m B
  refine BX_l [.aload 3, .iconst 0, .laload, .iload 7] (st' := [.int r, .long (xtl (w 293))]) rfl ?_
  have go6 : ∀ v : Int64, v = (if r = 0 then 0 else 1) → LX K D C6.toNat (lsL i) [.long v, .long (xtl (w 293))] e w m B := by
    intro v hv
    refine LX_at hb6 ?_
    show BX _ _ _ (lsL i) _ e w m B
    refine BX_1 (st' := [.int (lg_cmp (xtl (w 293)) v)]) rfl ?_
    rw [hw, show xtl (.long (if r = 0 then 0 else 1)) = (if r = 0 then 0 else 1) from rfl, hv, lg_self]
    exact BX_eq (fun _ => tl5 hb5 rfl h) (fun c => absurd rfl c)
  refine BX_eq (fun c => ?_) (fun c => BX_gow ?_)
  · refine LX_at hbe ?_
    show BX _ _ _ (lsL i) _ e w m B
    refine BX_1 (st' := [.long 0, .long (xtl (w 293))]) rfl (BX_gow (go6 0 (by rw [if_pos c])))
  · refine LX_at hb4 ?_
    show BX _ _ _ (lsL i) _ e w m B
    refine BX_1 (st' := [.long 1, .long (xtl (w 293))]) rfl (BX_go (go6 1 (by rw [if_neg c])))

theorem tlF {K : XK} {A B5 C C4 C5 C6 C7 X : Int} {r : UInt32} {k : Nat} (k3 : k ≤ 3) (hb2 : xM382.2.2.2.2.2[A.toNat]? = some ([0, 1, 2, 3, 4, 5, 6, 7], [.iload 6, .ifCond .ne B5, .goto_w C])) (hb5 : xM382.2.2.2.2.2[B5.toNat]? = some ([0, 1, 2, 3, 4, 5], [.goto 378])) (hb3 : xM382.2.2.2.2.2[C.toNat]? = some ([0, 1, 2, 3, 4, 5, 7], [.aload 4, .iconst 0, .daload, .fload 7, .f2d, .dcmp .l, .ifCond .eq B5, .goto_w C4])) (hr : k = 0 → r ∈ shL) (hw : k = 0 → w 294 = .double (FP.f2d r)) (h : LX K D 378 (lsL i) [] e w m B) : LX K D A.toNat ((7, .float r) :: (6, .int (n32 k)) :: lsL i) [] e w m B := by
  have go5 : LX K D B5.toNat [(0, .ref 1000000), (1, .ref 0), (2, .ref 283), (3, .ref 293), (4, .ref 294), (5, .int (n32 i)), (7, .float r)] [] e w m B := tl5 hb5 rfl h
  refine LX_at hb2 ?_
  show BX _ _ _ [(0, .ref 1000000), (1, .ref 0), (2, .ref 283), (3, .ref 293), (4, .ref 294), (5, .int (n32 i)), (6, .int (n32 k)), (7, .float r)] [] e w m B
  refine BX_1 rfl (BX_ne (fun _ => tl5 hb5 rfl h) (fun c => BX_gow ?_))
  have k0 : k = 0 := by
    by_cases c' : k = 0
    · exact c'
    · exact absurd c (n32_nz (by omega) k3)
  have hw := hw k0
  refine LX_at hb3 ?_
  show BX _ _ _ [(0, .ref 1000000), (1, .ref 0), (2, .ref 283), (3, .ref 293), (4, .ref 294), (5, .int (n32 i)), (7, .float r)] [] e w m B
  obtain ⟨f1, f2⟩ := shL_f2d (hr k0)
  have hs : xseq K [.aload 4, .iconst 0, .daload, .fload 7, .f2d, .dcmp .l] [(0, .ref 1000000), (1, .ref 0), (2, .ref 283), (3, .ref 293), (4, .ref 294), (5, .int (n32 i)), (7, .float r)] [] (S0, e, w, m) = some ([(0, .ref 1000000), (1, .ref 0), (2, .ref 283), (3, .ref 293), (4, .ref 294), (5, .int (n32 i)), (7, .float r)], [.int (Op.cmpValue (FP.dcmp (xtd (w 294)) (FP.f2d r)) .l)], (S0, e, w, m)) := by
    show (match (if FP.f2d r &&& 0x7fffffffffffffff ≤ 0x7ff0000000000000 then some (_, Value.double (FP.f2d r) :: _, _) else none : Option (XL × List Value × XS)) with
      | some (ls', st', σ') => xseq K [.dcmp .l] ls' st' σ'
      | none => none) = _
    rw [if_pos f1]
    rfl
  refine BX_l [.aload 4, .iconst 0, .daload, .fload 7, .f2d, .dcmp .l] hs ?_
  rw [hw, show xtd (.double (FP.f2d r)) = FP.f2d r from rfl, f2]
  exact BX_eq (fun _ => go5) (fun c => absurd rfl c)

theorem tlD {K : XK} {A B5 C C4 C5 C6 C7 X : Int} {r : UInt64} {k : Nat} (k3 : k ≤ 3) (hb2 : xM382.2.2.2.2.2[A.toNat]? = some ([0, 1, 2, 3, 4, 5, 6, 7], [.iload 6, .ifCond .ne B5, .goto_w C])) (hb5 : xM382.2.2.2.2.2[B5.toNat]? = some ([0, 1, 2, 3, 4, 5], [.goto 378])) (hb3 : xM382.2.2.2.2.2[C.toNat]? = some ([0, 1, 2, 3, 4, 5, 7], [.aload 4, .iconst 0, .daload, .dload 7, .dcmp .l, .ifCond .eq B5, .goto_w C4])) (hb4 : xM382.2.2.2.2.2[C4.toNat]? = some ([0, 1, 2, 3, 4, 5, 7], [.aload 4, .iconst 0, .daload, .aload 4, .iconst 0, .daload, .dcmp .l, .ifCond .eq C6, .goto_w C5])) (hbe : xM382.2.2.2.2.2[C5.toNat]? = some ([0, 1, 2, 3, 4, 5, 7], [.dload 7, .dload 7, .dcmp .l, .ifCond .ne B5, .goto_w C6])) (hw : k = 0 → w 294 = .double r) (h : LX K D 378 (lsL i) [] e w m B) : LX K D A.toNat ((7, .double r) :: (6, .int (n32 k)) :: lsL i) [] e w m B := by
  have go5 : LX K D B5.toNat [(0, .ref 1000000), (1, .ref 0), (2, .ref 283), (3, .ref 293), (4, .ref 294), (5, .int (n32 i)), (7, .double r)] [] e w m B := tl5 hb5 rfl h
  refine LX_at hb2 ?_
  show BX _ _ _ [(0, .ref 1000000), (1, .ref 0), (2, .ref 283), (3, .ref 293), (4, .ref 294), (5, .int (n32 i)), (6, .int (n32 k)), (7, .double r)] [] e w m B
  refine BX_1 rfl (BX_ne (fun _ => tl5 hb5 rfl h) (fun c => BX_gow ?_))
  have k0 : k = 0 := by
    by_cases c' : k = 0
    · exact c'
    · exact absurd c (n32_nz (by omega) k3)
  have hw := hw k0
  refine LX_at hb3 ?_
  show BX _ _ _ [(0, .ref 1000000), (1, .ref 0), (2, .ref 283), (3, .ref 293), (4, .ref 294), (5, .int (n32 i)), (7, .double r)] [] e w m B
  refine BX_l [.aload 4, .iconst 0, .daload, .dload 7, .dcmp .l] (st' := [.int (Op.cmpValue (FP.dcmp (xtd (w 294)) r) .l)]) rfl ?_
  rw [hw, show xtd (.double r) = r from rfl]
  refine BX_eq (fun _ => go5) (fun c => BX_gow ?_)
  refine LX_at hb4 ?_
  show BX _ _ _ [(0, .ref 1000000), (1, .ref 0), (2, .ref 283), (3, .ref 293), (4, .ref 294), (5, .int (n32 i)), (7, .double r)] [] e w m B
  refine BX_l [.aload 4, .iconst 0, .daload, .aload 4, .iconst 0, .daload, .dcmp .l] (st' := [.int (Op.cmpValue (FP.dcmp (xtd (w 294)) (xtd (w 294))) .l)]) rfl ?_
  rw [hw, show xtd (.double r) = r from rfl]
  refine BX_eq (fun c' => absurd c' c) (fun c => BX_gow ?_)
  refine LX_at hbe ?_
  show BX _ _ _ [(0, .ref 1000000), (1, .ref 0), (2, .ref 283), (3, .ref 293), (4, .ref 294), (5, .int (n32 i)), (7, .double r)] [] e w m B
  refine BX_l [.dload 7, .dload 7, .dcmp .l] (st' := [.int (Op.cmpValue (FP.dcmp r r) .l)]) rfl ?_
  exact BX_ne (fun _ => go5) (fun c' => absurd c' c)

end LAWC
