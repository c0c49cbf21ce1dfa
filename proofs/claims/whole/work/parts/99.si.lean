/-! The whole law at X. -/
/-- the whole law at X -/
theorem law_X {len : Nat} {f : Nat → Int32} (hl : len ≤ 3072) : ∃ n e' w' m', xrun (len + 1, f) n 40 382 0 [(0, .ref 1000000)] [] ([], 0, cw0, cm0) = some (.inl (some (.int 1)), S0, e', w', m') ∧ e' ≤ 512 := by
  obtain ⟨w1, m1, w2, m2, hA, hB, hC⟩ := ct_get
  have hc : CPL (uz (uz m2 293) 294) 0 := by
    exact cel_CPL (show celC (uz (uz m2 293) 294) = true from hC)
  obtain ⟨n, e', w', m', h1, h2⟩ := lloop (len := len) (f := f) (D := 18) (B := 512) hl 512 0 0 (uw (uw w2 293 .null) 294 .null) (uz (uz m2 293) 294) 0 hc (by omega) (by omega) (by omega) (by omega)
  refine ⟨max n 400 + 1, e', w', m', ?_, h2⟩
  have qA : xCf (max n 400) 40 90 [.ref 0] (cS1, 0, cw0, uz cm0 0) = some (.inl none, cS2, 0, w1, m1) := xrun_le' (Nat.le_max_right _ _) hA
  have qB : xCf (max n 400) 40 173 [.ref 283] (cS3, 0, w1, uz m1 283) = some (.inl none, cS4, 0, w2, m2) := xrun_le' (Nat.le_max_right _ _) hB
  have qL : xrun (len + 1, f) (max n 400) 40 382 1 (lsL 0) [] (S0, 0, uw (uw w2 293 .null) 294 .null, uz (uz m2 293) 294) = _ := xrun_le' (Nat.le_max_left _ _) h1
  unfold xrun
  rw [xm382]
  dsimp only
  rw [b0]
  dsimp only
  rw [show xnorm [0] [(0, Value.ref 1000000)] = [(0, Value.ref 1000000)] from rfl]
  have s1 : xseq (len + 1, f) [.new 10, .dup] [(0, .ref 1000000)] [] ([], 0, cw0, cm0) = some ([(0, .ref 1000000)], [.ref 0, .ref 0], (cS1, 0, cw0, uz cm0 0)) := by
    simp only [xseq, xnc, xone]
    rw [if_pos (show (10 : Nat) < 12 ∧ xfresh [] [(0, .ref 1000000)] [] = true from ⟨by decide, fr0⟩)]
    rfl
  rw [xblk_seq [.new 10, .dup] _ _ _ s1]
  dsimp only
  rw [xblk_ip]
  refine Eq.trans (xcall_nw (C := xCf (max n 400) 40) (as := [.ref 0]) (st := [.ref 0]) km90 rfl rfl (Nat.le_of_ble_eq_true rfl) (Nat.le_of_ble_eq_true rfl) qA ⟨rfl, rfl⟩) ?_
  have s2 : xseq (len + 1, f) [.astore 1, .new 11, .dup] [(0, .ref 1000000)] [.ref 0] (cS2, 0, w1, m1) = some ([(1, .ref 0), (0, .ref 1000000)], [.ref 283, .ref 283], (cS3, 0, w1, uz m1 283)) := by
    simp only [xseq, xnc, xone]
    rw [show xst [(0, Value.ref 1000000)] 1 (.ref 0) = [(1, .ref 0), (0, .ref 1000000)] from rfl, if_pos (show (11 : Nat) < 12 ∧ xfresh cS2 [(1, .ref 0), (0, .ref 1000000)] [] = true from ⟨by decide, fr2⟩)]
    dsimp only
    rw [len2]
    rfl
  rw [xblk_seq [.astore 1, .new 11, .dup] _ _ _ s2]
  dsimp only
  rw [xblk_ip]
  refine Eq.trans (xcall_nw (C := xCf (max n 400) 40) (as := [.ref 283]) (st := [.ref 283]) km173 rfl rc283 (Nat.le_of_ble_eq_true rfl) (Nat.le_of_ble_eq_true rfl) qB ⟨by decide +kernel, by decide +kernel⟩) ?_
  have s3 : xseq (len + 1, f) [.astore 2, .iconst 1, .newarray .long, .astore 3, .iconst 1, .newarray .double, .astore 4, .iconst 0, .istore 5] [(1, .ref 0), (0, .ref 1000000)] [.ref 283] (cS4, 0, w2, m2) = some ([(5, .int (n32 0)), (4, .ref 294), (3, .ref 293), (2, .ref 283), (1, .ref 0), (0, .ref 1000000)], [], (S0, 0, uw (uw w2 293 .null) 294 .null, uz (uz m2 293) 294)) := by
    simp only [xseq, xnc, xone]
    rw [show xst [(1, Value.ref 0), (0, .ref 1000000)] 2 (.ref 283) = [(2, .ref 283), (1, .ref 0), (0, .ref 1000000)] from rfl]
    rw [if_pos (show 0 ≤ Int32.ofInt 1 ∧ (Int32.ofInt 1).toNatClampNeg ≤ 5000 ∧ xfresh cS4 [(2, .ref 283), (1, .ref 0), (0, .ref 1000000)] [] = true from ⟨by decide, by decide, fr4⟩), if_pos (show xkind .long = 23 ∨ xkind .long = 24 from Or.inl rfl), if_pos (show Int32.ofInt 1 = 1 from rfl)]
    dsimp only
    rw [show xkind .long = 23 from rfl, len4, show xst [(2, Value.ref 283), (1, .ref 0), (0, .ref 1000000)] 3 (.ref 293) = [(3, .ref 293), (2, .ref 283), (1, .ref 0), (0, .ref 1000000)] from rfl]
    rw [if_pos (show 0 ≤ Int32.ofInt 1 ∧ (Int32.ofInt 1).toNatClampNeg ≤ 5000 ∧ xfresh (cS4 ++ [(23, 1, [])]) [(3, .ref 293), (2, .ref 283), (1, .ref 0), (0, .ref 1000000)] [] = true from ⟨by decide, by decide, fr5⟩), if_pos (show xkind .double = 23 ∨ xkind .double = 24 from Or.inr rfl), if_pos (show Int32.ofInt 1 = 1 from rfl)]
    dsimp only
    rw [len5]
    rw [show xkind .double = 24 from rfl, cS0]
    rfl
  rw [xblk_seq _ _ _ _ s3]
  dsimp only
  show xrun (len + 1, f) (max n 400) 40 382 1 [(5, .int (n32 0)), (4, .ref 294), (3, .ref 293), (2, .ref 283), (1, .ref 0), (0, .ref 1000000)] [] _ = _
  have hn : xnorm [0, 1, 2, 3, 4, 5] [(5, .int (n32 0)), (4, .ref 294), (3, .ref 293), (2, .ref 283), (1, .ref 0), (0, .ref 1000000)] = xnorm [0, 1, 2, 3, 4, 5] (lsL 0) := rfl
  rw [← qL]
  cases max n 400 with
  | zero => rfl
  | succ k =>
    unfold xrun
    rw [xm382]
    dsimp only
    rw [b1]
    dsimp only
    rw [hn]
