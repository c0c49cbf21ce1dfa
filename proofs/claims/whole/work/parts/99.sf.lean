/-! The law case by case. -/
section LAWF
variable {len : Nat} {f : Nat → Int32} {D : Nat} {e i : Nat} {w : Nat → Value} {m : XM} {B N : Nat}
theorem V_174 {E : Nat → XM → Prop} : VI D 174 [vR 11 283] m (fun x m' => x = m 283 0 ∧ m' = m) E := w174_0 ⟨rfl, rfl⟩
theorem cI0 {L W z mlW mlz rtz : Nat} {A B5 C X X2 : Int} {hd : List (Nat × Nat × Nat)} {bsW bsz : List XB} (hb : xM382.2.2.2.2.2[L]? = some ([0, 1, 2, 3, 4, 5], [.aload 1, .aload 3, .invokestatic W, .istore 6, .aload 2, .invokevirtual z, .istore 7, .aload 2, .invokevirtual 174, .iload 6, .if_icmp .eq A, .goto_w X])) (hb2 : xM382.2.2.2.2.2[A.toNat]? = some ([0, 1, 2, 3, 4, 5, 6, 7], [.iload 6, .ifCond .ne B5, .goto_w C])) (hb5 : xM382.2.2.2.2.2[B5.toNat]? = some ([0, 1, 2, 3, 4, 5], [.goto 378])) (hb3 : xM382.2.2.2.2.2[C.toNat]? = some ([0, 1, 2, 3, 4, 5, 7], [.aload 3, .iconst 0, .laload, .iload 7, .i2l, .lcmp, .ifCond .eq B5, .goto_w X2]))
    (hW : xmt W = some (2, mlW, 99, 1, hd, bsW)) (hmW : 2 ≤ mlW) (hz : xmt z = some (1, mlz, 11, rtz, [], bsz)) (hmz : 1 ≤ mlz) (hrt : ∀ v, vrt rtz v → ∃ x, v = some (.int x))
    (wr : WR (D + 21) W [.ref 0, .ref 293] m 293 (QI (D + 20) z [vR 11 283] N) (QE (D + 20) z [vR 11 283] N)) (hi : i + 6 ≤ len) (hl : len ≤ 3072)
    (h : ∀ e' w' m', e' ≤ e + 1 → CPL m' N → LX (len + 1, f) (D + 22) 378 (lsL i) [] e' w' m' B) : LX (len + 1, f) (D + 22) L (lsL i) [] e w m B := by
  have rest : ∀ (k e1 : Nat) (w1 : Nat → Value) (m1 : XM) (P : Int32 → XM → Prop), V (D + 20) z [vR 11 283] m1 (fun v m2 => P (xti v) m2) (fun _ _ => False) → (∀ r m2, P r m2 → m2 283 0 = n32 k ∧ k ≤ 3 ∧ CPL m2 N ∧ (k = 0 → w1 293 = .long r.toInt64)) → e1 ≤ e + 1 → BX (len + 1, f) (D + 22) [.istore 6, .aload 2, .invokevirtual z, .istore 7, .aload 2, .invokevirtual 174, .iload 6, .if_icmp .eq A, .goto_w X] (lsL i) [.int (n32 k)] e1 w1 m1 B := by
    intro k e1 w1 m1 P hV hP he
    refine BX_1 (ls' := (6, .int (n32 k)) :: lsL i) (st' := []) rfl ?_
    refine BX_1 (ls' := (6, .int (n32 k)) :: lsL i) (st' := [.ref 283]) rfl ?_
    refine BX_call (args := [vR 11 283]) (st := []) hz rfl (Nat.le_of_ble_eq_true rfl) hmz (ws_r ws_nil) (V_deep (Nat.le_succ _) hV) (fun x m' _ q => q) (fun v m2 hv hq => ?_)
    obtain ⟨x, rfl⟩ := hrt v hv
    obtain ⟨q1, q2, q3, q4⟩ := hP x m2 hq
    refine BX_1 (ls' := (7, .int x) :: (6, .int (n32 k)) :: lsL i) (st' := []) rfl ?_
    refine BX_1 (ls' := (7, .int x) :: (6, .int (n32 k)) :: lsL i) (st' := [.ref 283]) rfl ?_
    refine BX_call (args := [vR 11 283]) (st := []) km174 rfl (Nat.le_of_ble_eq_true rfl) (Nat.le_of_ble_eq_true rfl) (ws_r ws_nil) (V_174 (D := D + 21) (m := m2)) (fun x m' _ q => q) (fun v m3 hv hq => ?_)
    obtain ⟨y, rfl⟩ := hv
    obtain ⟨hy, hm⟩ := hq
    rw [hm]
    refine BX_1 (ls' := (7, .int x) :: (6, .int (n32 k)) :: lsL i) (st' := [.int (n32 k), .int y]) rfl ?_
    exact BX_ieq (hy.trans q1) (tlI (C4 := 0) (C5 := 0) (C6 := 0) (C7 := 0) q2 hb2 hb5 hb3 q4 (h e1 w1 m2 he q3))
  refine LX_at hb ?_
  show BX _ _ _ (lsL i) [] e w m B
  refine BX_1 (ls' := lsL i) (st' := [.ref 0]) rfl ?_
  refine BX_1 (ls' := lsL i) (st' := [.ref 293, .ref 0]) rfl ?_
  refine BX_wr (rc := 0) (as := [.ref 0, .ref 293]) (st := []) hW rfl (Nat.le_of_ble_eq_true rfl) hmW wr (fun v m1 q => ?_) (fun k m1 q => ?_)
  · obtain ⟨r, rfl, hq⟩ := q
    refine rest 0 e _ m1 (fun r2 m2 => (r = r2 ∧ m2 283 0 = n32 0) ∧ CPL m2 N) hq (fun r2 m2 hp => ?_) (Nat.le_succ _)
    obtain ⟨⟨rfl, p2⟩, p3⟩ := hp
    exact ⟨p2, by omega, p3, fun _ => if_pos rfl⟩
  · refine rest k (e + 1) w m1 (fun _ m2 => (m2 283 0 = n32 k ∧ 1 ≤ k ∧ k ≤ 3) ∧ CPL m2 N) q (fun r2 m2 hp => ?_) (Nat.le_refl _)
    obtain ⟨⟨p1, p2, p4⟩, p3⟩ := hp
    exact ⟨p1, p4, p3, fun c => absurd c (by omega)⟩

theorem cI1 {L W z mlW mlz rtz : Nat} {A B5 C X X2 : Int} {hd : List (Nat × Nat × Nat)} {bsW bsz : List XB} (hb : xM382.2.2.2.2.2[L]? = some ([0, 1, 2, 3, 4, 5], [.aload 1, .aload 0, .iload 5, .iconst 1, .iadd, .iaload, .aload 3, .invokestatic W, .istore 6, .aload 2, .aload 0, .iload 5, .iconst 1, .iadd, .iaload, .invokevirtual z, .istore 7, .aload 2, .invokevirtual 174, .iload 6, .if_icmp .eq A, .goto_w X])) (hb2 : xM382.2.2.2.2.2[A.toNat]? = some ([0, 1, 2, 3, 4, 5, 6, 7], [.iload 6, .ifCond .ne B5, .goto_w C])) (hb5 : xM382.2.2.2.2.2[B5.toNat]? = some ([0, 1, 2, 3, 4, 5], [.goto 378])) (hb3 : xM382.2.2.2.2.2[C.toNat]? = some ([0, 1, 2, 3, 4, 5, 7], [.aload 3, .iconst 0, .laload, .iload 7, .i2l, .lcmp, .ifCond .eq B5, .goto_w X2]))
    (hW : xmt W = some (3, mlW, 99, 1, hd, bsW)) (hmW : 3 ≤ mlW) (hz : xmt z = some (2, mlz, 11, rtz, [], bsz)) (hmz : 2 ≤ mlz) (hrt : ∀ v, vrt rtz v → ∃ x, v = some (.int x))
    (wr : WR (D + 21) W [.ref 0, .int (f (i + 1)), .ref 293] m 293 (QI (D + 20) z [vR 11 283, vI (f (i + 1))] N) (QE (D + 20) z [vR 11 283, vI (f (i + 1))] N)) (hi : i + 6 ≤ len) (hl : len ≤ 3072)
    (h : ∀ e' w' m', e' ≤ e + 1 → CPL m' N → LX (len + 1, f) (D + 22) 378 (lsL i) [] e' w' m' B) : LX (len + 1, f) (D + 22) L (lsL i) [] e w m B := by
  have rest : ∀ (k e1 : Nat) (w1 : Nat → Value) (m1 : XM) (P : Int32 → XM → Prop), V (D + 20) z [vR 11 283, vI (f (i + 1))] m1 (fun v m2 => P (xti v) m2) (fun _ _ => False) → (∀ r m2, P r m2 → m2 283 0 = n32 k ∧ k ≤ 3 ∧ CPL m2 N ∧ (k = 0 → w1 293 = .long r.toInt64)) → e1 ≤ e + 1 → BX (len + 1, f) (D + 22) [.istore 6, .aload 2, .aload 0, .iload 5, .iconst 1, .iadd, .iaload, .invokevirtual z, .istore 7, .aload 2, .invokevirtual 174, .iload 6, .if_icmp .eq A, .goto_w X] (lsL i) [.int (n32 k)] e1 w1 m1 B := by
    intro k e1 w1 m1 P hV hP he
    refine BX_1 (ls' := (6, .int (n32 k)) :: lsL i) (st' := []) rfl ?_
    refine BX_1 (ls' := (6, .int (n32 k)) :: lsL i) (st' := [.ref 283]) rfl ?_
    refine BX_arg (k := 1) rfl (by omega) hl rfl rfl ?_
    refine BX_call (args := [vR 11 283, vI (f (i + 1))]) (st := []) hz rfl (Nat.le_of_ble_eq_true rfl) hmz (ws_r (ws_i ws_nil)) (V_deep (Nat.le_succ _) hV) (fun x m' _ q => q) (fun v m2 hv hq => ?_)
    obtain ⟨x, rfl⟩ := hrt v hv
    obtain ⟨q1, q2, q3, q4⟩ := hP x m2 hq
    refine BX_1 (ls' := (7, .int x) :: (6, .int (n32 k)) :: lsL i) (st' := []) rfl ?_
    refine BX_1 (ls' := (7, .int x) :: (6, .int (n32 k)) :: lsL i) (st' := [.ref 283]) rfl ?_
    refine BX_call (args := [vR 11 283]) (st := []) km174 rfl (Nat.le_of_ble_eq_true rfl) (Nat.le_of_ble_eq_true rfl) (ws_r ws_nil) (V_174 (D := D + 21) (m := m2)) (fun x m' _ q => q) (fun v m3 hv hq => ?_)
    obtain ⟨y, rfl⟩ := hv
    obtain ⟨hy, hm⟩ := hq
    rw [hm]
    refine BX_1 (ls' := (7, .int x) :: (6, .int (n32 k)) :: lsL i) (st' := [.int (n32 k), .int y]) rfl ?_
    exact BX_ieq (hy.trans q1) (tlI (C4 := 0) (C5 := 0) (C6 := 0) (C7 := 0) q2 hb2 hb5 hb3 q4 (h e1 w1 m2 he q3))
  refine LX_at hb ?_
  show BX _ _ _ (lsL i) [] e w m B
  refine BX_1 (ls' := lsL i) (st' := [.ref 0]) rfl ?_
  refine BX_arg (k := 1) rfl (by omega) hl rfl rfl ?_
  refine BX_1 (ls' := lsL i) (st' := [.ref 293, .int (f (i + 1)), .ref 0]) rfl ?_
  refine BX_wr (rc := 0) (as := [.ref 0, .int (f (i + 1)), .ref 293]) (st := []) hW rfl (Nat.le_of_ble_eq_true rfl) hmW wr (fun v m1 q => ?_) (fun k m1 q => ?_)
  · obtain ⟨r, rfl, hq⟩ := q
    refine rest 0 e _ m1 (fun r2 m2 => (r = r2 ∧ m2 283 0 = n32 0) ∧ CPL m2 N) hq (fun r2 m2 hp => ?_) (Nat.le_succ _)
    obtain ⟨⟨rfl, p2⟩, p3⟩ := hp
    exact ⟨p2, by omega, p3, fun _ => if_pos rfl⟩
  · refine rest k (e + 1) w m1 (fun _ m2 => (m2 283 0 = n32 k ∧ 1 ≤ k ∧ k ≤ 3) ∧ CPL m2 N) q (fun r2 m2 hp => ?_) (Nat.le_refl _)
    obtain ⟨⟨p1, p2, p4⟩, p3⟩ := hp
    exact ⟨p1, p4, p3, fun c => absurd c (by omega)⟩

theorem cI2 {L W z mlW mlz rtz : Nat} {A B5 C X X2 : Int} {hd : List (Nat × Nat × Nat)} {bsW bsz : List XB} (hb : xM382.2.2.2.2.2[L]? = some ([0, 1, 2, 3, 4, 5], [.aload 1, .aload 0, .iload 5, .iconst 1, .iadd, .iaload, .aload 0, .iload 5, .iconst 2, .iadd, .iaload, .aload 3, .invokestatic W, .istore 6, .aload 2, .aload 0, .iload 5, .iconst 1, .iadd, .iaload, .aload 0, .iload 5, .iconst 2, .iadd, .iaload, .invokevirtual z, .istore 7, .aload 2, .invokevirtual 174, .iload 6, .if_icmp .eq A, .goto_w X])) (hb2 : xM382.2.2.2.2.2[A.toNat]? = some ([0, 1, 2, 3, 4, 5, 6, 7], [.iload 6, .ifCond .ne B5, .goto_w C])) (hb5 : xM382.2.2.2.2.2[B5.toNat]? = some ([0, 1, 2, 3, 4, 5], [.goto 378])) (hb3 : xM382.2.2.2.2.2[C.toNat]? = some ([0, 1, 2, 3, 4, 5, 7], [.aload 3, .iconst 0, .laload, .iload 7, .i2l, .lcmp, .ifCond .eq B5, .goto_w X2]))
    (hW : xmt W = some (4, mlW, 99, 1, hd, bsW)) (hmW : 4 ≤ mlW) (hz : xmt z = some (3, mlz, 11, rtz, [], bsz)) (hmz : 3 ≤ mlz) (hrt : ∀ v, vrt rtz v → ∃ x, v = some (.int x))
    (wr : WR (D + 21) W [.ref 0, .int (f (i + 1)), .int (f (i + 2)), .ref 293] m 293 (QI (D + 20) z [vR 11 283, vI (f (i + 1)), vI (f (i + 2))] N) (QE (D + 20) z [vR 11 283, vI (f (i + 1)), vI (f (i + 2))] N)) (hi : i + 6 ≤ len) (hl : len ≤ 3072)
    (h : ∀ e' w' m', e' ≤ e + 1 → CPL m' N → LX (len + 1, f) (D + 22) 378 (lsL i) [] e' w' m' B) : LX (len + 1, f) (D + 22) L (lsL i) [] e w m B := by
  have rest : ∀ (k e1 : Nat) (w1 : Nat → Value) (m1 : XM) (P : Int32 → XM → Prop), V (D + 20) z [vR 11 283, vI (f (i + 1)), vI (f (i + 2))] m1 (fun v m2 => P (xti v) m2) (fun _ _ => False) → (∀ r m2, P r m2 → m2 283 0 = n32 k ∧ k ≤ 3 ∧ CPL m2 N ∧ (k = 0 → w1 293 = .long r.toInt64)) → e1 ≤ e + 1 → BX (len + 1, f) (D + 22) [.istore 6, .aload 2, .aload 0, .iload 5, .iconst 1, .iadd, .iaload, .aload 0, .iload 5, .iconst 2, .iadd, .iaload, .invokevirtual z, .istore 7, .aload 2, .invokevirtual 174, .iload 6, .if_icmp .eq A, .goto_w X] (lsL i) [.int (n32 k)] e1 w1 m1 B := by
    intro k e1 w1 m1 P hV hP he
    refine BX_1 (ls' := (6, .int (n32 k)) :: lsL i) (st' := []) rfl ?_
    refine BX_1 (ls' := (6, .int (n32 k)) :: lsL i) (st' := [.ref 283]) rfl ?_
    refine BX_arg (k := 1) rfl (by omega) hl rfl rfl ?_
    refine BX_arg (k := 2) rfl (by omega) hl rfl rfl ?_
    refine BX_call (args := [vR 11 283, vI (f (i + 1)), vI (f (i + 2))]) (st := []) hz rfl (Nat.le_of_ble_eq_true rfl) hmz (ws_r (ws_i (ws_i ws_nil))) (V_deep (Nat.le_succ _) hV) (fun x m' _ q => q) (fun v m2 hv hq => ?_)
    obtain ⟨x, rfl⟩ := hrt v hv
    obtain ⟨q1, q2, q3, q4⟩ := hP x m2 hq
    refine BX_1 (ls' := (7, .int x) :: (6, .int (n32 k)) :: lsL i) (st' := []) rfl ?_
    refine BX_1 (ls' := (7, .int x) :: (6, .int (n32 k)) :: lsL i) (st' := [.ref 283]) rfl ?_
    refine BX_call (args := [vR 11 283]) (st := []) km174 rfl (Nat.le_of_ble_eq_true rfl) (Nat.le_of_ble_eq_true rfl) (ws_r ws_nil) (V_174 (D := D + 21) (m := m2)) (fun x m' _ q => q) (fun v m3 hv hq => ?_)
    obtain ⟨y, rfl⟩ := hv
    obtain ⟨hy, hm⟩ := hq
    rw [hm]
    refine BX_1 (ls' := (7, .int x) :: (6, .int (n32 k)) :: lsL i) (st' := [.int (n32 k), .int y]) rfl ?_
    exact BX_ieq (hy.trans q1) (tlI (C4 := 0) (C5 := 0) (C6 := 0) (C7 := 0) q2 hb2 hb5 hb3 q4 (h e1 w1 m2 he q3))
  refine LX_at hb ?_
  show BX _ _ _ (lsL i) [] e w m B
  refine BX_1 (ls' := lsL i) (st' := [.ref 0]) rfl ?_
  refine BX_arg (k := 1) rfl (by omega) hl rfl rfl ?_
  refine BX_arg (k := 2) rfl (by omega) hl rfl rfl ?_
  refine BX_1 (ls' := lsL i) (st' := [.ref 293, .int (f (i + 2)), .int (f (i + 1)), .ref 0]) rfl ?_
  refine BX_wr (rc := 0) (as := [.ref 0, .int (f (i + 1)), .int (f (i + 2)), .ref 293]) (st := []) hW rfl (Nat.le_of_ble_eq_true rfl) hmW wr (fun v m1 q => ?_) (fun k m1 q => ?_)
  · obtain ⟨r, rfl, hq⟩ := q
    refine rest 0 e _ m1 (fun r2 m2 => (r = r2 ∧ m2 283 0 = n32 0) ∧ CPL m2 N) hq (fun r2 m2 hp => ?_) (Nat.le_succ _)
    obtain ⟨⟨rfl, p2⟩, p3⟩ := hp
    exact ⟨p2, by omega, p3, fun _ => if_pos rfl⟩
  · refine rest k (e + 1) w m1 (fun _ m2 => (m2 283 0 = n32 k ∧ 1 ≤ k ∧ k ≤ 3) ∧ CPL m2 N) q (fun r2 m2 hp => ?_) (Nat.le_refl _)
    obtain ⟨⟨p1, p2, p4⟩, p3⟩ := hp
    exact ⟨p1, p4, p3, fun c => absurd c (by omega)⟩

theorem cB1 {L W z mlW mlz rtz : Nat} {A B5 C C4 C5 C6 X X2 : Int} {hd : List (Nat × Nat × Nat)} {bsW bsz : List XB} (hb : xM382.2.2.2.2.2[L]? = some ([0, 1, 2, 3, 4, 5], [.aload 1, .aload 0, .iload 5, .iconst 1, .iadd, .iaload, .aload 3, .invokestatic W, .istore 6, .aload 2, .aload 0, .iload 5, .iconst 1, .iadd, .iaload, .invokevirtual z, .istore 7, .aload 2, .invokevirtual 174, .iload 6, .if_icmp .eq A, .goto_w X])) (hb2 : xM382.2.2.2.2.2[A.toNat]? = some ([0, 1, 2, 3, 4, 5, 6, 7], [.iload 6, .ifCond .ne B5, .goto_w C])) (hb5 : xM382.2.2.2.2.2[B5.toNat]? = some ([0, 1, 2, 3, 4, 5], [.goto 378])) (hb3 : xM382.2.2.2.2.2[C.toNat]? = some ([0, 1, 2, 3, 4, 5, 7], [.aload 3, .iconst 0, .laload, .iload 7, .ifCond .eq C5, .goto_w C4])) (hb4 : xM382.2.2.2.2.2[C4.toNat]? = some ([0, 1, 2, 3, 4, 5], [.lconst 1, .goto C6])) (hbe : xM382.2.2.2.2.2[C5.toNat]? = some ([0, 1, 2, 3, 4, 5], [.lconst 0, .goto_w C6])) (hb6 : xM382.2.2.2.2.2[C6.toNat]? = some ([0, 1, 2, 3, 4, 5], [.lcmp, .ifCond .eq B5, .goto_w X2]))
    (hW : xmt W = some (3, mlW, 99, 1, hd, bsW)) (hmW : 3 ≤ mlW) (hz : xmt z = some (2, mlz, 11, rtz, [], bsz)) (hmz : 2 ≤ mlz) (hrt : ∀ v, vrt rtz v → ∃ x, v = some (.int x))
    (wr : WR (D + 21) W [.ref 0, .int (f (i + 1)), .ref 293] m 293 (QB (D + 20) z [vR 11 283, vI (f (i + 1))] N) (QE (D + 20) z [vR 11 283, vI (f (i + 1))] N)) (hi : i + 6 ≤ len) (hl : len ≤ 3072)
    (h : ∀ e' w' m', e' ≤ e + 1 → CPL m' N → LX (len + 1, f) (D + 22) 378 (lsL i) [] e' w' m' B) : LX (len + 1, f) (D + 22) L (lsL i) [] e w m B := by
  have rest : ∀ (k e1 : Nat) (w1 : Nat → Value) (m1 : XM) (P : Int32 → XM → Prop), V (D + 20) z [vR 11 283, vI (f (i + 1))] m1 (fun v m2 => P (xti v) m2) (fun _ _ => False) → (∀ r m2, P r m2 → m2 283 0 = n32 k ∧ k ≤ 3 ∧ CPL m2 N ∧ (k = 0 → w1 293 = .long (if r = 0 then 0 else 1))) → e1 ≤ e + 1 → BX (len + 1, f) (D + 22) [.istore 6, .aload 2, .aload 0, .iload 5, .iconst 1, .iadd, .iaload, .invokevirtual z, .istore 7, .aload 2, .invokevirtual 174, .iload 6, .if_icmp .eq A, .goto_w X] (lsL i) [.int (n32 k)] e1 w1 m1 B := by
    intro k e1 w1 m1 P hV hP he
    refine BX_1 (ls' := (6, .int (n32 k)) :: lsL i) (st' := []) rfl ?_
    refine BX_1 (ls' := (6, .int (n32 k)) :: lsL i) (st' := [.ref 283]) rfl ?_
    refine BX_arg (k := 1) rfl (by omega) hl rfl rfl ?_
    refine BX_call (args := [vR 11 283, vI (f (i + 1))]) (st := []) hz rfl (Nat.le_of_ble_eq_true rfl) hmz (ws_r (ws_i ws_nil)) (V_deep (Nat.le_succ _) hV) (fun x m' _ q => q) (fun v m2 hv hq => ?_)
    obtain ⟨x, rfl⟩ := hrt v hv
    obtain ⟨q1, q2, q3, q4⟩ := hP x m2 hq
    refine BX_1 (ls' := (7, .int x) :: (6, .int (n32 k)) :: lsL i) (st' := []) rfl ?_
    refine BX_1 (ls' := (7, .int x) :: (6, .int (n32 k)) :: lsL i) (st' := [.ref 283]) rfl ?_
    refine BX_call (args := [vR 11 283]) (st := []) km174 rfl (Nat.le_of_ble_eq_true rfl) (Nat.le_of_ble_eq_true rfl) (ws_r ws_nil) (V_174 (D := D + 21) (m := m2)) (fun x m' _ q => q) (fun v m3 hv hq => ?_)
    obtain ⟨y, rfl⟩ := hv
    obtain ⟨hy, hm⟩ := hq
    rw [hm]
    refine BX_1 (ls' := (7, .int x) :: (6, .int (n32 k)) :: lsL i) (st' := [.int (n32 k), .int y]) rfl ?_
    exact BX_ieq (hy.trans q1) (tlB (C7 := 0) q2 hb2 hb5 hb3 hb4 hbe hb6 q4 (h e1 w1 m2 he q3))
  refine LX_at hb ?_
  show BX _ _ _ (lsL i) [] e w m B
  refine BX_1 (ls' := lsL i) (st' := [.ref 0]) rfl ?_
  refine BX_arg (k := 1) rfl (by omega) hl rfl rfl ?_
  refine BX_1 (ls' := lsL i) (st' := [.ref 293, .int (f (i + 1)), .ref 0]) rfl ?_
  refine BX_wr (rc := 0) (as := [.ref 0, .int (f (i + 1)), .ref 293]) (st := []) hW rfl (Nat.le_of_ble_eq_true rfl) hmW wr (fun v m1 q => ?_) (fun k m1 q => ?_)
  · obtain ⟨r, rfl, hq⟩ := q
    refine rest 0 e _ m1 (fun r2 m2 => (r = r2 ∧ m2 283 0 = n32 0) ∧ CPL m2 N) hq (fun r2 m2 hp => ?_) (Nat.le_succ _)
    obtain ⟨⟨rfl, p2⟩, p3⟩ := hp
    exact ⟨p2, by omega, p3, fun _ => if_pos rfl⟩
  · refine rest k (e + 1) w m1 (fun _ m2 => (m2 283 0 = n32 k ∧ 1 ≤ k ∧ k ≤ 3) ∧ CPL m2 N) q (fun r2 m2 hp => ?_) (Nat.le_refl _)
    obtain ⟨⟨p1, p2, p4⟩, p3⟩ := hp
    exact ⟨p1, p4, p3, fun c => absurd c (by omega)⟩

theorem cF1 {L W z mlW mlz rtz : Nat} {A B5 C C4 X : Int} {hd : List (Nat × Nat × Nat)} {bsW bsz : List XB} (hb : xM382.2.2.2.2.2[L]? = some ([0, 1, 2, 3, 4, 5], [.aload 1, .aload 0, .iload 5, .iconst 1, .iadd, .iaload, .aload 4, .invokestatic W, .istore 6, .aload 2, .aload 0, .iload 5, .iconst 1, .iadd, .iaload, .invokevirtual z, .fstore 7, .aload 2, .invokevirtual 174, .iload 6, .if_icmp .eq A, .goto_w X])) (hb2 : xM382.2.2.2.2.2[A.toNat]? = some ([0, 1, 2, 3, 4, 5, 6, 7], [.iload 6, .ifCond .ne B5, .goto_w C])) (hb5 : xM382.2.2.2.2.2[B5.toNat]? = some ([0, 1, 2, 3, 4, 5], [.goto 378])) (hb3 : xM382.2.2.2.2.2[C.toNat]? = some ([0, 1, 2, 3, 4, 5, 7], [.aload 4, .iconst 0, .daload, .fload 7, .f2d, .dcmp .l, .ifCond .eq B5, .goto_w C4]))
    (hW : xmt W = some (3, mlW, 99, 1, hd, bsW)) (hmW : 3 ≤ mlW) (hz : xmt z = some (2, mlz, 11, rtz, [], bsz)) (hmz : 2 ≤ mlz) (hrt : ∀ v, vrt rtz v → ∃ x, v = some (.float x))
    (wr : WR (D + 21) W [.ref 0, .int (f (i + 1)), .ref 294] m 294 (QFl (D + 20) z [vR 11 283, vI (f (i + 1))] N) (QE (D + 20) z [vR 11 283, vI (f (i + 1))] N)) (hi : i + 6 ≤ len) (hl : len ≤ 3072)
    (h : ∀ e' w' m', e' ≤ e + 1 → CPL m' N → LX (len + 1, f) (D + 22) 378 (lsL i) [] e' w' m' B) : LX (len + 1, f) (D + 22) L (lsL i) [] e w m B := by
  have rest : ∀ (k e1 : Nat) (w1 : Nat → Value) (m1 : XM) (P : UInt32 → XM → Prop), V (D + 20) z [vR 11 283, vI (f (i + 1))] m1 (fun v m2 => P (xtf v) m2) (fun _ _ => False) → (∀ r m2, P r m2 → m2 283 0 = n32 k ∧ k ≤ 3 ∧ CPL m2 N ∧ ((k = 0 → r ∈ shL) ∧ (k = 0 → w1 294 = .double (FP.f2d r)))) → e1 ≤ e + 1 → BX (len + 1, f) (D + 22) [.istore 6, .aload 2, .aload 0, .iload 5, .iconst 1, .iadd, .iaload, .invokevirtual z, .fstore 7, .aload 2, .invokevirtual 174, .iload 6, .if_icmp .eq A, .goto_w X] (lsL i) [.int (n32 k)] e1 w1 m1 B := by
    intro k e1 w1 m1 P hV hP he
    refine BX_1 (ls' := (6, .int (n32 k)) :: lsL i) (st' := []) rfl ?_
    refine BX_1 (ls' := (6, .int (n32 k)) :: lsL i) (st' := [.ref 283]) rfl ?_
    refine BX_arg (k := 1) rfl (by omega) hl rfl rfl ?_
    refine BX_call (args := [vR 11 283, vI (f (i + 1))]) (st := []) hz rfl (Nat.le_of_ble_eq_true rfl) hmz (ws_r (ws_i ws_nil)) (V_deep (Nat.le_succ _) hV) (fun x m' _ q => q) (fun v m2 hv hq => ?_)
    obtain ⟨x, rfl⟩ := hrt v hv
    obtain ⟨q1, q2, q3, q4⟩ := hP x m2 hq
    refine BX_1 (ls' := (7, .float x) :: (6, .int (n32 k)) :: lsL i) (st' := []) rfl ?_
    refine BX_1 (ls' := (7, .float x) :: (6, .int (n32 k)) :: lsL i) (st' := [.ref 283]) rfl ?_
    refine BX_call (args := [vR 11 283]) (st := []) km174 rfl (Nat.le_of_ble_eq_true rfl) (Nat.le_of_ble_eq_true rfl) (ws_r ws_nil) (V_174 (D := D + 21) (m := m2)) (fun x m' _ q => q) (fun v m3 hv hq => ?_)
    obtain ⟨y, rfl⟩ := hv
    obtain ⟨hy, hm⟩ := hq
    rw [hm]
    refine BX_1 (ls' := (7, .float x) :: (6, .int (n32 k)) :: lsL i) (st' := [.int (n32 k), .int y]) rfl ?_
    exact BX_ieq (hy.trans q1) (tlF (C5 := 0) (C6 := 0) (C7 := 0) (X := 0) q2 hb2 hb5 hb3 q4.1 q4.2 (h e1 w1 m2 he q3))
  refine LX_at hb ?_
  show BX _ _ _ (lsL i) [] e w m B
  refine BX_1 (ls' := lsL i) (st' := [.ref 0]) rfl ?_
  refine BX_arg (k := 1) rfl (by omega) hl rfl rfl ?_
  refine BX_1 (ls' := lsL i) (st' := [.ref 294, .int (f (i + 1)), .ref 0]) rfl ?_
  refine BX_wr (rc := 0) (as := [.ref 0, .int (f (i + 1)), .ref 294]) (st := []) hW rfl (Nat.le_of_ble_eq_true rfl) hmW wr (fun v m1 q => ?_) (fun k m1 q => ?_)
  · obtain ⟨r, hr, rfl, hq⟩ := q
    refine rest 0 e _ m1 (fun r2 m2 => (r = r2 ∧ m2 283 0 = n32 0) ∧ CPL m2 N) hq (fun r2 m2 hp => ?_) (Nat.le_succ _)
    obtain ⟨⟨rfl, p2⟩, p3⟩ := hp
    exact ⟨p2, by omega, p3, fun _ => hr, fun _ => if_pos rfl⟩
  · refine rest k (e + 1) w m1 (fun _ m2 => (m2 283 0 = n32 k ∧ 1 ≤ k ∧ k ≤ 3) ∧ CPL m2 N) q (fun r2 m2 hp => ?_) (Nat.le_refl _)
    obtain ⟨⟨p1, p2, p4⟩, p3⟩ := hp
    exact ⟨p1, p4, p3, fun c => absurd c (by omega), fun c => absurd c (by omega)⟩

theorem cF2 {L W z mlW mlz rtz : Nat} {A B5 C C4 X : Int} {hd : List (Nat × Nat × Nat)} {bsW bsz : List XB} (hb : xM382.2.2.2.2.2[L]? = some ([0, 1, 2, 3, 4, 5], [.aload 1, .aload 0, .iload 5, .iconst 1, .iadd, .iaload, .aload 0, .iload 5, .iconst 2, .iadd, .iaload, .aload 4, .invokestatic W, .istore 6, .aload 2, .aload 0, .iload 5, .iconst 1, .iadd, .iaload, .aload 0, .iload 5, .iconst 2, .iadd, .iaload, .invokevirtual z, .fstore 7, .aload 2, .invokevirtual 174, .iload 6, .if_icmp .eq A, .goto_w X])) (hb2 : xM382.2.2.2.2.2[A.toNat]? = some ([0, 1, 2, 3, 4, 5, 6, 7], [.iload 6, .ifCond .ne B5, .goto_w C])) (hb5 : xM382.2.2.2.2.2[B5.toNat]? = some ([0, 1, 2, 3, 4, 5], [.goto 378])) (hb3 : xM382.2.2.2.2.2[C.toNat]? = some ([0, 1, 2, 3, 4, 5, 7], [.aload 4, .iconst 0, .daload, .fload 7, .f2d, .dcmp .l, .ifCond .eq B5, .goto_w C4]))
    (hW : xmt W = some (4, mlW, 99, 1, hd, bsW)) (hmW : 4 ≤ mlW) (hz : xmt z = some (3, mlz, 11, rtz, [], bsz)) (hmz : 3 ≤ mlz) (hrt : ∀ v, vrt rtz v → ∃ x, v = some (.float x))
    (wr : WR (D + 21) W [.ref 0, .int (f (i + 1)), .int (f (i + 2)), .ref 294] m 294 (QFl (D + 20) z [vR 11 283, vI (f (i + 1)), vI (f (i + 2))] N) (QE (D + 20) z [vR 11 283, vI (f (i + 1)), vI (f (i + 2))] N)) (hi : i + 6 ≤ len) (hl : len ≤ 3072)
    (h : ∀ e' w' m', e' ≤ e + 1 → CPL m' N → LX (len + 1, f) (D + 22) 378 (lsL i) [] e' w' m' B) : LX (len + 1, f) (D + 22) L (lsL i) [] e w m B := by
  have rest : ∀ (k e1 : Nat) (w1 : Nat → Value) (m1 : XM) (P : UInt32 → XM → Prop), V (D + 20) z [vR 11 283, vI (f (i + 1)), vI (f (i + 2))] m1 (fun v m2 => P (xtf v) m2) (fun _ _ => False) → (∀ r m2, P r m2 → m2 283 0 = n32 k ∧ k ≤ 3 ∧ CPL m2 N ∧ ((k = 0 → r ∈ shL) ∧ (k = 0 → w1 294 = .double (FP.f2d r)))) → e1 ≤ e + 1 → BX (len + 1, f) (D + 22) [.istore 6, .aload 2, .aload 0, .iload 5, .iconst 1, .iadd, .iaload, .aload 0, .iload 5, .iconst 2, .iadd, .iaload, .invokevirtual z, .fstore 7, .aload 2, .invokevirtual 174, .iload 6, .if_icmp .eq A, .goto_w X] (lsL i) [.int (n32 k)] e1 w1 m1 B := by
    intro k e1 w1 m1 P hV hP he
    refine BX_1 (ls' := (6, .int (n32 k)) :: lsL i) (st' := []) rfl ?_
    refine BX_1 (ls' := (6, .int (n32 k)) :: lsL i) (st' := [.ref 283]) rfl ?_
    refine BX_arg (k := 1) rfl (by omega) hl rfl rfl ?_
    refine BX_arg (k := 2) rfl (by omega) hl rfl rfl ?_
    refine BX_call (args := [vR 11 283, vI (f (i + 1)), vI (f (i + 2))]) (st := []) hz rfl (Nat.le_of_ble_eq_true rfl) hmz (ws_r (ws_i (ws_i ws_nil))) (V_deep (Nat.le_succ _) hV) (fun x m' _ q => q) (fun v m2 hv hq => ?_)
    obtain ⟨x, rfl⟩ := hrt v hv
    obtain ⟨q1, q2, q3, q4⟩ := hP x m2 hq
    refine BX_1 (ls' := (7, .float x) :: (6, .int (n32 k)) :: lsL i) (st' := []) rfl ?_
    refine BX_1 (ls' := (7, .float x) :: (6, .int (n32 k)) :: lsL i) (st' := [.ref 283]) rfl ?_
    refine BX_call (args := [vR 11 283]) (st := []) km174 rfl (Nat.le_of_ble_eq_true rfl) (Nat.le_of_ble_eq_true rfl) (ws_r ws_nil) (V_174 (D := D + 21) (m := m2)) (fun x m' _ q => q) (fun v m3 hv hq => ?_)
    obtain ⟨y, rfl⟩ := hv
    obtain ⟨hy, hm⟩ := hq
    rw [hm]
    refine BX_1 (ls' := (7, .float x) :: (6, .int (n32 k)) :: lsL i) (st' := [.int (n32 k), .int y]) rfl ?_
    exact BX_ieq (hy.trans q1) (tlF (C5 := 0) (C6 := 0) (C7 := 0) (X := 0) q2 hb2 hb5 hb3 q4.1 q4.2 (h e1 w1 m2 he q3))
  refine LX_at hb ?_
  show BX _ _ _ (lsL i) [] e w m B
  refine BX_1 (ls' := lsL i) (st' := [.ref 0]) rfl ?_
  refine BX_arg (k := 1) rfl (by omega) hl rfl rfl ?_
  refine BX_arg (k := 2) rfl (by omega) hl rfl rfl ?_
  refine BX_1 (ls' := lsL i) (st' := [.ref 294, .int (f (i + 2)), .int (f (i + 1)), .ref 0]) rfl ?_
  refine BX_wr (rc := 0) (as := [.ref 0, .int (f (i + 1)), .int (f (i + 2)), .ref 294]) (st := []) hW rfl (Nat.le_of_ble_eq_true rfl) hmW wr (fun v m1 q => ?_) (fun k m1 q => ?_)
  · obtain ⟨r, hr, rfl, hq⟩ := q
    refine rest 0 e _ m1 (fun r2 m2 => (r = r2 ∧ m2 283 0 = n32 0) ∧ CPL m2 N) hq (fun r2 m2 hp => ?_) (Nat.le_succ _)
    obtain ⟨⟨rfl, p2⟩, p3⟩ := hp
    exact ⟨p2, by omega, p3, fun _ => hr, fun _ => if_pos rfl⟩
  · refine rest k (e + 1) w m1 (fun _ m2 => (m2 283 0 = n32 k ∧ 1 ≤ k ∧ k ≤ 3) ∧ CPL m2 N) q (fun r2 m2 hp => ?_) (Nat.le_refl _)
    obtain ⟨⟨p1, p2, p4⟩, p3⟩ := hp
    exact ⟨p1, p4, p3, fun c => absurd c (by omega), fun c => absurd c (by omega)⟩

theorem cD0 {L W z mlW mlz rtz : Nat} {A B5 C C4 C5 C6 X : Int} {hd : List (Nat × Nat × Nat)} {bsW bsz : List XB} (hb : xM382.2.2.2.2.2[L]? = some ([0, 1, 2, 3, 4, 5], [.aload 1, .aload 4, .invokestatic W, .istore 6, .aload 2, .invokevirtual z, .dstore 7, .aload 2, .invokevirtual 174, .iload 6, .if_icmp .eq A, .goto_w X])) (hb2 : xM382.2.2.2.2.2[A.toNat]? = some ([0, 1, 2, 3, 4, 5, 6, 7], [.iload 6, .ifCond .ne B5, .goto_w C])) (hb5 : xM382.2.2.2.2.2[B5.toNat]? = some ([0, 1, 2, 3, 4, 5], [.goto 378])) (hb3 : xM382.2.2.2.2.2[C.toNat]? = some ([0, 1, 2, 3, 4, 5, 7], [.aload 4, .iconst 0, .daload, .dload 7, .dcmp .l, .ifCond .eq B5, .goto_w C4])) (hb4 : xM382.2.2.2.2.2[C4.toNat]? = some ([0, 1, 2, 3, 4, 5, 7], [.aload 4, .iconst 0, .daload, .aload 4, .iconst 0, .daload, .dcmp .l, .ifCond .eq C6, .goto_w C5])) (hbe : xM382.2.2.2.2.2[C5.toNat]? = some ([0, 1, 2, 3, 4, 5, 7], [.dload 7, .dload 7, .dcmp .l, .ifCond .ne B5, .goto_w C6]))
    (hW : xmt W = some (2, mlW, 99, 1, hd, bsW)) (hmW : 2 ≤ mlW) (hz : xmt z = some (1, mlz, 11, rtz, [], bsz)) (hmz : 1 ≤ mlz) (hrt : ∀ v, vrt rtz v → ∃ x, v = some (.double x))
    (wr : WR (D + 21) W [.ref 0, .ref 294] m 294 (QD (D + 20) z [vR 11 283] N) (QE (D + 20) z [vR 11 283] N)) (hi : i + 6 ≤ len) (hl : len ≤ 3072)
    (h : ∀ e' w' m', e' ≤ e + 1 → CPL m' N → LX (len + 1, f) (D + 22) 378 (lsL i) [] e' w' m' B) : LX (len + 1, f) (D + 22) L (lsL i) [] e w m B := by
  have rest : ∀ (k e1 : Nat) (w1 : Nat → Value) (m1 : XM) (P : UInt64 → XM → Prop), V (D + 20) z [vR 11 283] m1 (fun v m2 => P (xtd v) m2) (fun _ _ => False) → (∀ r m2, P r m2 → m2 283 0 = n32 k ∧ k ≤ 3 ∧ CPL m2 N ∧ (k = 0 → w1 294 = .double r)) → e1 ≤ e + 1 → BX (len + 1, f) (D + 22) [.istore 6, .aload 2, .invokevirtual z, .dstore 7, .aload 2, .invokevirtual 174, .iload 6, .if_icmp .eq A, .goto_w X] (lsL i) [.int (n32 k)] e1 w1 m1 B := by
    intro k e1 w1 m1 P hV hP he
    refine BX_1 (ls' := (6, .int (n32 k)) :: lsL i) (st' := []) rfl ?_
    refine BX_1 (ls' := (6, .int (n32 k)) :: lsL i) (st' := [.ref 283]) rfl ?_
    refine BX_call (args := [vR 11 283]) (st := []) hz rfl (Nat.le_of_ble_eq_true rfl) hmz (ws_r ws_nil) (V_deep (Nat.le_succ _) hV) (fun x m' _ q => q) (fun v m2 hv hq => ?_)
    obtain ⟨x, rfl⟩ := hrt v hv
    obtain ⟨q1, q2, q3, q4⟩ := hP x m2 hq
    refine BX_1 (ls' := (7, .double x) :: (6, .int (n32 k)) :: lsL i) (st' := []) rfl ?_
    refine BX_1 (ls' := (7, .double x) :: (6, .int (n32 k)) :: lsL i) (st' := [.ref 283]) rfl ?_
    refine BX_call (args := [vR 11 283]) (st := []) km174 rfl (Nat.le_of_ble_eq_true rfl) (Nat.le_of_ble_eq_true rfl) (ws_r ws_nil) (V_174 (D := D + 21) (m := m2)) (fun x m' _ q => q) (fun v m3 hv hq => ?_)
    obtain ⟨y, rfl⟩ := hv
    obtain ⟨hy, hm⟩ := hq
    rw [hm]
    refine BX_1 (ls' := (7, .double x) :: (6, .int (n32 k)) :: lsL i) (st' := [.int (n32 k), .int y]) rfl ?_
    exact BX_ieq (hy.trans q1) (tlD (C7 := 0) (X := 0) q2 hb2 hb5 hb3 hb4 hbe q4 (h e1 w1 m2 he q3))
  refine LX_at hb ?_
  show BX _ _ _ (lsL i) [] e w m B
  refine BX_1 (ls' := lsL i) (st' := [.ref 0]) rfl ?_
  refine BX_1 (ls' := lsL i) (st' := [.ref 294, .ref 0]) rfl ?_
  refine BX_wr (rc := 0) (as := [.ref 0, .ref 294]) (st := []) hW rfl (Nat.le_of_ble_eq_true rfl) hmW wr (fun v m1 q => ?_) (fun k m1 q => ?_)
  · obtain ⟨r, rfl, hq⟩ := q
    refine rest 0 e _ m1 (fun r2 m2 => (r = r2 ∧ m2 283 0 = n32 0) ∧ CPL m2 N) hq (fun r2 m2 hp => ?_) (Nat.le_succ _)
    obtain ⟨⟨rfl, p2⟩, p3⟩ := hp
    exact ⟨p2, by omega, p3, fun _ => if_pos rfl⟩
  · refine rest k (e + 1) w m1 (fun _ m2 => (m2 283 0 = n32 k ∧ 1 ≤ k ∧ k ≤ 3) ∧ CPL m2 N) q (fun r2 m2 hp => ?_) (Nat.le_refl _)
    obtain ⟨⟨p1, p2, p4⟩, p3⟩ := hp
    exact ⟨p1, p4, p3, fun c => absurd c (by omega)⟩

theorem cJ0 {L W z mlW mlz rtz : Nat} {A B5 C X X2 : Int} {hd : List (Nat × Nat × Nat)} {bsW bsz : List XB} (hb : xM382.2.2.2.2.2[L]? = some ([0, 1, 2, 3, 4, 5], [.aload 1, .aload 3, .invokestatic W, .istore 6, .aload 2, .invokevirtual z, .lstore 7, .aload 2, .invokevirtual 174, .iload 6, .if_icmp .eq A, .goto_w X])) (hb2 : xM382.2.2.2.2.2[A.toNat]? = some ([0, 1, 2, 3, 4, 5, 6, 7], [.iload 6, .ifCond .ne B5, .goto_w C])) (hb5 : xM382.2.2.2.2.2[B5.toNat]? = some ([0, 1, 2, 3, 4, 5], [.goto 378])) (hb3 : xM382.2.2.2.2.2[C.toNat]? = some ([0, 1, 2, 3, 4, 5, 7], [.aload 3, .iconst 0, .laload, .lload 7, .lcmp, .ifCond .eq B5, .goto_w X2]))
    (hW : xmt W = some (2, mlW, 99, 1, hd, bsW)) (hmW : 2 ≤ mlW) (hz : xmt z = some (1, mlz, 11, rtz, [], bsz)) (hmz : 1 ≤ mlz) (hrt : ∀ v, vrt rtz v → ∃ x, v = some (.long x))
    (wr : WR (D + 21) W [.ref 0, .ref 293] m 293 (QJ (D + 20) z [vR 11 283] N) (QE (D + 20) z [vR 11 283] N)) (hi : i + 6 ≤ len) (hl : len ≤ 3072)
    (h : ∀ e' w' m', e' ≤ e + 1 → CPL m' N → LX (len + 1, f) (D + 22) 378 (lsL i) [] e' w' m' B) : LX (len + 1, f) (D + 22) L (lsL i) [] e w m B := by
  have rest : ∀ (k e1 : Nat) (w1 : Nat → Value) (m1 : XM) (P : Int64 → XM → Prop), V (D + 20) z [vR 11 283] m1 (fun v m2 => P (xtl v) m2) (fun _ _ => False) → (∀ r m2, P r m2 → m2 283 0 = n32 k ∧ k ≤ 3 ∧ CPL m2 N ∧ (k = 0 → w1 293 = .long r)) → e1 ≤ e + 1 → BX (len + 1, f) (D + 22) [.istore 6, .aload 2, .invokevirtual z, .lstore 7, .aload 2, .invokevirtual 174, .iload 6, .if_icmp .eq A, .goto_w X] (lsL i) [.int (n32 k)] e1 w1 m1 B := by
    intro k e1 w1 m1 P hV hP he
    refine BX_1 (ls' := (6, .int (n32 k)) :: lsL i) (st' := []) rfl ?_
    refine BX_1 (ls' := (6, .int (n32 k)) :: lsL i) (st' := [.ref 283]) rfl ?_
    refine BX_call (args := [vR 11 283]) (st := []) hz rfl (Nat.le_of_ble_eq_true rfl) hmz (ws_r ws_nil) (V_deep (Nat.le_succ _) hV) (fun x m' _ q => q) (fun v m2 hv hq => ?_)
    obtain ⟨x, rfl⟩ := hrt v hv
    obtain ⟨q1, q2, q3, q4⟩ := hP x m2 hq
    refine BX_1 (ls' := (7, .long x) :: (6, .int (n32 k)) :: lsL i) (st' := []) rfl ?_
    refine BX_1 (ls' := (7, .long x) :: (6, .int (n32 k)) :: lsL i) (st' := [.ref 283]) rfl ?_
    refine BX_call (args := [vR 11 283]) (st := []) km174 rfl (Nat.le_of_ble_eq_true rfl) (Nat.le_of_ble_eq_true rfl) (ws_r ws_nil) (V_174 (D := D + 21) (m := m2)) (fun x m' _ q => q) (fun v m3 hv hq => ?_)
    obtain ⟨y, rfl⟩ := hv
    obtain ⟨hy, hm⟩ := hq
    rw [hm]
    refine BX_1 (ls' := (7, .long x) :: (6, .int (n32 k)) :: lsL i) (st' := [.int (n32 k), .int y]) rfl ?_
    exact BX_ieq (hy.trans q1) (tlJ (C4 := 0) (C5 := 0) (C6 := 0) (C7 := 0) q2 hb2 hb5 hb3 q4 (h e1 w1 m2 he q3))
  refine LX_at hb ?_
  show BX _ _ _ (lsL i) [] e w m B
  refine BX_1 (ls' := lsL i) (st' := [.ref 0]) rfl ?_
  refine BX_1 (ls' := lsL i) (st' := [.ref 293, .ref 0]) rfl ?_
  refine BX_wr (rc := 0) (as := [.ref 0, .ref 293]) (st := []) hW rfl (Nat.le_of_ble_eq_true rfl) hmW wr (fun v m1 q => ?_) (fun k m1 q => ?_)
  · obtain ⟨r, rfl, hq⟩ := q
    refine rest 0 e _ m1 (fun r2 m2 => (r = r2 ∧ m2 283 0 = n32 0) ∧ CPL m2 N) hq (fun r2 m2 hp => ?_) (Nat.le_succ _)
    obtain ⟨⟨rfl, p2⟩, p3⟩ := hp
    exact ⟨p2, by omega, p3, fun _ => if_pos rfl⟩
  · refine rest k (e + 1) w m1 (fun _ m2 => (m2 283 0 = n32 k ∧ 1 ≤ k ∧ k ≤ 3) ∧ CPL m2 N) q (fun r2 m2 hp => ?_) (Nat.le_refl _)
    obtain ⟨⟨p1, p2, p4⟩, p3⟩ := hp
    exact ⟨p1, p4, p3, fun c => absurd c (by omega)⟩

theorem cX0 {L y z mly rty mlz rtz : Nat} {X : Int} {bsy bsz : List XB} {mp : Nat → Nat} (hb : xM382.2.2.2.2.2[L]? = some ([0, 1, 2, 3, 4, 5], [.aload 1, .invokevirtual y, .aload 2, .invokevirtual z, .if_icmp .eq 378, .goto_w X]))
    (hy : xmt y = some (1, mly, 10, rty, [], bsy)) (hmy : 1 ≤ mly) (hrty : ∀ v, vrt rty v → ∃ x, v = some (.int x)) (hz : xmt z = some (1, mlz, 11, rtz, [], bsz)) (hmz : 1 ≤ mlz) (hrt : ∀ v, vrt rtz v → ∃ x, v = some (.int x)) (hex : exo y = [])
    (hp : PRI (D + 20) y z [vR 10 0] [vR 11 283] mp m N) (hi : i + 6 ≤ len) (hl : len ≤ 3072)
    (h : ∀ e' w' m', e' ≤ e + 1 → CPL m' N → LX (len + 1, f) (D + 22) 378 (lsL i) [] e' w' m' B) : LX (len + 1, f) (D + 22) L (lsL i) [] e w m B := by
  refine LX_at hb ?_
  show BX _ _ _ (lsL i) [] e w m B
  refine BX_1 (ls' := lsL i) (st' := [.ref 0]) rfl ?_
  refine BX_call (args := [vR 10 0]) (st := []) hy rfl (Nat.le_of_ble_eq_true rfl) hmy (ws_0 ws_nil) (V_deep (Nat.le_succ _) hp) (fun x m' hx _ => by rw [hex] at hx; cases hx) (fun v m1 hv hq => ?_)
  obtain ⟨x, rfl⟩ := hrty v hv
  refine BX_1 (ls' := lsL i) (st' := [.ref 283, .int x]) rfl ?_
  refine BX_call (args := [vR 11 283]) (st := [.int x]) hz rfl (Nat.le_of_ble_eq_true rfl) hmz (ws_r ws_nil) (V_deep (Nat.le_succ _) hq) (fun x m' _ q => q) (fun v m2 hv hq => ?_)
  obtain ⟨x2, rfl⟩ := hrt v hv
  obtain ⟨⟨q1, q2⟩, q3⟩ := hq
  exact BX_ieq q1 (h e w m2 (Nat.le_succ _) q3)

theorem cX5 {L y z mly rty mlz rtz : Nat} {X : Int} {bsy bsz : List XB} {mp : Nat → Nat} (hb : xM382.2.2.2.2.2[L]? = some ([0, 1, 2, 3, 4, 5], [.aload 1, .aload 0, .iload 5, .iconst 1, .iadd, .iaload, .aload 0, .iload 5, .iconst 2, .iadd, .iaload, .aload 0, .iload 5, .iconst 3, .iadd, .iaload, .aload 0, .iload 5, .iconst 4, .iadd, .iaload, .aload 0, .iload 5, .iconst 5, .iadd, .iaload, .invokevirtual y, .aload 2, .aload 0, .iload 5, .iconst 1, .iadd, .iaload, .aload 0, .iload 5, .iconst 2, .iadd, .iaload, .aload 0, .iload 5, .iconst 3, .iadd, .iaload, .aload 0, .iload 5, .iconst 4, .iadd, .iaload, .aload 0, .iload 5, .iconst 5, .iadd, .iaload, .invokevirtual z, .if_icmp .eq 378, .goto_w X]))
    (hy : xmt y = some (6, mly, 10, rty, [], bsy)) (hmy : 6 ≤ mly) (hrty : ∀ v, vrt rty v → ∃ x, v = some (.int x)) (hz : xmt z = some (6, mlz, 11, rtz, [], bsz)) (hmz : 6 ≤ mlz) (hrt : ∀ v, vrt rtz v → ∃ x, v = some (.int x)) (hex : exo y = [])
    (hp : PRI (D + 20) y z [vR 10 0, vI (f (i + 1)), vI (f (i + 2)), vI (f (i + 3)), vI (f (i + 4)), vI (f (i + 5))] [vR 11 283, vI (f (i + 1)), vI (f (i + 2)), vI (f (i + 3)), vI (f (i + 4)), vI (f (i + 5))] mp m N) (hi : i + 6 ≤ len) (hl : len ≤ 3072)
    (h : ∀ e' w' m', e' ≤ e + 1 → CPL m' N → LX (len + 1, f) (D + 22) 378 (lsL i) [] e' w' m' B) : LX (len + 1, f) (D + 22) L (lsL i) [] e w m B := by
  refine LX_at hb ?_
  show BX _ _ _ (lsL i) [] e w m B
  refine BX_1 (ls' := lsL i) (st' := [.ref 0]) rfl ?_
  refine BX_arg (k := 1) rfl (by omega) hl rfl rfl ?_
  refine BX_arg (k := 2) rfl (by omega) hl rfl rfl ?_
  refine BX_arg (k := 3) rfl (by omega) hl rfl rfl ?_
  refine BX_arg (k := 4) rfl (by omega) hl rfl rfl ?_
  refine BX_arg (k := 5) rfl (by omega) hl rfl rfl ?_
  refine BX_call (args := [vR 10 0, vI (f (i + 1)), vI (f (i + 2)), vI (f (i + 3)), vI (f (i + 4)), vI (f (i + 5))]) (st := []) hy rfl (Nat.le_of_ble_eq_true rfl) hmy (ws_0 (ws_i (ws_i (ws_i (ws_i (ws_i ws_nil)))))) (V_deep (Nat.le_succ _) hp) (fun x m' hx _ => by rw [hex] at hx; cases hx) (fun v m1 hv hq => ?_)
  obtain ⟨x, rfl⟩ := hrty v hv
  refine BX_1 (ls' := lsL i) (st' := [.ref 283, .int x]) rfl ?_
  refine BX_arg (k := 1) rfl (by omega) hl rfl rfl ?_
  refine BX_arg (k := 2) rfl (by omega) hl rfl rfl ?_
  refine BX_arg (k := 3) rfl (by omega) hl rfl rfl ?_
  refine BX_arg (k := 4) rfl (by omega) hl rfl rfl ?_
  refine BX_arg (k := 5) rfl (by omega) hl rfl rfl ?_
  refine BX_call (args := [vR 11 283, vI (f (i + 1)), vI (f (i + 2)), vI (f (i + 3)), vI (f (i + 4)), vI (f (i + 5))]) (st := [.int x]) hz rfl (Nat.le_of_ble_eq_true rfl) hmz (ws_r (ws_i (ws_i (ws_i (ws_i (ws_i ws_nil)))))) (V_deep (Nat.le_succ _) hq) (fun x m' _ q => q) (fun v m2 hv hq => ?_)
  obtain ⟨x2, rfl⟩ := hrt v hv
  obtain ⟨⟨q1, q2⟩, q3⟩ := hq
  exact BX_ieq q1 (h e w m2 (Nat.le_succ _) q3)

end LAWF
