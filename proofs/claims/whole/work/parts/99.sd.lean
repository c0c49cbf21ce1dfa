/-! The law's wrappers. -/
def QI (D z : Nat) (za : List AV) (N : Nat) : Value → XM → Prop := fun v m1 => ∃ r : Int32, v = .long r.toInt64 ∧ VI D z za m1 (fun r2 m2 => (r = r2 ∧ m2 283 0 = n32 0) ∧ CPL m2 N) (fun _ _ => False)
def QB (D z : Nat) (za : List AV) (N : Nat) : Value → XM → Prop := fun v m1 => ∃ r : Int32, v = .long (if r = 0 then 0 else 1) ∧ VI D z za m1 (fun r2 m2 => (r = r2 ∧ m2 283 0 = n32 0) ∧ CPL m2 N) (fun _ _ => False)
def QJ (D z : Nat) (za : List AV) (N : Nat) : Value → XM → Prop := fun v m1 => ∃ r : Int64, v = .long r ∧ VJ D z za m1 (fun r2 m2 => (r = r2 ∧ m2 283 0 = n32 0) ∧ CPL m2 N) (fun _ _ => False)
def QD (D z : Nat) (za : List AV) (N : Nat) : Value → XM → Prop := fun v m1 => ∃ r : UInt64, v = .double r ∧ VD D z za m1 (fun r2 m2 => (r = r2 ∧ m2 283 0 = n32 0) ∧ CPL m2 N) (fun _ _ => False)
def QFl (D z : Nat) (za : List AV) (N : Nat) : Value → XM → Prop := fun v m1 => ∃ r : UInt32, r ∈ shL ∧ v = .double (FP.f2d r) ∧ VF D z za m1 (fun r2 m2 => (r = r2 ∧ m2 283 0 = n32 0) ∧ CPL m2 N) (fun _ _ => False)
def QE (D z : Nat) (za : List AV) (N : Nat) : Nat → XM → Prop := fun k m1 => V D z za m1 (fun _ m2 => (m2 283 0 = n32 k ∧ 1 ≤ k ∧ k ≤ 3) ∧ CPL m2 N) (fun _ _ => False)
theorem ws_nil : wtS [] := fun q hq => by cases hq
theorem ws_0 {t : List AV} (h : wtS t) : wtS (vR 10 0 :: t) := wtS_cons h ⟨rfl, by decide⟩
theorem ws_r {t : List AV} (h : wtS t) : wtS (vR 11 283 :: t) := wtS_cons h ⟨rfl, by decide⟩
theorem ws_i {t : List AV} {x : Int32} (h : wtS t) : wtS (vI x :: t) := wtS_cons h trivial
section WRS
variable {D : Nat} {m : XM}
theorem kw323 : xmt 323 = some (3, 4, 99, 1, [(2, 1, 3), (1, 2, 3)], xM323.2.2.2.2.2) := xmt_at (q := 16) (r := 3) rfl rfl
theorem wr323 {p1 : Int32} {N : Nat} (h : CPL m N) : WR (D + 21) 323 [.ref 0, .int p1, .ref 293] m 293 (QI (D + 20) 201 [vR 11 283, vI p1] N) (QE (D + 20) 201 [vR 11 283, vI p1] N) := by
  refine WR_gen (W := 323) (y := 92) (pre := [.aload 2, .iconst 0, .aload 0, .iload 1]) (post := [.i2l, .lastore]) (Le := 3) (args := [vR 10 0, vI p1]) (conv := fun v => .long (xti (v.getD .null)).toInt64) (ls1 := [(0, .ref 0), (1, .int p1), (2, .ref 293)]) (ls2 := [(0, .ref 0), (1, .int p1), (2, .ref 293)]) kw323 rfl rfl (fun e w => rfl) km92 rfl (Nat.le_of_ble_eq_true rfl) (ws_0 (ws_i ws_nil)) (p_load (D := D + 8) h) ?_ ?_
  · intro v m' e w hv hq
    obtain ⟨x, rfl⟩ := hv
    exact ⟨⟨x, rfl, hq⟩, rfl⟩
  · intro x hx
    rw [show exo 92 = [1, 2] from rfl, List.mem_cons, List.mem_singleton] at hx
    rcases hx with rfl | rfl
    · exact ⟨1, 2, 3, 2, 2, rfl, rfl, rfl, fun m' q => q⟩
    · exact ⟨2, 1, 3, 1, 1, rfl, rfl, rfl, fun m' q => q⟩
theorem kw324 : xmt 324 = some (3, 4, 99, 1, [(0, 1, 3), (1, 2, 3)], xM324.2.2.2.2.2) := xmt_at (q := 16) (r := 4) rfl rfl
theorem wr324 {p1 : Int32} {N : Nat} (h : CPL m N) : WR (D + 21) 324 [.ref 0, .int p1, .ref 293] m 293 (QI (D + 20) 239 [vR 11 283, vI p1] N) (QE (D + 20) 239 [vR 11 283, vI p1] N) := by
  refine WR_gen (W := 324) (y := 96) (pre := [.aload 2, .iconst 0, .aload 0, .iload 1]) (post := [.i2l, .lastore]) (Le := 3) (args := [vR 10 0, vI p1]) (conv := fun v => .long (xti (v.getD .null)).toInt64) (ls1 := [(0, .ref 0), (1, .int p1), (2, .ref 293)]) (ls2 := [(0, .ref 0), (1, .int p1), (2, .ref 293)]) kw324 rfl rfl (fun e w => rfl) km96 rfl (Nat.le_of_ble_eq_true rfl) (ws_0 (ws_i ws_nil)) (p_count (D := D + 8) h) ?_ ?_
  · intro v m' e w hv hq
    obtain ⟨x, rfl⟩ := hv
    exact ⟨⟨x, rfl, hq⟩, rfl⟩
  · intro x hx
    rw [show exo 96 = [0, 1] from rfl, List.mem_cons, List.mem_singleton] at hx
    rcases hx with rfl | rfl
    · exact ⟨0, 1, 3, 1, 1, rfl, rfl, rfl, fun m' q => q⟩
    · exact ⟨1, 2, 3, 2, 2, rfl, rfl, rfl, fun m' q => q⟩
theorem kw325 : xmt 325 = some (3, 4, 99, 1, [(0, 1, 3), (1, 2, 3)], xM325.2.2.2.2.2) := xmt_at (q := 16) (r := 5) rfl rfl
theorem wr325 {p1 : Int32} {N : Nat} (h : CPL m N) : WR (D + 21) 325 [.ref 0, .int p1, .ref 293] m 293 (QI (D + 20) 240 [vR 11 283, vI p1] N) (QE (D + 20) 240 [vR 11 283, vI p1] N) := by
  refine WR_gen (W := 325) (y := 97) (pre := [.aload 2, .iconst 0, .aload 0, .iload 1]) (post := [.i2l, .lastore]) (Le := 3) (args := [vR 10 0, vI p1]) (conv := fun v => .long (xti (v.getD .null)).toInt64) (ls1 := [(0, .ref 0), (1, .int p1), (2, .ref 293)]) (ls2 := [(0, .ref 0), (1, .int p1), (2, .ref 293)]) kw325 rfl rfl (fun e w => rfl) km97 rfl (Nat.le_of_ble_eq_true rfl) (ws_0 (ws_i ws_nil)) (p_setting (D := D + 8) h) ?_ ?_
  · intro v m' e w hv hq
    obtain ⟨x, rfl⟩ := hv
    exact ⟨⟨x, rfl, hq⟩, rfl⟩
  · intro x hx
    rw [show exo 97 = [0, 1] from rfl, List.mem_cons, List.mem_singleton] at hx
    rcases hx with rfl | rfl
    · exact ⟨0, 1, 3, 1, 1, rfl, rfl, rfl, fun m' q => q⟩
    · exact ⟨1, 2, 3, 2, 2, rfl, rfl, rfl, fun m' q => q⟩
theorem kw326 : xmt 326 = some (4, 5, 99, 1, [(0, 1, 4), (2, 2, 4), (1, 3, 4)], xM326.2.2.2.2.2) := xmt_at (q := 16) (r := 6) rfl rfl
theorem wr326 {p1 p2 : Int32} {N : Nat} (h : CPL m N) : WR (D + 21) 326 [.ref 0, .int p1, .int p2, .ref 293] m 293 (QI (D + 20) 246 [vR 11 283, vI p1, vI p2] N) (QE (D + 20) 246 [vR 11 283, vI p1, vI p2] N) := by
  refine WR_gen (W := 326) (y := 98) (pre := [.aload 3, .iconst 0, .aload 0, .iload 1, .iload 2]) (post := [.i2l, .lastore]) (Le := 4) (args := [vR 10 0, vI p1, vI p2]) (conv := fun v => .long (xti (v.getD .null)).toInt64) (ls1 := [(0, .ref 0), (1, .int p1), (2, .int p2), (3, .ref 293)]) (ls2 := [(0, .ref 0), (1, .int p1), (2, .int p2), (3, .ref 293)]) kw326 rfl rfl (fun e w => rfl) km98 rfl (Nat.le_of_ble_eq_true rfl) (ws_0 (ws_i (ws_i ws_nil))) (p_bearer (D := D + 8) h) ?_ ?_
  · intro v m' e w hv hq
    obtain ⟨x, rfl⟩ := hv
    exact ⟨⟨x, rfl, hq⟩, rfl⟩
  · intro x hx
    rw [show exo 98 = [0, 1, 2] from rfl, List.mem_cons, List.mem_cons, List.mem_singleton] at hx
    rcases hx with rfl | rfl | rfl
    · exact ⟨0, 1, 4, 1, 1, rfl, rfl, rfl, fun m' q => q⟩
    · exact ⟨1, 3, 4, 3, 3, rfl, rfl, rfl, fun m' q => q⟩
    · exact ⟨2, 2, 4, 2, 2, rfl, rfl, rfl, fun m' q => q⟩
theorem kw327 : xmt 327 = some (4, 5, 99, 1, [(0, 1, 4), (2, 2, 4), (1, 3, 4)], xM327.2.2.2.2.2) := xmt_at (q := 16) (r := 7) rfl rfl
theorem wr327 {p1 p2 : Int32} {N : Nat} (h : CPL m N) : WR (D + 21) 327 [.ref 0, .int p1, .int p2, .ref 293] m 293 (QI (D + 20) 253 [vR 11 283, vI p1, vI p2] N) (QE (D + 20) 253 [vR 11 283, vI p1, vI p2] N) := by
  refine WR_gen (W := 327) (y := 99) (pre := [.aload 3, .iconst 0, .aload 0, .iload 1, .iload 2]) (post := [.i2l, .lastore]) (Le := 4) (args := [vR 10 0, vI p1, vI p2]) (conv := fun v => .long (xti (v.getD .null)).toInt64) (ls1 := [(0, .ref 0), (1, .int p1), (2, .int p2), (3, .ref 293)]) (ls2 := [(0, .ref 0), (1, .int p1), (2, .int p2), (3, .ref 293)]) kw327 rfl rfl (fun e w => rfl) km99 rfl (Nat.le_of_ble_eq_true rfl) (ws_0 (ws_i (ws_i ws_nil))) (p_stand (D := D + 8) h) ?_ ?_
  · intro v m' e w hv hq
    obtain ⟨x, rfl⟩ := hv
    exact ⟨⟨x, rfl, hq⟩, rfl⟩
  · intro x hx
    rw [show exo 99 = [0, 1, 2] from rfl, List.mem_cons, List.mem_cons, List.mem_singleton] at hx
    rcases hx with rfl | rfl | rfl
    · exact ⟨0, 1, 4, 1, 1, rfl, rfl, rfl, fun m' q => q⟩
    · exact ⟨1, 3, 4, 3, 3, rfl, rfl, rfl, fun m' q => q⟩
    · exact ⟨2, 2, 4, 2, 2, rfl, rfl, rfl, fun m' q => q⟩
theorem kw328 : xmt 328 = some (4, 5, 99, 1, [(0, 1, 4), (2, 2, 4), (1, 3, 4)], xM328.2.2.2.2.2) := xmt_at (q := 16) (r := 8) rfl rfl
theorem wr328 {p1 p2 : Int32} {N : Nat} (h : CPL m N) : WR (D + 21) 328 [.ref 0, .int p1, .int p2, .ref 293] m 293 (QI (D + 20) 254 [vR 11 283, vI p1, vI p2] N) (QE (D + 20) 254 [vR 11 283, vI p1, vI p2] N) := by
  refine WR_gen (W := 328) (y := 100) (pre := [.aload 3, .iconst 0, .aload 0, .iload 1, .iload 2]) (post := [.i2l, .lastore]) (Le := 4) (args := [vR 10 0, vI p1, vI p2]) (conv := fun v => .long (xti (v.getD .null)).toInt64) (ls1 := [(0, .ref 0), (1, .int p1), (2, .int p2), (3, .ref 293)]) (ls2 := [(0, .ref 0), (1, .int p1), (2, .int p2), (3, .ref 293)]) kw328 rfl rfl (fun e w => rfl) km100 rfl (Nat.le_of_ble_eq_true rfl) (ws_0 (ws_i (ws_i ws_nil))) (p_plan (D := D + 8) h) ?_ ?_
  · intro v m' e w hv hq
    obtain ⟨x, rfl⟩ := hv
    exact ⟨⟨x, rfl, hq⟩, rfl⟩
  · intro x hx
    rw [show exo 100 = [0, 1, 2] from rfl, List.mem_cons, List.mem_cons, List.mem_singleton] at hx
    rcases hx with rfl | rfl | rfl
    · exact ⟨0, 1, 4, 1, 1, rfl, rfl, rfl, fun m' q => q⟩
    · exact ⟨1, 3, 4, 3, 3, rfl, rfl, rfl, fun m' q => q⟩
    · exact ⟨2, 2, 4, 2, 2, rfl, rfl, rfl, fun m' q => q⟩
theorem kw329 : xmt 329 = some (4, 5, 99, 1, [(0, 1, 4), (2, 2, 4), (1, 3, 4)], xM329.2.2.2.2.2) := xmt_at (q := 16) (r := 9) rfl rfl
theorem wr329 {p1 p2 : Int32} {N : Nat} (h : CPL m N) : WR (D + 21) 329 [.ref 0, .int p1, .int p2, .ref 293] m 293 (QI (D + 20) 255 [vR 11 283, vI p1, vI p2] N) (QE (D + 20) 255 [vR 11 283, vI p1, vI p2] N) := by
  refine WR_gen (W := 329) (y := 101) (pre := [.aload 3, .iconst 0, .aload 0, .iload 1, .iload 2]) (post := [.i2l, .lastore]) (Le := 4) (args := [vR 10 0, vI p1, vI p2]) (conv := fun v => .long (xti (v.getD .null)).toInt64) (ls1 := [(0, .ref 0), (1, .int p1), (2, .int p2), (3, .ref 293)]) (ls2 := [(0, .ref 0), (1, .int p1), (2, .int p2), (3, .ref 293)]) kw329 rfl rfl (fun e w => rfl) km101 rfl (Nat.le_of_ble_eq_true rfl) (ws_0 (ws_i (ws_i ws_nil))) (p_lying (D := D + 8) h) ?_ ?_
  · intro v m' e w hv hq
    obtain ⟨x, rfl⟩ := hv
    exact ⟨⟨x, rfl, hq⟩, rfl⟩
  · intro x hx
    rw [show exo 101 = [0, 1, 2] from rfl, List.mem_cons, List.mem_cons, List.mem_singleton] at hx
    rcases hx with rfl | rfl | rfl
    · exact ⟨0, 1, 4, 1, 1, rfl, rfl, rfl, fun m' q => q⟩
    · exact ⟨1, 3, 4, 3, 3, rfl, rfl, rfl, fun m' q => q⟩
    · exact ⟨2, 2, 4, 2, 2, rfl, rfl, rfl, fun m' q => q⟩
theorem kw330 : xmt 330 = some (4, 5, 99, 1, [(0, 1, 4), (2, 2, 4)], xM330.2.2.2.2.2) := xmt_at (q := 16) (r := 10) rfl rfl
theorem wr330 {p1 p2 : Int32} {N : Nat} (h : CPL m N) : WR (D + 21) 330 [.ref 0, .int p1, .int p2, .ref 293] m 293 (QI (D + 20) 256 [vR 11 283, vI p1, vI p2] N) (QE (D + 20) 256 [vR 11 283, vI p1, vI p2] N) := by
  refine WR_gen (W := 330) (y := 102) (pre := [.aload 3, .iconst 0, .aload 0, .iload 1, .iload 2]) (post := [.i2l, .lastore]) (Le := 3) (args := [vR 10 0, vI p1, vI p2]) (conv := fun v => .long (xti (v.getD .null)).toInt64) (ls1 := [(0, .ref 0), (1, .int p1), (2, .int p2), (3, .ref 293)]) (ls2 := [(0, .ref 0), (1, .int p1), (2, .int p2), (3, .ref 293)]) kw330 rfl rfl (fun e w => rfl) km102 rfl (Nat.le_of_ble_eq_true rfl) (ws_0 (ws_i (ws_i ws_nil))) (p_wordByte (D := D + 8) h) ?_ ?_
  · intro v m' e w hv hq
    obtain ⟨x, rfl⟩ := hv
    exact ⟨⟨x, rfl, hq⟩, rfl⟩
  · intro x hx
    rw [show exo 102 = [0, 2] from rfl, List.mem_cons, List.mem_singleton] at hx
    rcases hx with rfl | rfl
    · exact ⟨0, 1, 4, 1, 1, rfl, rfl, rfl, fun m' q => q⟩
    · exact ⟨2, 2, 4, 2, 2, rfl, rfl, rfl, fun m' q => q⟩
theorem kw331 : xmt 331 = some (4, 5, 99, 1, [(0, 1, 4), (2, 2, 4)], xM331.2.2.2.2.2) := xmt_at (q := 16) (r := 11) rfl rfl
theorem wr331 {p1 p2 : Int32} {N : Nat} (h : CPL m N) : WR (D + 21) 331 [.ref 0, .int p1, .int p2, .ref 293] m 293 (QI (D + 20) 257 [vR 11 283, vI p1, vI p2] N) (QE (D + 20) 257 [vR 11 283, vI p1, vI p2] N) := by
  refine WR_gen (W := 331) (y := 103) (pre := [.aload 3, .iconst 0, .aload 0, .iload 1, .iload 2]) (post := [.i2l, .lastore]) (Le := 3) (args := [vR 10 0, vI p1, vI p2]) (conv := fun v => .long (xti (v.getD .null)).toInt64) (ls1 := [(0, .ref 0), (1, .int p1), (2, .int p2), (3, .ref 293)]) (ls2 := [(0, .ref 0), (1, .int p1), (2, .int p2), (3, .ref 293)]) kw331 rfl rfl (fun e w => rfl) km103 rfl (Nat.le_of_ble_eq_true rfl) (ws_0 (ws_i (ws_i ws_nil))) (p_readByte (D := D + 8) h) ?_ ?_
  · intro v m' e w hv hq
    obtain ⟨x, rfl⟩ := hv
    exact ⟨⟨x, rfl, hq⟩, rfl⟩
  · intro x hx
    rw [show exo 103 = [0, 2] from rfl, List.mem_cons, List.mem_singleton] at hx
    rcases hx with rfl | rfl
    · exact ⟨0, 1, 4, 1, 1, rfl, rfl, rfl, fun m' q => q⟩
    · exact ⟨2, 2, 4, 2, 2, rfl, rfl, rfl, fun m' q => q⟩
theorem kw332 : xmt 332 = some (3, 4, 99, 1, [(0, 1, 3), (2, 2, 3)], xM332.2.2.2.2.2) := xmt_at (q := 16) (r := 12) rfl rfl
theorem wr332 {p1 : Int32} {N : Nat} (h : CPL m N) : WR (D + 21) 332 [.ref 0, .int p1, .ref 293] m 293 (QI (D + 20) 258 [vR 11 283, vI p1] N) (QE (D + 20) 258 [vR 11 283, vI p1] N) := by
  refine WR_gen (W := 332) (y := 104) (pre := [.aload 2, .iconst 0, .aload 0, .iload 1]) (post := [.i2l, .lastore]) (Le := 3) (args := [vR 10 0, vI p1]) (conv := fun v => .long (xti (v.getD .null)).toInt64) (ls1 := [(0, .ref 0), (1, .int p1), (2, .ref 293)]) (ls2 := [(0, .ref 0), (1, .int p1), (2, .ref 293)]) kw332 rfl rfl (fun e w => rfl) km104 rfl (Nat.le_of_ble_eq_true rfl) (ws_0 (ws_i ws_nil)) (p_seen (D := D + 8) h) ?_ ?_
  · intro v m' e w hv hq
    obtain ⟨x, rfl⟩ := hv
    exact ⟨⟨x, rfl, hq⟩, rfl⟩
  · intro x hx
    rw [show exo 104 = [0, 2] from rfl, List.mem_cons, List.mem_singleton] at hx
    rcases hx with rfl | rfl
    · exact ⟨0, 1, 3, 1, 1, rfl, rfl, rfl, fun m' q => q⟩
    · exact ⟨2, 2, 3, 2, 2, rfl, rfl, rfl, fun m' q => q⟩
theorem kw333 : xmt 333 = some (3, 4, 99, 1, [(0, 1, 3), (2, 2, 3)], xM333.2.2.2.2.2) := xmt_at (q := 16) (r := 13) rfl rfl
theorem wr333 {p1 : Int32} {N : Nat} (h : CPL m N) : WR (D + 21) 333 [.ref 0, .int p1, .ref 293] m 293 (QI (D + 20) 259 [vR 11 283, vI p1] N) (QE (D + 20) 259 [vR 11 283, vI p1] N) := by
  refine WR_gen (W := 333) (y := 105) (pre := [.aload 2, .iconst 0, .aload 0, .iload 1]) (post := [.i2l, .lastore]) (Le := 3) (args := [vR 10 0, vI p1]) (conv := fun v => .long (xti (v.getD .null)).toInt64) (ls1 := [(0, .ref 0), (1, .int p1), (2, .ref 293)]) (ls2 := [(0, .ref 0), (1, .int p1), (2, .ref 293)]) kw333 rfl rfl (fun e w => rfl) km105 rfl (Nat.le_of_ble_eq_true rfl) (ws_0 (ws_i ws_nil)) (p_matches (D := D + 8) h) ?_ ?_
  · intro v m' e w hv hq
    obtain ⟨x, rfl⟩ := hv
    exact ⟨⟨x, rfl, hq⟩, rfl⟩
  · intro x hx
    rw [show exo 105 = [0, 2] from rfl, List.mem_cons, List.mem_singleton] at hx
    rcases hx with rfl | rfl
    · exact ⟨0, 1, 3, 1, 1, rfl, rfl, rfl, fun m' q => q⟩
    · exact ⟨2, 2, 3, 2, 2, rfl, rfl, rfl, fun m' q => q⟩
theorem kw334 : xmt 334 = some (3, 4, 99, 1, [(0, 4, 3), (2, 5, 3)], xM334.2.2.2.2.2) := xmt_at (q := 16) (r := 14) rfl rfl
theorem wr334 {p1 : Int32} {N : Nat} (h : CPL m N) : WR (D + 21) 334 [.ref 0, .int p1, .ref 293] m 293 (QB (D + 20) 260 [vR 11 283, vI p1] N) (QE (D + 20) 260 [vR 11 283, vI p1] N) := by
  obtain ⟨n, r, m1, h1, h2⟩ := V_run (p_isRead (v := p1) (D := D + 8) h) (ws_0 (ws_i ws_nil))
  cases r with
  | inl v =>
    left
    dsimp only at h2
    rw [rtOf_of km106] at h2
    obtain ⟨⟨x, rfl⟩, hq⟩ := h2
    refine ⟨n + 4, .long (if x = 0 then 0 else 1), m1, ⟨x, rfl, hq⟩, fun e w => ?_⟩
    have hc : xCf (n + 3) (D + 21) 106 (cvS [vR 10 0, vI p1]) (S0, e, w, m) = some (.inl (some (.int x)), S0, e, w, m1) := xrun_le' (Nat.le_add_right _ _) (h1 e w)
    unfold xrun
    rw [kw334]
    dsimp only
    rw [show xM334.2.2.2.2.2[0]? = some ([0, 1, 2], [.aload 2, .iconst 0, .aload 0, .iload 1] ++ [.invokevirtual 106, .ifCond .eq 2, .goto_w 1]) from rfl]
    dsimp only
    rw [xblk_seq (z := ([(0, .ref 0), (1, .int p1), (2, .ref 293)], (cvS [vR 10 0, vI p1]).reverse ++ [.int 0, .ref 293], (S0, e, w, m))) [.aload 2, .iconst 0, .aload 0, .iload 1] _ _ _ rfl]
    dsimp only
    rw [xblk_iv]
    refine Eq.trans (xcall_go (C := xCf (n + 3) (D + 21)) (n := 0) km106 rfl rfl (show xcat [.int 0, .ref 293] ≤ 8 from Nat.le_of_ble_eq_true rfl) (Nat.le_of_ble_eq_true rfl) hc) ?_
    show xbr .eq x 0 _ _ = _
    unfold xbr
    dsimp only
    by_cases c : x = 0
    · rw [if_pos c, if_pos c]
      rfl
    · rw [if_neg c, if_neg c]
      rfl
  | inr x =>
    right
    dsimp only at h2
    obtain ⟨hx, hq⟩ := h2
    have key : ∀ (L k : Nat) (kk : Int), ([(0, 4, 3), (2, 5, 3)] : List (Nat × Nat × Nat)).find? (fun h => h.1 == x) = some (x, L, 3) → xM334.2.2.2.2.2[L]? = some ([], [.iconst kk, .ireturn]) → Int32.ofInt kk = n32 k → QE (D + 20) 260 [vR 11 283, vI p1] N k m1 → ∃ (n k : Nat) (m' : XM), QE (D + 20) 260 [vR 11 283, vI p1] N k m' ∧ ∀ (e : Nat) (w : Nat → Value), xrun xK0 n (D + 21) 334 0 (lv_args 0 [.ref 0, .int p1, .ref 293]) [] (S0, e, w, m) = some (.inl (some (.int (n32 k))), S0, e + 1, w, m') := by
      intro L k kk g1 g2 g3 g4
      refine ⟨n + 3, k, m1, g4, fun e w => ?_⟩
      have hc : xCf (n + 2) (D + 21) 106 (cvS [vR 10 0, vI p1]) (S0, e, w, m) = some (.inr x, S0, e + 1, w, m1) := xrun_le' (Nat.le_add_right _ _) (h1 e w)
      unfold xrun
      rw [kw334]
      dsimp only
      rw [show xM334.2.2.2.2.2[0]? = some ([0, 1, 2], [.aload 2, .iconst 0, .aload 0, .iload 1] ++ [.invokevirtual 106, .ifCond .eq 2, .goto_w 1]) from rfl]
      dsimp only
      rw [xblk_seq (z := ([(0, .ref 0), (1, .int p1), (2, .ref 293)], (cvS [vR 10 0, vI p1]).reverse ++ [.int 0, .ref 293], (S0, e, w, m))) [.aload 2, .iconst 0, .aload 0, .iload 1] _ _ _ rfl]
      dsimp only
      rw [xblk_iv]
      refine Eq.trans (xcall_ca (C := xCf (n + 2) (D + 21)) km106 rfl rfl (show xcat [.int 0, .ref 293] ≤ 8 from Nat.le_of_ble_eq_true rfl) (Nat.le_of_ble_eq_true rfl) hc g1) ?_
      show xrun xK0 (n + 2) (D + 21) 334 L _ [] (S0, e + 1, w, m1) = _
      unfold xrun
      rw [kw334]
      dsimp only
      rw [g2]
      dsimp only
      rw [← g3]
      rfl
    rw [show exo 106 = [0, 2] from rfl, List.mem_cons, List.mem_singleton] at hx
    rcases hx with rfl | rfl
    · exact key 4 1 1 rfl rfl rfl hq
    · exact key 5 2 2 rfl rfl rfl hq
theorem kw335 : xmt 335 = some (3, 4, 99, 1, [(0, 1, 3), (2, 2, 3)], xM335.2.2.2.2.2) := xmt_at (q := 16) (r := 15) rfl rfl
theorem wr335 {p1 : Int32} {N : Nat} (h : CPL m N) : WR (D + 21) 335 [.ref 0, .int p1, .ref 294] m 294 (QFl (D + 20) 272 [vR 11 283, vI p1] N) (QE (D + 20) 272 [vR 11 283, vI p1] N) := by
  refine WR_gen (W := 335) (y := 107) (pre := [.aload 2, .iconst 0, .aload 0, .iload 1]) (post := [.f2d, .dastore]) (Le := 3) (args := [vR 10 0, vI p1]) (conv := fun v => .double (FP.f2d (xtf (v.getD .null)))) (ls1 := [(0, .ref 0), (1, .int p1), (2, .ref 294)]) (ls2 := [(0, .ref 0), (1, .int p1), (2, .ref 294)]) kw335 rfl rfl (fun e w => rfl) km107 rfl (Nat.le_of_ble_eq_true rfl) (ws_0 (ws_i ws_nil)) (V_and (p_share (D := D + 8) h) (q_share (D := D + 8) h)) ?_ ?_
  · intro v m' e w hv hq
    obtain ⟨x, rfl⟩ := hv
    refine ⟨⟨x, hq.2, rfl, hq.1⟩, ?_⟩
    unfold xseq xnc xone
    dsimp only [Option.toList, List.cons_append, List.nil_append]
    rw [if_pos (shL_f2d (show x ∈ shL from hq.2)).1]
    rfl
  · intro x hx
    rw [show exo 107 = [0, 2] from rfl, List.mem_cons, List.mem_singleton] at hx
    rcases hx with rfl | rfl
    · exact ⟨0, 1, 3, 1, 1, rfl, rfl, rfl, fun m' q => q.1⟩
    · exact ⟨2, 2, 3, 2, 2, rfl, rfl, rfl, fun m' q => q.1⟩
theorem kw336 : xmt 336 = some (3, 4, 99, 1, [(0, 1, 3), (2, 2, 3)], xM336.2.2.2.2.2) := xmt_at (q := 16) (r := 16) rfl rfl
theorem wr336 {p1 : Int32} {N : Nat} (h : CPL m N) : WR (D + 21) 336 [.ref 0, .int p1, .ref 293] m 293 (QI (D + 20) 273 [vR 11 283, vI p1] N) (QE (D + 20) 273 [vR 11 283, vI p1] N) := by
  refine WR_gen (W := 336) (y := 108) (pre := [.aload 2, .iconst 0, .aload 0, .iload 1]) (post := [.i2l, .lastore]) (Le := 3) (args := [vR 10 0, vI p1]) (conv := fun v => .long (xti (v.getD .null)).toInt64) (ls1 := [(0, .ref 0), (1, .int p1), (2, .ref 293)]) (ls2 := [(0, .ref 0), (1, .int p1), (2, .ref 293)]) kw336 rfl rfl (fun e w => rfl) km108 rfl (Nat.le_of_ble_eq_true rfl) (ws_0 (ws_i ws_nil)) (p_shareBits (D := D + 8) h) ?_ ?_
  · intro v m' e w hv hq
    obtain ⟨x, rfl⟩ := hv
    exact ⟨⟨x, rfl, hq⟩, rfl⟩
  · intro x hx
    rw [show exo 108 = [0, 2] from rfl, List.mem_cons, List.mem_singleton] at hx
    rcases hx with rfl | rfl
    · exact ⟨0, 1, 3, 1, 1, rfl, rfl, rfl, fun m' q => q⟩
    · exact ⟨2, 2, 3, 2, 2, rfl, rfl, rfl, fun m' q => q⟩
theorem kw337 : xmt 337 = some (3, 4, 99, 1, [(0, 1, 3), (2, 2, 3)], xM337.2.2.2.2.2) := xmt_at (q := 16) (r := 17) rfl rfl
theorem wr337 {p1 : Int32} {N : Nat} (h : CPL m N) : WR (D + 21) 337 [.ref 0, .int p1, .ref 293] m 293 (QI (D + 20) 274 [vR 11 283, vI p1] N) (QE (D + 20) 274 [vR 11 283, vI p1] N) := by
  refine WR_gen (W := 337) (y := 109) (pre := [.aload 2, .iconst 0, .aload 0, .iload 1]) (post := [.i2l, .lastore]) (Le := 3) (args := [vR 10 0, vI p1]) (conv := fun v => .long (xti (v.getD .null)).toInt64) (ls1 := [(0, .ref 0), (1, .int p1), (2, .ref 293)]) (ls2 := [(0, .ref 0), (1, .int p1), (2, .ref 293)]) kw337 rfl rfl (fun e w => rfl) km109 rfl (Nat.le_of_ble_eq_true rfl) (ws_0 (ws_i ws_nil)) (p_missing (D := D + 8) h) ?_ ?_
  · intro v m' e w hv hq
    obtain ⟨x, rfl⟩ := hv
    exact ⟨⟨x, rfl, hq⟩, rfl⟩
  · intro x hx
    rw [show exo 109 = [0, 2] from rfl, List.mem_cons, List.mem_singleton] at hx
    rcases hx with rfl | rfl
    · exact ⟨0, 1, 3, 1, 1, rfl, rfl, rfl, fun m' q => q⟩
    · exact ⟨2, 2, 3, 2, 2, rfl, rfl, rfl, fun m' q => q⟩
theorem kw338 : xmt 338 = some (4, 5, 99, 1, [(0, 1, 4), (2, 2, 4)], xM338.2.2.2.2.2) := xmt_at (q := 16) (r := 18) rfl rfl
theorem wr338 {p1 p2 : Int32} {N : Nat} (h : CPL m N) : WR (D + 21) 338 [.ref 0, .int p1, .int p2, .ref 293] m 293 (QI (D + 20) 262 [vR 11 283, vI p1, vI p2] N) (QE (D + 20) 262 [vR 11 283, vI p1, vI p2] N) := by
  refine WR_gen (W := 338) (y := 110) (pre := [.aload 3, .iconst 0, .aload 0, .iload 1, .iload 2]) (post := [.i2l, .lastore]) (Le := 3) (args := [vR 10 0, vI p1, vI p2]) (conv := fun v => .long (xti (v.getD .null)).toInt64) (ls1 := [(0, .ref 0), (1, .int p1), (2, .int p2), (3, .ref 293)]) (ls2 := [(0, .ref 0), (1, .int p1), (2, .int p2), (3, .ref 293)]) kw338 rfl rfl (fun e w => rfl) km110 rfl (Nat.le_of_ble_eq_true rfl) (ws_0 (ws_i (ws_i ws_nil))) (p_seenAt (D := D + 8) h) ?_ ?_
  · intro v m' e w hv hq
    obtain ⟨x, rfl⟩ := hv
    exact ⟨⟨x, rfl, hq⟩, rfl⟩
  · intro x hx
    rw [show exo 110 = [0, 2] from rfl, List.mem_cons, List.mem_singleton] at hx
    rcases hx with rfl | rfl
    · exact ⟨0, 1, 4, 1, 1, rfl, rfl, rfl, fun m' q => q⟩
    · exact ⟨2, 2, 4, 2, 2, rfl, rfl, rfl, fun m' q => q⟩
theorem kw339 : xmt 339 = some (3, 4, 99, 1, [(0, 1, 3), (2, 2, 3)], xM339.2.2.2.2.2) := xmt_at (q := 16) (r := 19) rfl rfl
theorem wr339 {p1 : Int32} {N : Nat} (h : CPL m N) : WR (D + 21) 339 [.ref 0, .int p1, .ref 293] m 293 (QI (D + 20) 263 [vR 11 283, vI p1] N) (QE (D + 20) 263 [vR 11 283, vI p1] N) := by
  refine WR_gen (W := 339) (y := 111) (pre := [.aload 2, .iconst 0, .aload 0, .iload 1]) (post := [.i2l, .lastore]) (Le := 3) (args := [vR 10 0, vI p1]) (conv := fun v => .long (xti (v.getD .null)).toInt64) (ls1 := [(0, .ref 0), (1, .int p1), (2, .ref 293)]) (ls2 := [(0, .ref 0), (1, .int p1), (2, .ref 293)]) kw339 rfl rfl (fun e w => rfl) km111 rfl (Nat.le_of_ble_eq_true rfl) (ws_0 (ws_i ws_nil)) (p_blanks (D := D + 8) h) ?_ ?_
  · intro v m' e w hv hq
    obtain ⟨x, rfl⟩ := hv
    exact ⟨⟨x, rfl, hq⟩, rfl⟩
  · intro x hx
    rw [show exo 111 = [0, 2] from rfl, List.mem_cons, List.mem_singleton] at hx
    rcases hx with rfl | rfl
    · exact ⟨0, 1, 3, 1, 1, rfl, rfl, rfl, fun m' q => q⟩
    · exact ⟨2, 2, 3, 2, 2, rfl, rfl, rfl, fun m' q => q⟩
theorem kw340 : xmt 340 = some (3, 4, 99, 1, [(0, 1, 3), (2, 2, 3)], xM340.2.2.2.2.2) := xmt_at (q := 17) (r := 0) rfl rfl
theorem wr340 {p1 : Int32} {N : Nat} (h : CPL m N) : WR (D + 21) 340 [.ref 0, .int p1, .ref 293] m 293 (QI (D + 20) 264 [vR 11 283, vI p1] N) (QE (D + 20) 264 [vR 11 283, vI p1] N) := by
  refine WR_gen (W := 340) (y := 112) (pre := [.aload 2, .iconst 0, .aload 0, .iload 1]) (post := [.i2l, .lastore]) (Le := 3) (args := [vR 10 0, vI p1]) (conv := fun v => .long (xti (v.getD .null)).toInt64) (ls1 := [(0, .ref 0), (1, .int p1), (2, .ref 293)]) (ls2 := [(0, .ref 0), (1, .int p1), (2, .ref 293)]) kw340 rfl rfl (fun e w => rfl) km112 rfl (Nat.le_of_ble_eq_true rfl) (ws_0 (ws_i ws_nil)) (p_alst (D := D + 8) h) ?_ ?_
  · intro v m' e w hv hq
    obtain ⟨x, rfl⟩ := hv
    exact ⟨⟨x, rfl, hq⟩, rfl⟩
  · intro x hx
    rw [show exo 112 = [0, 2] from rfl, List.mem_cons, List.mem_singleton] at hx
    rcases hx with rfl | rfl
    · exact ⟨0, 1, 3, 1, 1, rfl, rfl, rfl, fun m' q => q⟩
    · exact ⟨2, 2, 3, 2, 2, rfl, rfl, rfl, fun m' q => q⟩
theorem kw341 : xmt 341 = some (3, 4, 99, 1, [(0, 1, 3), (1, 2, 3)], xM341.2.2.2.2.2) := xmt_at (q := 17) (r := 1) rfl rfl
theorem wr341 {p1 : Int32} {N : Nat} (h : CPL m N) : WR (D + 21) 341 [.ref 0, .int p1, .ref 293] m 293 (QI (D + 20) 266 [vR 11 283, vI p1] N) (QE (D + 20) 266 [vR 11 283, vI p1] N) := by
  refine WR_gen (W := 341) (y := 113) (pre := [.aload 2, .iconst 0, .aload 0, .iload 1]) (post := [.i2l, .lastore]) (Le := 3) (args := [vR 10 0, vI p1]) (conv := fun v => .long (xti (v.getD .null)).toInt64) (ls1 := [(0, .ref 0), (1, .int p1), (2, .ref 293)]) (ls2 := [(0, .ref 0), (1, .int p1), (2, .ref 293)]) kw341 rfl rfl (fun e w => rfl) km113 rfl (Nat.le_of_ble_eq_true rfl) (ws_0 (ws_i ws_nil)) (p_holder (D := D + 8) h) ?_ ?_
  · intro v m' e w hv hq
    obtain ⟨x, rfl⟩ := hv
    exact ⟨⟨x, rfl, hq⟩, rfl⟩
  · intro x hx
    rw [show exo 113 = [0, 1] from rfl, List.mem_cons, List.mem_singleton] at hx
    rcases hx with rfl | rfl
    · exact ⟨0, 1, 3, 1, 1, rfl, rfl, rfl, fun m' q => q⟩
    · exact ⟨1, 2, 3, 2, 2, rfl, rfl, rfl, fun m' q => q⟩
theorem kw342 : xmt 342 = some (3, 4, 99, 1, [(0, 1, 3), (1, 2, 3)], xM342.2.2.2.2.2) := xmt_at (q := 17) (r := 2) rfl rfl
theorem wr342 {p1 : Int32} {N : Nat} (h : CPL m N) : WR (D + 21) 342 [.ref 0, .int p1, .ref 293] m 293 (QI (D + 20) 267 [vR 11 283, vI p1] N) (QE (D + 20) 267 [vR 11 283, vI p1] N) := by
  refine WR_gen (W := 342) (y := 114) (pre := [.aload 2, .iconst 0, .aload 0, .iload 1]) (post := [.i2l, .lastore]) (Le := 3) (args := [vR 10 0, vI p1]) (conv := fun v => .long (xti (v.getD .null)).toInt64) (ls1 := [(0, .ref 0), (1, .int p1), (2, .ref 293)]) (ls2 := [(0, .ref 0), (1, .int p1), (2, .ref 293)]) kw342 rfl rfl (fun e w => rfl) km114 rfl (Nat.le_of_ble_eq_true rfl) (ws_0 (ws_i ws_nil)) (p_copies (D := D + 8) h) ?_ ?_
  · intro v m' e w hv hq
    obtain ⟨x, rfl⟩ := hv
    exact ⟨⟨x, rfl, hq⟩, rfl⟩
  · intro x hx
    rw [show exo 114 = [0, 1] from rfl, List.mem_cons, List.mem_singleton] at hx
    rcases hx with rfl | rfl
    · exact ⟨0, 1, 3, 1, 1, rfl, rfl, rfl, fun m' q => q⟩
    · exact ⟨1, 2, 3, 2, 2, rfl, rfl, rfl, fun m' q => q⟩
theorem kw343 : xmt 343 = some (3, 4, 99, 1, [(0, 1, 3), (1, 2, 3)], xM343.2.2.2.2.2) := xmt_at (q := 17) (r := 3) rfl rfl
theorem wr343 {p1 : Int32} {N : Nat} (h : CPL m N) : WR (D + 21) 343 [.ref 0, .int p1, .ref 293] m 293 (QI (D + 20) 268 [vR 11 283, vI p1] N) (QE (D + 20) 268 [vR 11 283, vI p1] N) := by
  refine WR_gen (W := 343) (y := 115) (pre := [.aload 2, .iconst 0, .aload 0, .iload 1]) (post := [.i2l, .lastore]) (Le := 3) (args := [vR 10 0, vI p1]) (conv := fun v => .long (xti (v.getD .null)).toInt64) (ls1 := [(0, .ref 0), (1, .int p1), (2, .ref 293)]) (ls2 := [(0, .ref 0), (1, .int p1), (2, .ref 293)]) kw343 rfl rfl (fun e w => rfl) km115 rfl (Nat.le_of_ble_eq_true rfl) (ws_0 (ws_i ws_nil)) (p_tired (D := D + 8) h) ?_ ?_
  · intro v m' e w hv hq
    obtain ⟨x, rfl⟩ := hv
    exact ⟨⟨x, rfl, hq⟩, rfl⟩
  · intro x hx
    rw [show exo 115 = [0, 1] from rfl, List.mem_cons, List.mem_singleton] at hx
    rcases hx with rfl | rfl
    · exact ⟨0, 1, 3, 1, 1, rfl, rfl, rfl, fun m' q => q⟩
    · exact ⟨1, 2, 3, 2, 2, rfl, rfl, rfl, fun m' q => q⟩
theorem kw344 : xmt 344 = some (2, 3, 99, 1, [(0, 1, 2)], xM344.2.2.2.2.2) := xmt_at (q := 17) (r := 4) rfl rfl
theorem wr344 {N : Nat} (h : CPL m N) : WR (D + 21) 344 [.ref 0, .ref 293] m 293 (QI (D + 20) 269 [vR 11 283] N) (QE (D + 20) 269 [vR 11 283] N) := by
  refine WR_gen (W := 344) (y := 116) (pre := [.aload 1, .iconst 0, .aload 0]) (post := [.i2l, .lastore]) (Le := 2) (args := [vR 10 0]) (conv := fun v => .long (xti (v.getD .null)).toInt64) (ls1 := [(0, .ref 0), (1, .ref 293)]) (ls2 := [(0, .ref 0), (1, .ref 293)]) kw344 rfl rfl (fun e w => rfl) km116 rfl (Nat.le_of_ble_eq_true rfl) (ws_0 ws_nil) (p_swappers (D := D + 8) h) ?_ ?_
  · intro v m' e w hv hq
    obtain ⟨x, rfl⟩ := hv
    exact ⟨⟨x, rfl, hq⟩, rfl⟩
  · intro x hx
    rw [show exo 116 = [0] from rfl, List.mem_singleton] at hx
    subst hx
    · exact ⟨0, 1, 2, 1, 1, rfl, rfl, rfl, fun m' q => q⟩
theorem kw345 : xmt 345 = some (2, 3, 99, 1, [(0, 1, 2)], xM345.2.2.2.2.2) := xmt_at (q := 17) (r := 5) rfl rfl
theorem wr345 {N : Nat} (h : CPL m N) : WR (D + 21) 345 [.ref 0, .ref 293] m 293 (QI (D + 20) 270 [vR 11 283] N) (QE (D + 20) 270 [vR 11 283] N) := by
  refine WR_gen (W := 345) (y := 117) (pre := [.aload 1, .iconst 0, .aload 0]) (post := [.i2l, .lastore]) (Le := 2) (args := [vR 10 0]) (conv := fun v => .long (xti (v.getD .null)).toInt64) (ls1 := [(0, .ref 0), (1, .ref 293)]) (ls2 := [(0, .ref 0), (1, .ref 293)]) kw345 rfl rfl (fun e w => rfl) km117 rfl (Nat.le_of_ble_eq_true rfl) (ws_0 ws_nil) (p_nextPlan (D := D + 8) h) ?_ ?_
  · intro v m' e w hv hq
    obtain ⟨x, rfl⟩ := hv
    exact ⟨⟨x, rfl, hq⟩, rfl⟩
  · intro x hx
    rw [show exo 117 = [0] from rfl, List.mem_singleton] at hx
    subst hx
    · exact ⟨0, 1, 2, 1, 1, rfl, rfl, rfl, fun m' q => q⟩
theorem kw346 : xmt 346 = some (4, 5, 99, 1, [(0, 1, 4)], xM346.2.2.2.2.2) := xmt_at (q := 17) (r := 6) rfl rfl
theorem wr346 {p1 p2 : Int32} {N : Nat} (h : CPL m N) : WR (D + 21) 346 [.ref 0, .int p1, .int p2, .ref 293] m 293 (QI (D + 20) 271 [vR 11 283, vI p1, vI p2] N) (QE (D + 20) 271 [vR 11 283, vI p1, vI p2] N) := by
  refine WR_gen (W := 346) (y := 118) (pre := [.aload 3, .iconst 0, .aload 0, .iload 1, .iload 2]) (post := [.i2l, .lastore]) (Le := 2) (args := [vR 10 0, vI p1, vI p2]) (conv := fun v => .long (xti (v.getD .null)).toInt64) (ls1 := [(0, .ref 0), (1, .int p1), (2, .int p2), (3, .ref 293)]) (ls2 := [(0, .ref 0), (1, .int p1), (2, .int p2), (3, .ref 293)]) kw346 rfl rfl (fun e w => rfl) km118 rfl (Nat.le_of_ble_eq_true rfl) (ws_0 (ws_i (ws_i ws_nil))) (p_lyingFrom (D := D + 8) h) ?_ ?_
  · intro v m' e w hv hq
    obtain ⟨x, rfl⟩ := hv
    exact ⟨⟨x, rfl, hq⟩, rfl⟩
  · intro x hx
    rw [show exo 118 = [0] from rfl, List.mem_singleton] at hx
    subst hx
    · exact ⟨0, 1, 4, 1, 1, rfl, rfl, rfl, fun m' q => q⟩
theorem kw347 : xmt 347 = some (2, 3, 99, 1, [(0, 1, 2)], xM347.2.2.2.2.2) := xmt_at (q := 17) (r := 7) rfl rfl
theorem wr347 {N : Nat} (h : CPL m N) : WR (D + 21) 347 [.ref 0, .ref 293] m 293 (QI (D + 20) 276 [vR 11 283] N) (QE (D + 20) 276 [vR 11 283] N) := by
  refine WR_gen (W := 347) (y := 119) (pre := [.aload 1, .iconst 0, .aload 0]) (post := [.i2l, .lastore]) (Le := 2) (args := [vR 10 0]) (conv := fun v => .long (xti (v.getD .null)).toInt64) (ls1 := [(0, .ref 0), (1, .ref 293)]) (ls2 := [(0, .ref 0), (1, .ref 293)]) kw347 rfl rfl (fun e w => rfl) km119 rfl (Nat.le_of_ble_eq_true rfl) (ws_0 ws_nil) (p_bestStand (D := D + 8) h) ?_ ?_
  · intro v m' e w hv hq
    obtain ⟨x, rfl⟩ := hv
    exact ⟨⟨x, rfl, hq⟩, rfl⟩
  · intro x hx
    rw [show exo 119 = [0] from rfl, List.mem_singleton] at hx
    subst hx
    · exact ⟨0, 1, 2, 1, 1, rfl, rfl, rfl, fun m' q => q⟩
theorem kw348 : xmt 348 = some (2, 3, 99, 1, [(0, 1, 2)], xM348.2.2.2.2.2) := xmt_at (q := 17) (r := 8) rfl rfl
theorem wr348 {N : Nat} (h : CPL m N) : WR (D + 21) 348 [.ref 0, .ref 293] m 293 (QI (D + 20) 277 [vR 11 283] N) (QE (D + 20) 277 [vR 11 283] N) := by
  refine WR_gen (W := 348) (y := 120) (pre := [.aload 1, .iconst 0, .aload 0]) (post := [.i2l, .lastore]) (Le := 2) (args := [vR 10 0]) (conv := fun v => .long (xti (v.getD .null)).toInt64) (ls1 := [(0, .ref 0), (1, .ref 293)]) (ls2 := [(0, .ref 0), (1, .ref 293)]) kw348 rfl rfl (fun e w => rfl) km120 rfl (Nat.le_of_ble_eq_true rfl) (ws_0 ws_nil) (p_readStands (D := D + 8) h) ?_ ?_
  · intro v m' e w hv hq
    obtain ⟨x, rfl⟩ := hv
    exact ⟨⟨x, rfl, hq⟩, rfl⟩
  · intro x hx
    rw [show exo 120 = [0] from rfl, List.mem_singleton] at hx
    subst hx
    · exact ⟨0, 1, 2, 1, 1, rfl, rfl, rfl, fun m' q => q⟩
theorem kw349 : xmt 349 = some (2, 3, 99, 1, [(0, 1, 2)], xM349.2.2.2.2.2) := xmt_at (q := 17) (r := 9) rfl rfl
theorem wr349 {N : Nat} (h : CPL m N) : WR (D + 21) 349 [.ref 0, .ref 293] m 293 (QI (D + 20) 278 [vR 11 283] N) (QE (D + 20) 278 [vR 11 283] N) := by
  refine WR_gen (W := 349) (y := 121) (pre := [.aload 1, .iconst 0, .aload 0]) (post := [.i2l, .lastore]) (Le := 2) (args := [vR 10 0]) (conv := fun v => .long (xti (v.getD .null)).toInt64) (ls1 := [(0, .ref 0), (1, .ref 293)]) (ls2 := [(0, .ref 0), (1, .ref 293)]) kw349 rfl rfl (fun e w => rfl) km121 rfl (Nat.le_of_ble_eq_true rfl) (ws_0 ws_nil) (p_weakest (D := D + 8) h) ?_ ?_
  · intro v m' e w hv hq
    obtain ⟨x, rfl⟩ := hv
    exact ⟨⟨x, rfl, hq⟩, rfl⟩
  · intro x hx
    rw [show exo 121 = [0] from rfl, List.mem_singleton] at hx
    subst hx
    · exact ⟨0, 1, 2, 1, 1, rfl, rfl, rfl, fun m' q => q⟩
theorem kw350 : xmt 350 = some (2, 3, 99, 1, [(0, 1, 2)], xM350.2.2.2.2.2) := xmt_at (q := 17) (r := 10) rfl rfl
theorem wr350 {N : Nat} (h : CPL m N) : WR (D + 21) 350 [.ref 0, .ref 293] m 293 (QI (D + 20) 279 [vR 11 283] N) (QE (D + 20) 279 [vR 11 283] N) := by
  refine WR_gen (W := 350) (y := 122) (pre := [.aload 1, .iconst 0, .aload 0]) (post := [.i2l, .lastore]) (Le := 2) (args := [vR 10 0]) (conv := fun v => .long (xti (v.getD .null)).toInt64) (ls1 := [(0, .ref 0), (1, .ref 293)]) (ls2 := [(0, .ref 0), (1, .ref 293)]) kw350 rfl rfl (fun e w => rfl) km122 rfl (Nat.le_of_ble_eq_true rfl) (ws_0 ws_nil) (p_widest (D := D + 8) h) ?_ ?_
  · intro v m' e w hv hq
    obtain ⟨x, rfl⟩ := hv
    exact ⟨⟨x, rfl, hq⟩, rfl⟩
  · intro x hx
    rw [show exo 122 = [0] from rfl, List.mem_singleton] at hx
    subst hx
    · exact ⟨0, 1, 2, 1, 1, rfl, rfl, rfl, fun m' q => q⟩
theorem kw351 : xmt 351 = some (2, 3, 99, 1, [(0, 1, 2)], xM351.2.2.2.2.2) := xmt_at (q := 17) (r := 11) rfl rfl
theorem wr351 {N : Nat} (h : CPL m N) : WR (D + 21) 351 [.ref 0, .ref 293] m 293 (QI (D + 20) 280 [vR 11 283] N) (QE (D + 20) 280 [vR 11 283] N) := by
  refine WR_gen (W := 351) (y := 123) (pre := [.aload 1, .iconst 0, .aload 0]) (post := [.i2l, .lastore]) (Le := 2) (args := [vR 10 0]) (conv := fun v => .long (xti (v.getD .null)).toInt64) (ls1 := [(0, .ref 0), (1, .ref 293)]) (ls2 := [(0, .ref 0), (1, .ref 293)]) kw351 rfl rfl (fun e w => rfl) km123 rfl (Nat.le_of_ble_eq_true rfl) (ws_0 ws_nil) (p_stretch (D := D + 8) h) ?_ ?_
  · intro v m' e w hv hq
    obtain ⟨x, rfl⟩ := hv
    exact ⟨⟨x, rfl, hq⟩, rfl⟩
  · intro x hx
    rw [show exo 123 = [0] from rfl, List.mem_singleton] at hx
    subst hx
    · exact ⟨0, 1, 2, 1, 1, rfl, rfl, rfl, fun m' q => q⟩
theorem kw352 : xmt 352 = some (2, 3, 99, 1, [(0, 1, 2)], xM352.2.2.2.2.2) := xmt_at (q := 17) (r := 12) rfl rfl
theorem wr352 {N : Nat} (h : CPL m N) : WR (D + 21) 352 [.ref 0, .ref 294] m 294 (QD (D + 20) 282 [vR 11 283] N) (QE (D + 20) 282 [vR 11 283] N) := by
  refine WR_gen (W := 352) (y := 124) (pre := [.aload 1, .iconst 0, .aload 0]) (post := [.dastore]) (Le := 2) (args := [vR 10 0]) (conv := fun v => .double (xtd (v.getD .null))) (ls1 := [(0, .ref 0), (1, .ref 294)]) (ls2 := [(0, .ref 0), (1, .ref 294)]) kw352 rfl rfl (fun e w => rfl) km124 rfl (Nat.le_of_ble_eq_true rfl) (ws_0 ws_nil) (p_meanStrength (D := D + 8) h) ?_ ?_
  · intro v m' e w hv hq
    obtain ⟨x, rfl⟩ := hv
    exact ⟨⟨x, rfl, hq⟩, rfl⟩
  · intro x hx
    rw [show exo 124 = [0] from rfl, List.mem_singleton] at hx
    subst hx
    · exact ⟨0, 1, 2, 1, 1, rfl, rfl, rfl, fun m' q => q⟩
theorem kw353 : xmt 353 = some (2, 3, 99, 1, [(0, 1, 2)], xM353.2.2.2.2.2) := xmt_at (q := 17) (r := 13) rfl rfl
theorem wr353 {N : Nat} (h : CPL m N) : WR (D + 21) 353 [.ref 0, .ref 293] m 293 (QJ (D + 20) 283 [vR 11 283] N) (QE (D + 20) 283 [vR 11 283] N) := by
  refine WR_gen (W := 353) (y := 125) (pre := [.aload 1, .iconst 0, .aload 0]) (post := [.lastore]) (Le := 2) (args := [vR 10 0]) (conv := fun v => .long (xtl (v.getD .null))) (ls1 := [(0, .ref 0), (1, .ref 293)]) (ls2 := [(0, .ref 0), (1, .ref 293)]) kw353 rfl rfl (fun e w => rfl) km125 rfl (Nat.le_of_ble_eq_true rfl) (ws_0 ws_nil) (p_strengthBits (D := D + 8) h) ?_ ?_
  · intro v m' e w hv hq
    obtain ⟨x, rfl⟩ := hv
    exact ⟨⟨x, rfl, hq⟩, rfl⟩
  · intro x hx
    rw [show exo 125 = [0] from rfl, List.mem_singleton] at hx
    subst hx
    · exact ⟨0, 1, 2, 1, 1, rfl, rfl, rfl, fun m' q => q⟩
theorem kw354 : xmt 354 = some (3, 4, 99, 1, [(0, 1, 3), (2, 2, 3)], xM354.2.2.2.2.2) := xmt_at (q := 17) (r := 14) rfl rfl
theorem wr354 {p1 : Int32} {N : Nat} (h : CPL m N) : WR (D + 21) 354 [.ref 0, .int p1, .ref 293] m 293 (QI (D + 20) 287 [vR 11 283, vI p1] N) (QE (D + 20) 287 [vR 11 283, vI p1] N) := by
  refine WR_gen (W := 354) (y := 126) (pre := [.aload 2, .iconst 0, .aload 0, .iload 1]) (post := [.i2l, .lastore]) (Le := 3) (args := [vR 10 0, vI p1]) (conv := fun v => .long (xti (v.getD .null)).toInt64) (ls1 := [(0, .ref 0), (1, .int p1), (2, .ref 293)]) (ls2 := [(0, .ref 0), (1, .int p1), (2, .ref 293)]) kw354 rfl rfl (fun e w => rfl) km126 rfl (Nat.le_of_ble_eq_true rfl) (ws_0 (ws_i ws_nil)) (p_readsIn (D := D + 8) h) ?_ ?_
  · intro v m' e w hv hq
    obtain ⟨x, rfl⟩ := hv
    exact ⟨⟨x, rfl, hq⟩, rfl⟩
  · intro x hx
    rw [show exo 126 = [0, 2] from rfl, List.mem_cons, List.mem_singleton] at hx
    rcases hx with rfl | rfl
    · exact ⟨0, 1, 3, 1, 1, rfl, rfl, rfl, fun m' q => q⟩
    · exact ⟨2, 2, 3, 2, 2, rfl, rfl, rfl, fun m' q => q⟩
theorem kw355 : xmt 355 = some (3, 4, 99, 1, [(0, 1, 3), (2, 2, 3)], xM355.2.2.2.2.2) := xmt_at (q := 17) (r := 15) rfl rfl
theorem wr355 {p1 : Int32} {N : Nat} (h : CPL m N) : WR (D + 21) 355 [.ref 0, .int p1, .ref 293] m 293 (QI (D + 20) 289 [vR 11 283, vI p1] N) (QE (D + 20) 289 [vR 11 283, vI p1] N) := by
  refine WR_gen (W := 355) (y := 127) (pre := [.aload 2, .iconst 0, .aload 0, .iload 1]) (post := [.i2l, .lastore]) (Le := 3) (args := [vR 10 0, vI p1]) (conv := fun v => .long (xti (v.getD .null)).toInt64) (ls1 := [(0, .ref 0), (1, .int p1), (2, .ref 293)]) (ls2 := [(0, .ref 0), (1, .int p1), (2, .ref 293)]) kw355 rfl rfl (fun e w => rfl) km127 rfl (Nat.le_of_ble_eq_true rfl) (ws_0 (ws_i ws_nil)) (p_passedIn (D := D + 8) h) ?_ ?_
  · intro v m' e w hv hq
    obtain ⟨x, rfl⟩ := hv
    exact ⟨⟨x, rfl, hq⟩, rfl⟩
  · intro x hx
    rw [show exo 127 = [0, 2] from rfl, List.mem_cons, List.mem_singleton] at hx
    rcases hx with rfl | rfl
    · exact ⟨0, 1, 3, 1, 1, rfl, rfl, rfl, fun m' q => q⟩
    · exact ⟨2, 2, 3, 2, 2, rfl, rfl, rfl, fun m' q => q⟩
theorem kw356 : xmt 356 = some (4, 5, 99, 1, [(0, 1, 4), (2, 2, 4), (1, 3, 4)], xM356.2.2.2.2.2) := xmt_at (q := 17) (r := 16) rfl rfl
theorem wr356 {p1 p2 : Int32} {N : Nat} (h : CPL m N) : WR (D + 21) 356 [.ref 0, .int p1, .int p2, .ref 293] m 293 (QI (D + 20) 292 [vR 11 283, vI p1, vI p2] N) (QE (D + 20) 292 [vR 11 283, vI p1, vI p2] N) := by
  refine WR_gen (W := 356) (y := 128) (pre := [.aload 3, .iconst 0, .aload 0, .iload 1, .iload 2]) (post := [.i2l, .lastore]) (Le := 4) (args := [vR 10 0, vI p1, vI p2]) (conv := fun v => .long (xti (v.getD .null)).toInt64) (ls1 := [(0, .ref 0), (1, .int p1), (2, .int p2), (3, .ref 293)]) (ls2 := [(0, .ref 0), (1, .int p1), (2, .int p2), (3, .ref 293)]) kw356 rfl rfl (fun e w => rfl) km128 rfl (Nat.le_of_ble_eq_true rfl) (ws_0 (ws_i (ws_i ws_nil))) (p_placeIn (D := D + 8) h) ?_ ?_
  · intro v m' e w hv hq
    obtain ⟨x, rfl⟩ := hv
    exact ⟨⟨x, rfl, hq⟩, rfl⟩
  · intro x hx
    rw [show exo 128 = [0, 1, 2] from rfl, List.mem_cons, List.mem_cons, List.mem_singleton] at hx
    rcases hx with rfl | rfl | rfl
    · exact ⟨0, 1, 4, 1, 1, rfl, rfl, rfl, fun m' q => q⟩
    · exact ⟨1, 3, 4, 3, 3, rfl, rfl, rfl, fun m' q => q⟩
    · exact ⟨2, 2, 4, 2, 2, rfl, rfl, rfl, fun m' q => q⟩
theorem kw357 : xmt 357 = some (4, 5, 99, 1, [(0, 1, 4), (2, 2, 4), (1, 3, 4)], xM357.2.2.2.2.2) := xmt_at (q := 17) (r := 17) rfl rfl
theorem wr357 {p1 p2 : Int32} {N : Nat} (h : CPL m N) : WR (D + 21) 357 [.ref 0, .int p1, .int p2, .ref 293] m 293 (QI (D + 20) 293 [vR 11 283, vI p1, vI p2] N) (QE (D + 20) 293 [vR 11 283, vI p1, vI p2] N) := by
  refine WR_gen (W := 357) (y := 129) (pre := [.aload 3, .iconst 0, .aload 0, .iload 1, .iload 2]) (post := [.i2l, .lastore]) (Le := 4) (args := [vR 10 0, vI p1, vI p2]) (conv := fun v => .long (xti (v.getD .null)).toInt64) (ls1 := [(0, .ref 0), (1, .int p1), (2, .int p2), (3, .ref 293)]) (ls2 := [(0, .ref 0), (1, .int p1), (2, .int p2), (3, .ref 293)]) kw357 rfl rfl (fun e w => rfl) km129 rfl (Nat.le_of_ble_eq_true rfl) (ws_0 (ws_i (ws_i ws_nil))) (p_strengthIn (D := D + 8) h) ?_ ?_
  · intro v m' e w hv hq
    obtain ⟨x, rfl⟩ := hv
    exact ⟨⟨x, rfl, hq⟩, rfl⟩
  · intro x hx
    rw [show exo 129 = [0, 1, 2] from rfl, List.mem_cons, List.mem_cons, List.mem_singleton] at hx
    rcases hx with rfl | rfl | rfl
    · exact ⟨0, 1, 4, 1, 1, rfl, rfl, rfl, fun m' q => q⟩
    · exact ⟨1, 3, 4, 3, 3, rfl, rfl, rfl, fun m' q => q⟩
    · exact ⟨2, 2, 4, 2, 2, rfl, rfl, rfl, fun m' q => q⟩
theorem kw358 : xmt 358 = some (4, 5, 99, 1, [(0, 1, 4), (2, 2, 4), (1, 3, 4)], xM358.2.2.2.2.2) := xmt_at (q := 17) (r := 18) rfl rfl
theorem wr358 {p1 p2 : Int32} {N : Nat} (h : CPL m N) : WR (D + 21) 358 [.ref 0, .int p1, .int p2, .ref 293] m 293 (QI (D + 20) 294 [vR 11 283, vI p1, vI p2] N) (QE (D + 20) 294 [vR 11 283, vI p1, vI p2] N) := by
  refine WR_gen (W := 358) (y := 130) (pre := [.aload 3, .iconst 0, .aload 0, .iload 1, .iload 2]) (post := [.i2l, .lastore]) (Le := 4) (args := [vR 10 0, vI p1, vI p2]) (conv := fun v => .long (xti (v.getD .null)).toInt64) (ls1 := [(0, .ref 0), (1, .int p1), (2, .int p2), (3, .ref 293)]) (ls2 := [(0, .ref 0), (1, .int p1), (2, .int p2), (3, .ref 293)]) kw358 rfl rfl (fun e w => rfl) km130 rfl (Nat.le_of_ble_eq_true rfl) (ws_0 (ws_i (ws_i ws_nil))) (p_bannerIn (D := D + 8) h) ?_ ?_
  · intro v m' e w hv hq
    obtain ⟨x, rfl⟩ := hv
    exact ⟨⟨x, rfl, hq⟩, rfl⟩
  · intro x hx
    rw [show exo 130 = [0, 1, 2] from rfl, List.mem_cons, List.mem_cons, List.mem_singleton] at hx
    rcases hx with rfl | rfl | rfl
    · exact ⟨0, 1, 4, 1, 1, rfl, rfl, rfl, fun m' q => q⟩
    · exact ⟨1, 3, 4, 3, 3, rfl, rfl, rfl, fun m' q => q⟩
    · exact ⟨2, 2, 4, 2, 2, rfl, rfl, rfl, fun m' q => q⟩
theorem kw359 : xmt 359 = some (3, 4, 99, 1, [(0, 1, 3), (1, 2, 3)], xM359.2.2.2.2.2) := xmt_at (q := 17) (r := 19) rfl rfl
theorem wr359 {p1 : Int32} {N : Nat} (h : CPL m N) : WR (D + 21) 359 [.ref 0, .int p1, .ref 293] m 293 (QI (D + 20) 295 [vR 11 283, vI p1] N) (QE (D + 20) 295 [vR 11 283, vI p1] N) := by
  refine WR_gen (W := 359) (y := 131) (pre := [.aload 2, .iconst 0, .aload 0, .iload 1]) (post := [.i2l, .lastore]) (Le := 3) (args := [vR 10 0, vI p1]) (conv := fun v => .long (xti (v.getD .null)).toInt64) (ls1 := [(0, .ref 0), (1, .int p1), (2, .ref 293)]) (ls2 := [(0, .ref 0), (1, .int p1), (2, .ref 293)]) kw359 rfl rfl (fun e w => rfl) km131 rfl (Nat.le_of_ble_eq_true rfl) (ws_0 (ws_i ws_nil)) (p_dropsIn (D := D + 8) h) ?_ ?_
  · intro v m' e w hv hq
    obtain ⟨x, rfl⟩ := hv
    exact ⟨⟨x, rfl, hq⟩, rfl⟩
  · intro x hx
    rw [show exo 131 = [0, 1] from rfl, List.mem_cons, List.mem_singleton] at hx
    rcases hx with rfl | rfl
    · exact ⟨0, 1, 3, 1, 1, rfl, rfl, rfl, fun m' q => q⟩
    · exact ⟨1, 2, 3, 2, 2, rfl, rfl, rfl, fun m' q => q⟩
theorem kw360 : xmt 360 = some (2, 3, 99, 1, [(0, 1, 2)], xM360.2.2.2.2.2) := xmt_at (q := 18) (r := 0) rfl rfl
theorem wr360 {N : Nat} (h : CPL m N) : WR (D + 21) 360 [.ref 0, .ref 293] m 293 (QI (D + 20) 296 [vR 11 283] N) (QE (D + 20) 296 [vR 11 283] N) := by
  refine WR_gen (W := 360) (y := 132) (pre := [.aload 1, .iconst 0, .aload 0]) (post := [.i2l, .lastore]) (Le := 2) (args := [vR 10 0]) (conv := fun v => .long (xti (v.getD .null)).toInt64) (ls1 := [(0, .ref 0), (1, .ref 293)]) (ls2 := [(0, .ref 0), (1, .ref 293)]) kw360 rfl rfl (fun e w => rfl) km132 rfl (Nat.le_of_ble_eq_true rfl) (ws_0 ws_nil) (p_firstDrop (D := D + 8) h) ?_ ?_
  · intro v m' e w hv hq
    obtain ⟨x, rfl⟩ := hv
    exact ⟨⟨x, rfl, hq⟩, rfl⟩
  · intro x hx
    rw [show exo 132 = [0] from rfl, List.mem_singleton] at hx
    subst hx
    · exact ⟨0, 1, 2, 1, 1, rfl, rfl, rfl, fun m' q => q⟩
theorem kw361 : xmt 361 = some (4, 5, 99, 1, [(0, 1, 4), (2, 2, 4), (1, 3, 4)], xM361.2.2.2.2.2) := xmt_at (q := 18) (r := 1) rfl rfl
theorem wr361 {p1 p2 : Int32} {N : Nat} (h : CPL m N) : WR (D + 21) 361 [.ref 0, .int p1, .int p2, .ref 294] m 294 (QFl (D + 20) 298 [vR 11 283, vI p1, vI p2] N) (QE (D + 20) 298 [vR 11 283, vI p1, vI p2] N) := by
  refine WR_gen (W := 361) (y := 133) (pre := [.aload 3, .iconst 0, .aload 0, .iload 1, .iload 2]) (post := [.f2d, .dastore]) (Le := 4) (args := [vR 10 0, vI p1, vI p2]) (conv := fun v => .double (FP.f2d (xtf (v.getD .null)))) (ls1 := [(0, .ref 0), (1, .int p1), (2, .int p2), (3, .ref 294)]) (ls2 := [(0, .ref 0), (1, .int p1), (2, .int p2), (3, .ref 294)]) kw361 rfl rfl (fun e w => rfl) km133 rfl (Nat.le_of_ble_eq_true rfl) (ws_0 (ws_i (ws_i ws_nil))) (V_and (p_shareIn (D := D + 8) h) (q_shareIn (D := D + 8) h)) ?_ ?_
  · intro v m' e w hv hq
    obtain ⟨x, rfl⟩ := hv
    refine ⟨⟨x, hq.2, rfl, hq.1⟩, ?_⟩
    unfold xseq xnc xone
    dsimp only [Option.toList, List.cons_append, List.nil_append]
    rw [if_pos (shL_f2d (show x ∈ shL from hq.2)).1]
    rfl
  · intro x hx
    rw [show exo 133 = [0, 1, 2] from rfl, List.mem_cons, List.mem_cons, List.mem_singleton] at hx
    rcases hx with rfl | rfl | rfl
    · exact ⟨0, 1, 4, 1, 1, rfl, rfl, rfl, fun m' q => q.1⟩
    · exact ⟨1, 3, 4, 3, 3, rfl, rfl, rfl, fun m' q => q.1⟩
    · exact ⟨2, 2, 4, 2, 2, rfl, rfl, rfl, fun m' q => q.1⟩
theorem kw362 : xmt 362 = some (4, 5, 99, 1, [(0, 1, 4), (2, 2, 4), (1, 3, 4)], xM362.2.2.2.2.2) := xmt_at (q := 18) (r := 2) rfl rfl
theorem wr362 {p1 p2 : Int32} {N : Nat} (h : CPL m N) : WR (D + 21) 362 [.ref 0, .int p1, .int p2, .ref 294] m 294 (QFl (D + 20) 299 [vR 11 283, vI p1, vI p2] N) (QE (D + 20) 299 [vR 11 283, vI p1, vI p2] N) := by
  refine WR_gen (W := 362) (y := 134) (pre := [.aload 3, .iconst 0, .aload 0, .iload 1, .iload 2]) (post := [.f2d, .dastore]) (Le := 4) (args := [vR 10 0, vI p1, vI p2]) (conv := fun v => .double (FP.f2d (xtf (v.getD .null)))) (ls1 := [(0, .ref 0), (1, .int p1), (2, .int p2), (3, .ref 294)]) (ls2 := [(0, .ref 0), (1, .int p1), (2, .int p2), (3, .ref 294)]) kw362 rfl rfl (fun e w => rfl) km134 rfl (Nat.le_of_ble_eq_true rfl) (ws_0 (ws_i (ws_i ws_nil))) (V_and (p_bestShare (D := D + 8) h) (q_bestShare (D := D + 8) h)) ?_ ?_
  · intro v m' e w hv hq
    obtain ⟨x, rfl⟩ := hv
    refine ⟨⟨x, hq.2, rfl, hq.1⟩, ?_⟩
    unfold xseq xnc xone
    dsimp only [Option.toList, List.cons_append, List.nil_append]
    rw [if_pos (shL_f2d (show x ∈ shL from hq.2)).1]
    rfl
  · intro x hx
    rw [show exo 134 = [0, 1, 2] from rfl, List.mem_cons, List.mem_cons, List.mem_singleton] at hx
    rcases hx with rfl | rfl | rfl
    · exact ⟨0, 1, 4, 1, 1, rfl, rfl, rfl, fun m' q => q.1⟩
    · exact ⟨1, 3, 4, 3, 3, rfl, rfl, rfl, fun m' q => q.1⟩
    · exact ⟨2, 2, 4, 2, 2, rfl, rfl, rfl, fun m' q => q.1⟩
theorem kw363 : xmt 363 = some (3, 4, 99, 1, [(0, 1, 3), (2, 2, 3)], xM363.2.2.2.2.2) := xmt_at (q := 18) (r := 3) rfl rfl
theorem wr363 {p1 : Int32} {N : Nat} (h : CPL m N) : WR (D + 21) 363 [.ref 0, .int p1, .ref 293] m 293 (QI (D + 20) 300 [vR 11 283, vI p1] N) (QE (D + 20) 300 [vR 11 283, vI p1] N) := by
  refine WR_gen (W := 363) (y := 135) (pre := [.aload 2, .iconst 0, .aload 0, .iload 1]) (post := [.i2l, .lastore]) (Le := 3) (args := [vR 10 0, vI p1]) (conv := fun v => .long (xti (v.getD .null)).toInt64) (ls1 := [(0, .ref 0), (1, .int p1), (2, .ref 293)]) (ls2 := [(0, .ref 0), (1, .int p1), (2, .ref 293)]) kw363 rfl rfl (fun e w => rfl) km135 rfl (Nat.le_of_ble_eq_true rfl) (ws_0 (ws_i ws_nil)) (p_bestSwap (D := D + 8) h) ?_ ?_
  · intro v m' e w hv hq
    obtain ⟨x, rfl⟩ := hv
    exact ⟨⟨x, rfl, hq⟩, rfl⟩
  · intro x hx
    rw [show exo 135 = [0, 2] from rfl, List.mem_cons, List.mem_singleton] at hx
    rcases hx with rfl | rfl
    · exact ⟨0, 1, 3, 1, 1, rfl, rfl, rfl, fun m' q => q⟩
    · exact ⟨2, 2, 3, 2, 2, rfl, rfl, rfl, fun m' q => q⟩
theorem kw364 : xmt 364 = some (3, 4, 99, 1, [(0, 1, 3), (2, 2, 3)], xM364.2.2.2.2.2) := xmt_at (q := 18) (r := 4) rfl rfl
theorem wr364 {p1 : Int32} {N : Nat} (h : CPL m N) : WR (D + 21) 364 [.ref 0, .int p1, .ref 293] m 293 (QI (D + 20) 301 [vR 11 283, vI p1] N) (QE (D + 20) 301 [vR 11 283, vI p1] N) := by
  refine WR_gen (W := 364) (y := 136) (pre := [.aload 2, .iconst 0, .aload 0, .iload 1]) (post := [.i2l, .lastore]) (Le := 3) (args := [vR 10 0, vI p1]) (conv := fun v => .long (xti (v.getD .null)).toInt64) (ls1 := [(0, .ref 0), (1, .int p1), (2, .ref 293)]) (ls2 := [(0, .ref 0), (1, .int p1), (2, .ref 293)]) kw364 rfl rfl (fun e w => rfl) km136 rfl (Nat.le_of_ble_eq_true rfl) (ws_0 (ws_i ws_nil)) (p_closedIn (D := D + 8) h) ?_ ?_
  · intro v m' e w hv hq
    obtain ⟨x, rfl⟩ := hv
    exact ⟨⟨x, rfl, hq⟩, rfl⟩
  · intro x hx
    rw [show exo 136 = [0, 2] from rfl, List.mem_cons, List.mem_singleton] at hx
    rcases hx with rfl | rfl
    · exact ⟨0, 1, 3, 1, 1, rfl, rfl, rfl, fun m' q => q⟩
    · exact ⟨2, 2, 3, 2, 2, rfl, rfl, rfl, fun m' q => q⟩
theorem kw365 : xmt 365 = some (2, 3, 99, 1, [(0, 1, 2)], xM365.2.2.2.2.2) := xmt_at (q := 18) (r := 5) rfl rfl
theorem wr365 {N : Nat} (h : CPL m N) (hN : N ≤ 1000) : WR (D + 21) 365 [.ref 0, .ref 293] m 293 (QI (D + 20) 302 [vR 11 283] N) (QE (D + 20) 302 [vR 11 283] N) := by
  refine WR_gen (W := 365) (y := 137) (pre := [.aload 1, .iconst 0, .aload 0]) (post := [.i2l, .lastore]) (Le := 2) (args := [vR 10 0]) (conv := fun v => .long (xti (v.getD .null)).toInt64) (ls1 := [(0, .ref 0), (1, .ref 293)]) (ls2 := [(0, .ref 0), (1, .ref 293)]) kw365 rfl rfl (fun e w => rfl) km137 rfl (Nat.le_of_ble_eq_true rfl) (ws_0 ws_nil) (p_leastRest (D := D + 8) h hN) ?_ ?_
  · intro v m' e w hv hq
    obtain ⟨x, rfl⟩ := hv
    exact ⟨⟨x, rfl, hq⟩, rfl⟩
  · intro x hx
    rw [show exo 137 = [0] from rfl, List.mem_singleton] at hx
    subst hx
    · exact ⟨0, 1, 2, 1, 1, rfl, rfl, rfl, fun m' q => q⟩
theorem kw366 : xmt 366 = some (3, 4, 99, 1, [(0, 1, 3), (2, 2, 3)], xM366.2.2.2.2.2) := xmt_at (q := 18) (r := 6) rfl rfl
theorem wr366 {p1 : Int32} {N : Nat} (h : CPL m N) : WR (D + 21) 366 [.ref 0, .int p1, .ref 293] m 293 (QI (D + 20) 305 [vR 11 283, vI p1] N) (QE (D + 20) 305 [vR 11 283, vI p1] N) := by
  refine WR_gen (W := 366) (y := 138) (pre := [.aload 2, .iconst 0, .aload 0, .iload 1]) (post := [.i2l, .lastore]) (Le := 3) (args := [vR 10 0, vI p1]) (conv := fun v => .long (xti (v.getD .null)).toInt64) (ls1 := [(0, .ref 0), (1, .int p1), (2, .ref 293)]) (ls2 := [(0, .ref 0), (1, .int p1), (2, .ref 293)]) kw366 rfl rfl (fun e w => rfl) km138 rfl (Nat.le_of_ble_eq_true rfl) (ws_0 (ws_i ws_nil)) (p_writeStand (D := D + 8) h) ?_ ?_
  · intro v m' e w hv hq
    obtain ⟨x, rfl⟩ := hv
    exact ⟨⟨x, rfl, hq⟩, rfl⟩
  · intro x hx
    rw [show exo 138 = [0, 2] from rfl, List.mem_cons, List.mem_singleton] at hx
    rcases hx with rfl | rfl
    · exact ⟨0, 1, 3, 1, 1, rfl, rfl, rfl, fun m' q => q⟩
    · exact ⟨2, 2, 3, 2, 2, rfl, rfl, rfl, fun m' q => q⟩
theorem kw367 : xmt 367 = some (2, 3, 99, 1, [(0, 1, 2)], xM367.2.2.2.2.2) := xmt_at (q := 18) (r := 7) rfl rfl
theorem wr367 {N : Nat} (h : CPL m N) : WR (D + 21) 367 [.ref 0, .ref 293] m 293 (QI (D + 20) 306 [vR 11 283] N) (QE (D + 20) 306 [vR 11 283] N) := by
  refine WR_gen (W := 367) (y := 139) (pre := [.aload 1, .iconst 0, .aload 0]) (post := [.i2l, .lastore]) (Le := 2) (args := [vR 10 0]) (conv := fun v => .long (xti (v.getD .null)).toInt64) (ls1 := [(0, .ref 0), (1, .ref 293)]) (ls2 := [(0, .ref 0), (1, .ref 293)]) kw367 rfl rfl (fun e w => rfl) km139 rfl (Nat.le_of_ble_eq_true rfl) (ws_0 ws_nil) (p_writeRow (D := D + 8) h) ?_ ?_
  · intro v m' e w hv hq
    obtain ⟨x, rfl⟩ := hv
    exact ⟨⟨x, rfl, hq⟩, rfl⟩
  · intro x hx
    rw [show exo 139 = [0] from rfl, List.mem_singleton] at hx
    subst hx
    · exact ⟨0, 1, 2, 1, 1, rfl, rfl, rfl, fun m' q => q⟩
theorem kw368 : xmt 368 = some (2, 3, 99, 1, [(0, 1, 2)], xM368.2.2.2.2.2) := xmt_at (q := 18) (r := 8) rfl rfl
theorem wr368 {N : Nat} (h : CPL m N) : WR (D + 21) 368 [.ref 0, .ref 293] m 293 (QI (D + 20) 307 [vR 11 283] N) (QE (D + 20) 307 [vR 11 283] N) := by
  refine WR_gen (W := 368) (y := 140) (pre := [.aload 1, .iconst 0, .aload 0]) (post := [.i2l, .lastore]) (Le := 2) (args := [vR 10 0]) (conv := fun v => .long (xti (v.getD .null)).toInt64) (ls1 := [(0, .ref 0), (1, .ref 293)]) (ls2 := [(0, .ref 0), (1, .ref 293)]) kw368 rfl rfl (fun e w => rfl) km140 rfl (Nat.le_of_ble_eq_true rfl) (ws_0 ws_nil) (p_writePlaces (D := D + 0) h) ?_ ?_
  · intro v m' e w hv hq
    obtain ⟨x, rfl⟩ := hv
    exact ⟨⟨x, rfl, hq⟩, rfl⟩
  · intro x hx
    rw [show exo 140 = [0] from rfl, List.mem_singleton] at hx
    subst hx
    · exact ⟨0, 1, 2, 1, 1, rfl, rfl, rfl, fun m' q => q⟩
theorem kw369 : xmt 369 = some (3, 4, 99, 1, [(2, 1, 3)], xM369.2.2.2.2.2) := xmt_at (q := 18) (r := 9) rfl rfl
theorem wr369 {p1 : Int32} {N : Nat} (h : CPL m N) : WR (D + 21) 369 [.ref 0, .int p1, .ref 293] m 293 (QI (D + 20) 308 [vR 11 283, vI p1] N) (QE (D + 20) 308 [vR 11 283, vI p1] N) := by
  refine WR_gen (W := 369) (y := 141) (pre := [.aload 2, .iconst 0, .aload 0, .iload 1]) (post := [.i2l, .lastore]) (Le := 2) (args := [vR 10 0, vI p1]) (conv := fun v => .long (xti (v.getD .null)).toInt64) (ls1 := [(0, .ref 0), (1, .int p1), (2, .ref 293)]) (ls2 := [(0, .ref 0), (1, .int p1), (2, .ref 293)]) kw369 rfl rfl (fun e w => rfl) km141 rfl (Nat.le_of_ble_eq_true rfl) (ws_0 (ws_i ws_nil)) (p_textByte (D := D + 8) h) ?_ ?_
  · intro v m' e w hv hq
    obtain ⟨x, rfl⟩ := hv
    exact ⟨⟨x, rfl, hq⟩, rfl⟩
  · intro x hx
    rw [show exo 141 = [2] from rfl, List.mem_singleton] at hx
    subst hx
    · exact ⟨2, 1, 3, 1, 1, rfl, rfl, rfl, fun m' q => q⟩
theorem kw370 : xmt 370 = some (3, 4, 99, 1, [(0, 1, 3), (1, 2, 3)], xM370.2.2.2.2.2) := xmt_at (q := 18) (r := 10) rfl rfl
theorem wr370 {p1 : Int32} {N : Nat} (h : CPL m N) : WR (D + 21) 370 [.ref 0, .int p1, .ref 293] m 293 (QI (D + 20) 310 [vR 11 283, vI p1] N) (QE (D + 20) 310 [vR 11 283, vI p1] N) := by
  refine WR_gen (W := 370) (y := 142) (pre := [.aload 2, .iconst 0, .aload 0, .iload 1]) (post := [.i2l, .lastore]) (Le := 3) (args := [vR 10 0, vI p1]) (conv := fun v => .long (xti (v.getD .null)).toInt64) (ls1 := [(0, .ref 0), (1, .int p1), (2, .ref 293)]) (ls2 := [(0, .ref 0), (1, .int p1), (2, .ref 293)]) kw370 rfl rfl (fun e w => rfl) km142 rfl (Nat.le_of_ble_eq_true rfl) (ws_0 (ws_i ws_nil)) (p_tick (D := D + 8) h) ?_ ?_
  · intro v m' e w hv hq
    obtain ⟨x, rfl⟩ := hv
    exact ⟨⟨x, rfl, hq⟩, rfl⟩
  · intro x hx
    rw [show exo 142 = [0, 1] from rfl, List.mem_cons, List.mem_singleton] at hx
    rcases hx with rfl | rfl
    · exact ⟨0, 1, 3, 1, 1, rfl, rfl, rfl, fun m' q => q⟩
    · exact ⟨1, 2, 3, 2, 2, rfl, rfl, rfl, fun m' q => q⟩
theorem kw371 : xmt 371 = some (3, 4, 99, 1, [(0, 1, 3), (2, 2, 3), (1, 3, 3)], xM371.2.2.2.2.2) := xmt_at (q := 18) (r := 11) rfl rfl
theorem wr371 {p1 : Int32} {N : Nat} (h : CPL m N) : WR (D + 21) 371 [.ref 0, .int p1, .ref 293] m 293 (QI (D + 20) 311 [vR 11 283, vI p1] N) (QE (D + 20) 311 [vR 11 283, vI p1] N) := by
  refine WR_gen (W := 371) (y := 143) (pre := [.aload 2, .iconst 0, .aload 0, .iload 1]) (post := [.i2l, .lastore]) (Le := 4) (args := [vR 10 0, vI p1]) (conv := fun v => .long (xti (v.getD .null)).toInt64) (ls1 := [(0, .ref 0), (1, .int p1), (2, .ref 293)]) (ls2 := [(0, .ref 0), (1, .int p1), (2, .ref 293)]) kw371 rfl rfl (fun e w => rfl) km143 rfl (Nat.le_of_ble_eq_true rfl) (ws_0 (ws_i ws_nil)) (p_swap (D := D + 8) h) ?_ ?_
  · intro v m' e w hv hq
    obtain ⟨x, rfl⟩ := hv
    exact ⟨⟨x, rfl, hq⟩, rfl⟩
  · intro x hx
    rw [show exo 143 = [0, 1, 2] from rfl, List.mem_cons, List.mem_cons, List.mem_singleton] at hx
    rcases hx with rfl | rfl | rfl
    · exact ⟨0, 1, 3, 1, 1, rfl, rfl, rfl, fun m' q => q⟩
    · exact ⟨1, 3, 3, 3, 3, rfl, rfl, rfl, fun m' q => q⟩
    · exact ⟨2, 2, 3, 2, 2, rfl, rfl, rfl, fun m' q => q⟩
theorem kw372 : xmt 372 = some (3, 4, 99, 1, [(0, 1, 3), (2, 2, 3), (1, 3, 3)], xM372.2.2.2.2.2) := xmt_at (q := 18) (r := 12) rfl rfl
theorem wr372 {p1 : Int32} {N : Nat} (h : CPL m N) : WR (D + 21) 372 [.ref 0, .int p1, .ref 293] m 293 (QI (D + 20) 312 [vR 11 283, vI p1] (N + 1)) (QE (D + 20) 312 [vR 11 283, vI p1] (N + 1)) := by
  refine WR_gen (W := 372) (y := 144) (pre := [.aload 2, .iconst 0, .aload 0, .iload 1]) (post := [.i2l, .lastore]) (Le := 4) (args := [vR 10 0, vI p1]) (conv := fun v => .long (xti (v.getD .null)).toInt64) (ls1 := [(0, .ref 0), (1, .int p1), (2, .ref 293)]) (ls2 := [(0, .ref 0), (1, .int p1), (2, .ref 293)]) kw372 rfl rfl (fun e w => rfl) km144 rfl (Nat.le_of_ble_eq_true rfl) (ws_0 (ws_i ws_nil)) (p_drop (D := D + 8) h) ?_ ?_
  · intro v m' e w hv hq
    obtain ⟨x, rfl⟩ := hv
    exact ⟨⟨x, rfl, hq⟩, rfl⟩
  · intro x hx
    rw [show exo 144 = [0, 1, 2] from rfl, List.mem_cons, List.mem_cons, List.mem_singleton] at hx
    rcases hx with rfl | rfl | rfl
    · exact ⟨0, 1, 3, 1, 1, rfl, rfl, rfl, fun m' q => q⟩
    · exact ⟨1, 3, 3, 3, 3, rfl, rfl, rfl, fun m' q => q⟩
    · exact ⟨2, 2, 3, 2, 2, rfl, rfl, rfl, fun m' q => q⟩
theorem kw373 : xmt 373 = some (3, 4, 99, 1, [(0, 1, 3), (2, 2, 3), (1, 3, 3)], xM373.2.2.2.2.2) := xmt_at (q := 18) (r := 13) rfl rfl
theorem wr373 {p1 : Int32} {N : Nat} (h : CPL m N) : WR (D + 21) 373 [.ref 0, .int p1, .ref 293] m 293 (QI (D + 20) 313 [vR 11 283, vI p1] N) (QE (D + 20) 313 [vR 11 283, vI p1] N) := by
  refine WR_gen (W := 373) (y := 145) (pre := [.aload 2, .iconst 0, .aload 0, .iload 1]) (post := [.i2l, .lastore]) (Le := 4) (args := [vR 10 0, vI p1]) (conv := fun v => .long (xti (v.getD .null)).toInt64) (ls1 := [(0, .ref 0), (1, .int p1), (2, .ref 293)]) (ls2 := [(0, .ref 0), (1, .int p1), (2, .ref 293)]) kw373 rfl rfl (fun e w => rfl) km145 rfl (Nat.le_of_ble_eq_true rfl) (ws_0 (ws_i ws_nil)) (p_pick (D := D + 8) h) ?_ ?_
  · intro v m' e w hv hq
    obtain ⟨x, rfl⟩ := hv
    exact ⟨⟨x, rfl, hq⟩, rfl⟩
  · intro x hx
    rw [show exo 145 = [0, 1, 2] from rfl, List.mem_cons, List.mem_cons, List.mem_singleton] at hx
    rcases hx with rfl | rfl | rfl
    · exact ⟨0, 1, 3, 1, 1, rfl, rfl, rfl, fun m' q => q⟩
    · exact ⟨1, 3, 3, 3, 3, rfl, rfl, rfl, fun m' q => q⟩
    · exact ⟨2, 2, 3, 2, 2, rfl, rfl, rfl, fun m' q => q⟩
theorem kw374 : xmt 374 = some (4, 5, 99, 1, [(0, 1, 4), (2, 2, 4), (1, 3, 4)], xM374.2.2.2.2.2) := xmt_at (q := 18) (r := 14) rfl rfl
theorem wr374 {p1 p2 : Int32} {N : Nat} (h : CPL m N) : WR (D + 21) 374 [.ref 0, .int p1, .int p2, .ref 293] m 293 (QI (D + 20) 314 [vR 11 283, vI p1, vI p2] N) (QE (D + 20) 314 [vR 11 283, vI p1, vI p2] N) := by
  refine WR_gen (W := 374) (y := 146) (pre := [.aload 3, .iconst 0, .aload 0, .iload 1, .iload 2]) (post := [.i2l, .lastore]) (Le := 4) (args := [vR 10 0, vI p1, vI p2]) (conv := fun v => .long (xti (v.getD .null)).toInt64) (ls1 := [(0, .ref 0), (1, .int p1), (2, .int p2), (3, .ref 293)]) (ls2 := [(0, .ref 0), (1, .int p1), (2, .int p2), (3, .ref 293)]) kw374 rfl rfl (fun e w => rfl) km146 rfl (Nat.le_of_ble_eq_true rfl) (ws_0 (ws_i (ws_i ws_nil))) (p_strengthen (D := D + 8) h) ?_ ?_
  · intro v m' e w hv hq
    obtain ⟨x, rfl⟩ := hv
    exact ⟨⟨x, rfl, hq⟩, rfl⟩
  · intro x hx
    rw [show exo 146 = [0, 1, 2] from rfl, List.mem_cons, List.mem_cons, List.mem_singleton] at hx
    rcases hx with rfl | rfl | rfl
    · exact ⟨0, 1, 4, 1, 1, rfl, rfl, rfl, fun m' q => q⟩
    · exact ⟨1, 3, 4, 3, 3, rfl, rfl, rfl, fun m' q => q⟩
    · exact ⟨2, 2, 4, 2, 2, rfl, rfl, rfl, fun m' q => q⟩
theorem kw375 : xmt 375 = some (3, 4, 99, 1, [(0, 1, 3), (1, 2, 3)], xM375.2.2.2.2.2) := xmt_at (q := 18) (r := 15) rfl rfl
theorem wr375 {p1 : Int32} {N : Nat} (h : CPL m N) : WR (D + 21) 375 [.ref 0, .int p1, .ref 293] m 293 (QI (D + 20) 315 [vR 11 283, vI p1] N) (QE (D + 20) 315 [vR 11 283, vI p1] N) := by
  refine WR_gen (W := 375) (y := 147) (pre := [.aload 2, .iconst 0, .aload 0, .iload 1]) (post := [.i2l, .lastore]) (Le := 3) (args := [vR 10 0, vI p1]) (conv := fun v => .long (xti (v.getD .null)).toInt64) (ls1 := [(0, .ref 0), (1, .int p1), (2, .ref 293)]) (ls2 := [(0, .ref 0), (1, .int p1), (2, .ref 293)]) kw375 rfl rfl (fun e w => rfl) km147 rfl (Nat.le_of_ble_eq_true rfl) (ws_0 (ws_i ws_nil)) (p_rest (D := D + 8) h) ?_ ?_
  · intro v m' e w hv hq
    obtain ⟨x, rfl⟩ := hv
    exact ⟨⟨x, rfl, hq⟩, rfl⟩
  · intro x hx
    rw [show exo 147 = [0, 1] from rfl, List.mem_cons, List.mem_singleton] at hx
    rcases hx with rfl | rfl
    · exact ⟨0, 1, 3, 1, 1, rfl, rfl, rfl, fun m' q => q⟩
    · exact ⟨1, 2, 3, 2, 2, rfl, rfl, rfl, fun m' q => q⟩
theorem kw376 : xmt 376 = some (4, 5, 99, 1, [(0, 1, 4), (2, 2, 4), (1, 3, 4)], xM376.2.2.2.2.2) := xmt_at (q := 18) (r := 16) rfl rfl
theorem wr376 {p1 p2 : Int32} {N : Nat} (h : CPL m N) : WR (D + 21) 376 [.ref 0, .int p1, .int p2, .ref 293] m 293 (QI (D + 20) 316 [vR 11 283, vI p1, vI p2] N) (QE (D + 20) 316 [vR 11 283, vI p1, vI p2] N) := by
  refine WR_gen (W := 376) (y := 148) (pre := [.aload 3, .iconst 0, .aload 0, .iload 1, .iload 2]) (post := [.i2l, .lastore]) (Le := 4) (args := [vR 10 0, vI p1, vI p2]) (conv := fun v => .long (xti (v.getD .null)).toInt64) (ls1 := [(0, .ref 0), (1, .int p1), (2, .int p2), (3, .ref 293)]) (ls2 := [(0, .ref 0), (1, .int p1), (2, .int p2), (3, .ref 293)]) kw376 rfl rfl (fun e w => rfl) km148 rfl (Nat.le_of_ble_eq_true rfl) (ws_0 (ws_i (ws_i ws_nil))) (p_setStep (D := D + 8) h) ?_ ?_
  · intro v m' e w hv hq
    obtain ⟨x, rfl⟩ := hv
    exact ⟨⟨x, rfl, hq⟩, rfl⟩
  · intro x hx
    rw [show exo 148 = [0, 1, 2] from rfl, List.mem_cons, List.mem_cons, List.mem_singleton] at hx
    rcases hx with rfl | rfl | rfl
    · exact ⟨0, 1, 4, 1, 1, rfl, rfl, rfl, fun m' q => q⟩
    · exact ⟨1, 3, 4, 3, 3, rfl, rfl, rfl, fun m' q => q⟩
    · exact ⟨2, 2, 4, 2, 2, rfl, rfl, rfl, fun m' q => q⟩
theorem kw377 : xmt 377 = some (4, 5, 99, 1, [(0, 1, 4), (2, 2, 4), (1, 3, 4)], xM377.2.2.2.2.2) := xmt_at (q := 18) (r := 17) rfl rfl
theorem wr377 {p1 p2 : Int32} {N : Nat} (h : CPL m N) : WR (D + 21) 377 [.ref 0, .int p1, .int p2, .ref 293] m 293 (QI (D + 20) 317 [vR 11 283, vI p1, vI p2] N) (QE (D + 20) 317 [vR 11 283, vI p1, vI p2] N) := by
  refine WR_gen (W := 377) (y := 149) (pre := [.aload 3, .iconst 0, .aload 0, .iload 1, .iload 2]) (post := [.i2l, .lastore]) (Le := 4) (args := [vR 10 0, vI p1, vI p2]) (conv := fun v => .long (xti (v.getD .null)).toInt64) (ls1 := [(0, .ref 0), (1, .int p1), (2, .int p2), (3, .ref 293)]) (ls2 := [(0, .ref 0), (1, .int p1), (2, .int p2), (3, .ref 293)]) kw377 rfl rfl (fun e w => rfl) km149 rfl (Nat.le_of_ble_eq_true rfl) (ws_0 (ws_i (ws_i ws_nil))) (p_addPlan (D := D + 8) h) ?_ ?_
  · intro v m' e w hv hq
    obtain ⟨x, rfl⟩ := hv
    exact ⟨⟨x, rfl, hq⟩, rfl⟩
  · intro x hx
    rw [show exo 149 = [0, 1, 2] from rfl, List.mem_cons, List.mem_cons, List.mem_singleton] at hx
    rcases hx with rfl | rfl | rfl
    · exact ⟨0, 1, 4, 1, 1, rfl, rfl, rfl, fun m' q => q⟩
    · exact ⟨1, 3, 4, 3, 3, rfl, rfl, rfl, fun m' q => q⟩
    · exact ⟨2, 2, 4, 2, 2, rfl, rfl, rfl, fun m' q => q⟩
theorem kw378 : xmt 378 = some (4, 5, 99, 1, [(0, 1, 4), (1, 2, 4)], xM378.2.2.2.2.2) := xmt_at (q := 18) (r := 18) rfl rfl
theorem wr378 {p1 p2 : Int32} {N : Nat} (h : CPL m N) : WR (D + 21) 378 [.ref 0, .int p1, .int p2, .ref 293] m 293 (QI (D + 20) 318 [vR 11 283, vI p1, vI p2] N) (QE (D + 20) 318 [vR 11 283, vI p1, vI p2] N) := by
  refine WR_gen (W := 378) (y := 150) (pre := [.aload 3, .iconst 0, .aload 0, .iload 1, .iload 2]) (post := [.i2l, .lastore]) (Le := 3) (args := [vR 10 0, vI p1, vI p2]) (conv := fun v => .long (xti (v.getD .null)).toInt64) (ls1 := [(0, .ref 0), (1, .int p1), (2, .int p2), (3, .ref 293)]) (ls2 := [(0, .ref 0), (1, .int p1), (2, .int p2), (3, .ref 293)]) kw378 rfl rfl (fun e w => rfl) km150 rfl (Nat.le_of_ble_eq_true rfl) (ws_0 (ws_i (ws_i ws_nil))) (p_set (D := D + 8) h) ?_ ?_
  · intro v m' e w hv hq
    obtain ⟨x, rfl⟩ := hv
    exact ⟨⟨x, rfl, hq⟩, rfl⟩
  · intro x hx
    rw [show exo 150 = [0, 1] from rfl, List.mem_cons, List.mem_singleton] at hx
    rcases hx with rfl | rfl
    · exact ⟨0, 1, 4, 1, 1, rfl, rfl, rfl, fun m' q => q⟩
    · exact ⟨1, 2, 4, 2, 2, rfl, rfl, rfl, fun m' q => q⟩
theorem kw379 : xmt 379 = some (2, 3, 99, 1, [(0, 1, 2)], xM379.2.2.2.2.2) := xmt_at (q := 18) (r := 19) rfl rfl
theorem wr379 {N : Nat} (h : CPL m N) : WR (D + 21) 379 [.ref 0, .ref 293] m 293 (QI (D + 20) 319 [vR 11 283] N) (QE (D + 20) 319 [vR 11 283] N) := by
  refine WR_gen (W := 379) (y := 151) (pre := [.aload 1, .iconst 0, .aload 0]) (post := [.i2l, .lastore]) (Le := 2) (args := [vR 10 0]) (conv := fun v => .long (xti (v.getD .null)).toInt64) (ls1 := [(0, .ref 0), (1, .ref 293)]) (ls2 := [(0, .ref 0), (1, .ref 293)]) kw379 rfl rfl (fun e w => rfl) km151 rfl (Nat.le_of_ble_eq_true rfl) (ws_0 ws_nil) (p_undo (D := D + 8) h) ?_ ?_
  · intro v m' e w hv hq
    obtain ⟨x, rfl⟩ := hv
    exact ⟨⟨x, rfl, hq⟩, rfl⟩
  · intro x hx
    rw [show exo 151 = [0] from rfl, List.mem_singleton] at hx
    subst hx
    · exact ⟨0, 1, 2, 1, 1, rfl, rfl, rfl, fun m' q => q⟩
theorem kw380 : xmt 380 = some (3, 4, 99, 1, [(0, 1, 3), (2, 2, 3)], xM380.2.2.2.2.2) := xmt_at (q := 19) (r := 0) rfl rfl
theorem wr380 {p1 : Int32} {N : Nat} (h : CPL m N) : WR (D + 21) 380 [.ref 0, .int p1, .ref 293] m 293 (QI (D + 20) 321 [vR 11 283, vI p1] N) (QE (D + 20) 321 [vR 11 283, vI p1] N) := by
  refine WR_gen (W := 380) (y := 153) (pre := [.aload 2, .iconst 0, .aload 0, .iload 1]) (post := [.i2l, .lastore]) (Le := 3) (args := [vR 10 0, vI p1]) (conv := fun v => .long (xti (v.getD .null)).toInt64) (ls1 := [(0, .ref 0), (1, .int p1), (2, .ref 293)]) (ls2 := [(0, .ref 0), (1, .int p1), (2, .ref 293)]) kw380 rfl rfl (fun e w => rfl) km153 rfl (Nat.le_of_ble_eq_true rfl) (ws_0 (ws_i ws_nil)) (p_save (D := D + 8) h) ?_ ?_
  · intro v m' e w hv hq
    obtain ⟨x, rfl⟩ := hv
    exact ⟨⟨x, rfl, hq⟩, rfl⟩
  · intro x hx
    rw [show exo 153 = [0, 2] from rfl, List.mem_cons, List.mem_singleton] at hx
    rcases hx with rfl | rfl
    · exact ⟨0, 1, 3, 1, 1, rfl, rfl, rfl, fun m' q => q⟩
    · exact ⟨2, 2, 3, 2, 2, rfl, rfl, rfl, fun m' q => q⟩
theorem kw381 : xmt 381 = some (3, 4, 99, 1, [(2, 1, 3), (0, 2, 3)], xM381.2.2.2.2.2) := xmt_at (q := 19) (r := 1) rfl rfl
theorem wr381 {p1 : Int32} {N : Nat} (h : CPL m N) : WR (D + 21) 381 [.ref 0, .int p1, .ref 293] m 293 (QI (D + 20) 322 [vR 11 283, vI p1] N) (QE (D + 20) 322 [vR 11 283, vI p1] N) := by
  refine WR_gen (W := 381) (y := 154) (pre := [.aload 2, .iconst 0, .aload 0, .iload 1]) (post := [.i2l, .lastore]) (Le := 3) (args := [vR 10 0, vI p1]) (conv := fun v => .long (xti (v.getD .null)).toInt64) (ls1 := [(0, .ref 0), (1, .int p1), (2, .ref 293)]) (ls2 := [(0, .ref 0), (1, .int p1), (2, .ref 293)]) kw381 rfl rfl (fun e w => rfl) km154 rfl (Nat.le_of_ble_eq_true rfl) (ws_0 (ws_i ws_nil)) (p_restore (D := D + 8) h) ?_ ?_
  · intro v m' e w hv hq
    obtain ⟨x, rfl⟩ := hv
    exact ⟨⟨x, rfl, hq⟩, rfl⟩
  · intro x hx
    rw [show exo 154 = [0, 2] from rfl, List.mem_cons, List.mem_singleton] at hx
    rcases hx with rfl | rfl
    · exact ⟨0, 2, 3, 2, 2, rfl, rfl, rfl, fun m' q => q⟩
    · exact ⟨2, 1, 3, 1, 1, rfl, rfl, rfl, fun m' q => q⟩
end WRS
