/-! The start: the constants. -/
def xstm (i : Nat) : Term := match i with | 0 => .string "BannerParade" 74 | 1 => .string "BannerParade$Parser" 69 | 2 => .string "BannerParade$Parser" 92 | 3 => .string "BannerParade$Parser" 104 | 4 => .string "BannerParade$Parser" 133 | 5 => .string "BannerParade$Parser" 135 | 6 => .string "BannerParade$Parser" 109 | 7 => .string "BannerParade" 429 | 8 => .string "BannerParade" 423 | 9 => .string "BannerParade" 425 | 10 => .string "BannerParade" 404 | 11 => .string "BannerParade" 418 | 12 => .string "BannerParadeLaw" 99 | 13 => .string "BannerParadeLaw" 107 | 14 => .string "BannerParadeLaw" 112 | 15 => .string "BannerParadeLaw" 114 | 16 => .string "BannerParadeLaw" 116 | _ => .string "BannerParadeLaw" 118
theorem xst_strs {s : State} {args : Array Value} {A : Nat → Prop} (hs : ∀ w ∈ stF, w.before args s = true) (hA : ∀ a : Nat, a < s.heap.size → ¬ A a) :
    ∃ ad : Nat → Nat × Nat, xk_S 18 xlens xstr (fun i => (ad i).1) (fun i => (ad i).2) A s s.heap ∧ ∀ i, i < 18 → (xstm i).eval args s none [] s = some (.ref (ad i).1) := by
  have h : ∀ i : Nat, ∃ q : Nat × Nat, i < 18 → (va_O "java/lang/String" q.1 A s s.heap ∧ va_OF "java/lang/String" "coder" "B" (.int 0) q.1 A s s.heap ∧ va_OF "java/lang/String" "value" "[B" (.ref q.2) q.1 A s s.heap ∧ va_T .byte q.2 (xlens.getD i 0) (fun j => .int ((xstr.getD i []).getD j 0)) A s s.heap) ∧ (xstm i).eval args s none [] s = some (.ref q.1) := by
    intro i
    by_cases hi : i < 18
    · match i, hi with
      | 0, _ => obtain ⟨q, hq⟩ := xst_s0 hs hA; exact ⟨q, fun _ => hq⟩
      | 1, _ => obtain ⟨q, hq⟩ := xst_s1 hs hA; exact ⟨q, fun _ => hq⟩
      | 2, _ => obtain ⟨q, hq⟩ := xst_s2 hs hA; exact ⟨q, fun _ => hq⟩
      | 3, _ => obtain ⟨q, hq⟩ := xst_s3 hs hA; exact ⟨q, fun _ => hq⟩
      | 4, _ => obtain ⟨q, hq⟩ := xst_s4 hs hA; exact ⟨q, fun _ => hq⟩
      | 5, _ => obtain ⟨q, hq⟩ := xst_s5 hs hA; exact ⟨q, fun _ => hq⟩
      | 6, _ => obtain ⟨q, hq⟩ := xst_s6 hs hA; exact ⟨q, fun _ => hq⟩
      | 7, _ => obtain ⟨q, hq⟩ := xst_s7 hs hA; exact ⟨q, fun _ => hq⟩
      | 8, _ => obtain ⟨q, hq⟩ := xst_s8 hs hA; exact ⟨q, fun _ => hq⟩
      | 9, _ => obtain ⟨q, hq⟩ := xst_s9 hs hA; exact ⟨q, fun _ => hq⟩
      | 10, _ => obtain ⟨q, hq⟩ := xst_s10 hs hA; exact ⟨q, fun _ => hq⟩
      | 11, _ => obtain ⟨q, hq⟩ := xst_s11 hs hA; exact ⟨q, fun _ => hq⟩
      | 12, _ => obtain ⟨q, hq⟩ := xst_s12 hs hA; exact ⟨q, fun _ => hq⟩
      | 13, _ => obtain ⟨q, hq⟩ := xst_s13 hs hA; exact ⟨q, fun _ => hq⟩
      | 14, _ => obtain ⟨q, hq⟩ := xst_s14 hs hA; exact ⟨q, fun _ => hq⟩
      | 15, _ => obtain ⟨q, hq⟩ := xst_s15 hs hA; exact ⟨q, fun _ => hq⟩
      | 16, _ => obtain ⟨q, hq⟩ := xst_s16 hs hA; exact ⟨q, fun _ => hq⟩
      | 17, _ => obtain ⟨q, hq⟩ := xst_s17 hs hA; exact ⟨q, fun _ => hq⟩
      | i + 18, hi => exact absurd hi (by omega)
    · exact ⟨(0, 0), fun c => absurd c hi⟩
  obtain ⟨ad, had⟩ := Classical.axiomOfChoice h
  exact ⟨ad, ⟨fun i hi => (had i hi).1, trivial⟩, fun i hi => (had i hi).2⟩
theorem xst_least_0 : stE 224 6 (fun j => Cond.eq (.elem (.static "BannerParade" "LEAST_SETTINGS" "[I") (.int (Int32.ofNat (0 + j)))) (.int (([1, 0, 1, 0, 1, 0] : List Int32).getD (0 + j) 0))) = true := by decide +kernel
theorem xst_least_h : ∀ j, j < 6 → Cond.eq (.elem (.static "BannerParade" "LEAST_SETTINGS" "[I") (.int (Int32.ofNat j))) (.int (([1, 0, 1, 0, 1, 0] : List Int32).getD j 0)) ∈ stF := by
  intro j hj
  have go : ∀ q, q < 1 → ∀ r, r < 6 → Cond.eq (.elem (.static "BannerParade" "LEAST_SETTINGS" "[I") (.int (Int32.ofNat (6 * q + r)))) (.int (([1, 0, 1, 0, 1, 0] : List Int32).getD (6 * q + r) 0)) ∈ stF := by
    intro q hq r hr
    match q, hq with
    | 0, _ => exact stE_ok xst_least_0 r hr
    | q + 1, hq => exact absurd hq (by omega)
  have := go (j / 6) (by omega) (j % 6) (by omega)
  rw [Nat.div_add_mod] at this
  exact this
theorem xst_least {s : State} {args : Array Value} {A : Nat → Prop} (hs : ∀ w ∈ stF, w.before args s = true) (ht : ∀ w ∈ lw_tbl, w.before args s = true) (hA : ∀ a : Nat, a < s.heap.size → ¬ A a) : ∃ t : Nat, va_Z "BannerParade" "LEAST_SETTINGS" "[I" (.ref t) A s s.heap ∧ va_T .int t 6 (fun j => .int ([1, 0, 1, 0, 1, 0].getD j 0)) A s s.heap := by
  obtain ⟨t, e1, T1⟩ := va_Tof (tm := .static "BannerParade" "LEAST_SETTINGS" "[I") (ty := .int) (N := 6) (f := fun j => .int (([1, 0, 1, 0, 1, 0] : List Int32).getD j 0)) (by decide) (hs (.arrayOf (.static "BannerParade" "LEAST_SETTINGS" "[I") .int) (stAt (i := 222) (by decide +kernel))) (va_eqt (hs (.eq (.length (.static "BannerParade" "LEAST_SETTINGS" "[I")) (.int 6)) (stAt (i := 223) (by decide +kernel)))) (fun j hj => va_eqt (hs _ (xst_least_h j hj))) hA
  exact ⟨t, va_Zref (ht (.laysStatic "BannerParade" "LEAST_SETTINGS" "[I") (tbAt (i := 1284) (by decide +kernel))) (ht (.initialized "BannerParade") (tbAt (i := 12) (by decide +kernel))) e1 hA, T1⟩
theorem xst_great_0 : stE 233 6 (fun j => Cond.eq (.elem (.static "BannerParade" "GREATEST_SETTINGS" "[I") (.int (Int32.ofNat (0 + j)))) (.int (([999, 9999, 9999, 50, 100, 9999] : List Int32).getD (0 + j) 0))) = true := by decide +kernel
theorem xst_great_h : ∀ j, j < 6 → Cond.eq (.elem (.static "BannerParade" "GREATEST_SETTINGS" "[I") (.int (Int32.ofNat j))) (.int (([999, 9999, 9999, 50, 100, 9999] : List Int32).getD j 0)) ∈ stF := by
  intro j hj
  have go : ∀ q, q < 1 → ∀ r, r < 6 → Cond.eq (.elem (.static "BannerParade" "GREATEST_SETTINGS" "[I") (.int (Int32.ofNat (6 * q + r)))) (.int (([999, 9999, 9999, 50, 100, 9999] : List Int32).getD (6 * q + r) 0)) ∈ stF := by
    intro q hq r hr
    match q, hq with
    | 0, _ => exact stE_ok xst_great_0 r hr
    | q + 1, hq => exact absurd hq (by omega)
  have := go (j / 6) (by omega) (j % 6) (by omega)
  rw [Nat.div_add_mod] at this
  exact this
theorem xst_great {s : State} {args : Array Value} {A : Nat → Prop} (hs : ∀ w ∈ stF, w.before args s = true) (ht : ∀ w ∈ lw_tbl, w.before args s = true) (hA : ∀ a : Nat, a < s.heap.size → ¬ A a) : ∃ t : Nat, va_Z "BannerParade" "GREATEST_SETTINGS" "[I" (.ref t) A s s.heap ∧ va_T .int t 6 (fun j => .int ([999, 9999, 9999, 50, 100, 9999].getD j 0)) A s s.heap := by
  obtain ⟨t, e1, T1⟩ := va_Tof (tm := .static "BannerParade" "GREATEST_SETTINGS" "[I") (ty := .int) (N := 6) (f := fun j => .int (([999, 9999, 9999, 50, 100, 9999] : List Int32).getD j 0)) (by decide) (hs (.arrayOf (.static "BannerParade" "GREATEST_SETTINGS" "[I") .int) (stAt (i := 231) (by decide +kernel))) (va_eqt (hs (.eq (.length (.static "BannerParade" "GREATEST_SETTINGS" "[I")) (.int 6)) (stAt (i := 232) (by decide +kernel)))) (fun j hj => va_eqt (hs _ (xst_great_h j hj))) hA
  exact ⟨t, va_Zref (ht (.laysStatic "BannerParade" "GREATEST_SETTINGS" "[I") (tbAt (i := 1286) (by decide +kernel))) (ht (.initialized "BannerParade") (tbAt (i := 12) (by decide +kernel))) e1 hA, T1⟩
theorem xst_tens_0 : stE 121 10 (fun j => Cond.eq (.elem (.static "java/lang/Integer" "DigitTens" "[B") (.int (Int32.ofNat (0 + j)))) (.int (((xstr.getD 18 []) : List Int32).getD (0 + j) 0))) = true := by decide +kernel
theorem xst_tens_1 : stE 131 10 (fun j => Cond.eq (.elem (.static "java/lang/Integer" "DigitTens" "[B") (.int (Int32.ofNat (10 + j)))) (.int (((xstr.getD 18 []) : List Int32).getD (10 + j) 0))) = true := by decide +kernel
theorem xst_tens_2 : stE 141 10 (fun j => Cond.eq (.elem (.static "java/lang/Integer" "DigitTens" "[B") (.int (Int32.ofNat (20 + j)))) (.int (((xstr.getD 18 []) : List Int32).getD (20 + j) 0))) = true := by decide +kernel
theorem xst_tens_3 : stE 151 10 (fun j => Cond.eq (.elem (.static "java/lang/Integer" "DigitTens" "[B") (.int (Int32.ofNat (30 + j)))) (.int (((xstr.getD 18 []) : List Int32).getD (30 + j) 0))) = true := by decide +kernel
theorem xst_tens_4 : stE 161 10 (fun j => Cond.eq (.elem (.static "java/lang/Integer" "DigitTens" "[B") (.int (Int32.ofNat (40 + j)))) (.int (((xstr.getD 18 []) : List Int32).getD (40 + j) 0))) = true := by decide +kernel
theorem xst_tens_5 : stE 171 10 (fun j => Cond.eq (.elem (.static "java/lang/Integer" "DigitTens" "[B") (.int (Int32.ofNat (50 + j)))) (.int (((xstr.getD 18 []) : List Int32).getD (50 + j) 0))) = true := by decide +kernel
theorem xst_tens_6 : stE 181 10 (fun j => Cond.eq (.elem (.static "java/lang/Integer" "DigitTens" "[B") (.int (Int32.ofNat (60 + j)))) (.int (((xstr.getD 18 []) : List Int32).getD (60 + j) 0))) = true := by decide +kernel
theorem xst_tens_7 : stE 191 10 (fun j => Cond.eq (.elem (.static "java/lang/Integer" "DigitTens" "[B") (.int (Int32.ofNat (70 + j)))) (.int (((xstr.getD 18 []) : List Int32).getD (70 + j) 0))) = true := by decide +kernel
theorem xst_tens_8 : stE 201 10 (fun j => Cond.eq (.elem (.static "java/lang/Integer" "DigitTens" "[B") (.int (Int32.ofNat (80 + j)))) (.int (((xstr.getD 18 []) : List Int32).getD (80 + j) 0))) = true := by decide +kernel
theorem xst_tens_9 : stE 211 10 (fun j => Cond.eq (.elem (.static "java/lang/Integer" "DigitTens" "[B") (.int (Int32.ofNat (90 + j)))) (.int (((xstr.getD 18 []) : List Int32).getD (90 + j) 0))) = true := by decide +kernel
theorem xst_tens_h : ∀ j, j < 100 → Cond.eq (.elem (.static "java/lang/Integer" "DigitTens" "[B") (.int (Int32.ofNat j))) (.int (((xstr.getD 18 []) : List Int32).getD j 0)) ∈ stF := by
  intro j hj
  have go : ∀ q, q < 10 → ∀ r, r < 10 → Cond.eq (.elem (.static "java/lang/Integer" "DigitTens" "[B") (.int (Int32.ofNat (10 * q + r)))) (.int (((xstr.getD 18 []) : List Int32).getD (10 * q + r) 0)) ∈ stF := by
    intro q hq r hr
    match q, hq with
    | 0, _ => exact stE_ok xst_tens_0 r hr
    | 1, _ => exact stE_ok xst_tens_1 r hr
    | 2, _ => exact stE_ok xst_tens_2 r hr
    | 3, _ => exact stE_ok xst_tens_3 r hr
    | 4, _ => exact stE_ok xst_tens_4 r hr
    | 5, _ => exact stE_ok xst_tens_5 r hr
    | 6, _ => exact stE_ok xst_tens_6 r hr
    | 7, _ => exact stE_ok xst_tens_7 r hr
    | 8, _ => exact stE_ok xst_tens_8 r hr
    | 9, _ => exact stE_ok xst_tens_9 r hr
    | q + 10, hq => exact absurd hq (by omega)
  have := go (j / 10) (by omega) (j % 10) (by omega)
  rw [Nat.div_add_mod] at this
  exact this
theorem xst_tens {s : State} {args : Array Value} {A : Nat → Prop} (hs : ∀ w ∈ stF, w.before args s = true) (ht : ∀ w ∈ lw_tbl, w.before args s = true) (hA : ∀ a : Nat, a < s.heap.size → ¬ A a) : ∃ t : Nat, va_Z "java/lang/Integer" "DigitTens" "[B" (.ref t) A s s.heap ∧ va_T .byte t 100 (fun j => .int ((xstr.getD 18 []).getD j 0)) A s s.heap := by
  obtain ⟨t, e1, T1⟩ := va_Tof (tm := .static "java/lang/Integer" "DigitTens" "[B") (ty := .byte) (N := 100) (f := fun j => .int (((xstr.getD 18 []) : List Int32).getD j 0)) (by decide) (hs (.arrayOf (.static "java/lang/Integer" "DigitTens" "[B") .byte) (stAt (i := 119) (by decide +kernel))) (va_eqt (hs (.eq (.length (.static "java/lang/Integer" "DigitTens" "[B")) (.int 100)) (stAt (i := 120) (by decide +kernel)))) (fun j hj => va_eqt (hs _ (xst_tens_h j hj))) hA
  exact ⟨t, va_Zref (ht (.laysStatic "java/lang/Integer" "DigitTens" "[B") (tbAt (i := 1177) (by decide +kernel))) (ht (.initialized "java/lang/Integer") (tbAt (i := 38) (by decide +kernel))) e1 hA, T1⟩
theorem xst_ones_0 : stE 18 10 (fun j => Cond.eq (.elem (.static "java/lang/Integer" "DigitOnes" "[B") (.int (Int32.ofNat (0 + j)))) (.int (((xstr.getD 19 []) : List Int32).getD (0 + j) 0))) = true := by decide +kernel
theorem xst_ones_1 : stE 28 10 (fun j => Cond.eq (.elem (.static "java/lang/Integer" "DigitOnes" "[B") (.int (Int32.ofNat (10 + j)))) (.int (((xstr.getD 19 []) : List Int32).getD (10 + j) 0))) = true := by decide +kernel
theorem xst_ones_2 : stE 38 10 (fun j => Cond.eq (.elem (.static "java/lang/Integer" "DigitOnes" "[B") (.int (Int32.ofNat (20 + j)))) (.int (((xstr.getD 19 []) : List Int32).getD (20 + j) 0))) = true := by decide +kernel
theorem xst_ones_3 : stE 48 10 (fun j => Cond.eq (.elem (.static "java/lang/Integer" "DigitOnes" "[B") (.int (Int32.ofNat (30 + j)))) (.int (((xstr.getD 19 []) : List Int32).getD (30 + j) 0))) = true := by decide +kernel
theorem xst_ones_4 : stE 58 10 (fun j => Cond.eq (.elem (.static "java/lang/Integer" "DigitOnes" "[B") (.int (Int32.ofNat (40 + j)))) (.int (((xstr.getD 19 []) : List Int32).getD (40 + j) 0))) = true := by decide +kernel
theorem xst_ones_5 : stE 68 10 (fun j => Cond.eq (.elem (.static "java/lang/Integer" "DigitOnes" "[B") (.int (Int32.ofNat (50 + j)))) (.int (((xstr.getD 19 []) : List Int32).getD (50 + j) 0))) = true := by decide +kernel
theorem xst_ones_6 : stE 78 10 (fun j => Cond.eq (.elem (.static "java/lang/Integer" "DigitOnes" "[B") (.int (Int32.ofNat (60 + j)))) (.int (((xstr.getD 19 []) : List Int32).getD (60 + j) 0))) = true := by decide +kernel
theorem xst_ones_7 : stE 88 10 (fun j => Cond.eq (.elem (.static "java/lang/Integer" "DigitOnes" "[B") (.int (Int32.ofNat (70 + j)))) (.int (((xstr.getD 19 []) : List Int32).getD (70 + j) 0))) = true := by decide +kernel
theorem xst_ones_8 : stE 98 10 (fun j => Cond.eq (.elem (.static "java/lang/Integer" "DigitOnes" "[B") (.int (Int32.ofNat (80 + j)))) (.int (((xstr.getD 19 []) : List Int32).getD (80 + j) 0))) = true := by decide +kernel
theorem xst_ones_9 : stE 108 10 (fun j => Cond.eq (.elem (.static "java/lang/Integer" "DigitOnes" "[B") (.int (Int32.ofNat (90 + j)))) (.int (((xstr.getD 19 []) : List Int32).getD (90 + j) 0))) = true := by decide +kernel
theorem xst_ones_h : ∀ j, j < 100 → Cond.eq (.elem (.static "java/lang/Integer" "DigitOnes" "[B") (.int (Int32.ofNat j))) (.int (((xstr.getD 19 []) : List Int32).getD j 0)) ∈ stF := by
  intro j hj
  have go : ∀ q, q < 10 → ∀ r, r < 10 → Cond.eq (.elem (.static "java/lang/Integer" "DigitOnes" "[B") (.int (Int32.ofNat (10 * q + r)))) (.int (((xstr.getD 19 []) : List Int32).getD (10 * q + r) 0)) ∈ stF := by
    intro q hq r hr
    match q, hq with
    | 0, _ => exact stE_ok xst_ones_0 r hr
    | 1, _ => exact stE_ok xst_ones_1 r hr
    | 2, _ => exact stE_ok xst_ones_2 r hr
    | 3, _ => exact stE_ok xst_ones_3 r hr
    | 4, _ => exact stE_ok xst_ones_4 r hr
    | 5, _ => exact stE_ok xst_ones_5 r hr
    | 6, _ => exact stE_ok xst_ones_6 r hr
    | 7, _ => exact stE_ok xst_ones_7 r hr
    | 8, _ => exact stE_ok xst_ones_8 r hr
    | 9, _ => exact stE_ok xst_ones_9 r hr
    | q + 10, hq => exact absurd hq (by omega)
  have := go (j / 10) (by omega) (j % 10) (by omega)
  rw [Nat.div_add_mod] at this
  exact this
theorem xst_ones {s : State} {args : Array Value} {A : Nat → Prop} (hs : ∀ w ∈ stF, w.before args s = true) (ht : ∀ w ∈ lw_tbl, w.before args s = true) (hA : ∀ a : Nat, a < s.heap.size → ¬ A a) : ∃ t : Nat, va_Z "java/lang/Integer" "DigitOnes" "[B" (.ref t) A s s.heap ∧ va_T .byte t 100 (fun j => .int ((xstr.getD 19 []).getD j 0)) A s s.heap := by
  obtain ⟨t, e1, T1⟩ := va_Tof (tm := .static "java/lang/Integer" "DigitOnes" "[B") (ty := .byte) (N := 100) (f := fun j => .int (((xstr.getD 19 []) : List Int32).getD j 0)) (by decide) (hs (.arrayOf (.static "java/lang/Integer" "DigitOnes" "[B") .byte) (stAt (i := 16) (by decide +kernel))) (va_eqt (hs (.eq (.length (.static "java/lang/Integer" "DigitOnes" "[B")) (.int 100)) (stAt (i := 17) (by decide +kernel)))) (fun j hj => va_eqt (hs _ (xst_ones_h j hj))) hA
  exact ⟨t, va_Zref (ht (.laysStatic "java/lang/Integer" "DigitOnes" "[B") (tbAt (i := 1175) (by decide +kernel))) (ht (.initialized "java/lang/Integer") (tbAt (i := 38) (by decide +kernel))) e1 hA, T1⟩
theorem xst_list {s : State} {args : Array Value} {A : Nat → Prop} (hs : ∀ w ∈ stF, w.before args s = true) (ht : ∀ w ∈ lw_tbl, w.before args s = true) (hA : ∀ a : Nat, a < s.heap.size → ¬ A a) : ∃ t : Nat, va_Z "java/util/ArrayList" "DEFAULTCAPACITY_EMPTY_ELEMENTDATA" "[Ljava/lang/Object;" (.ref t) A s s.heap ∧ va_O "[Ljava/lang/Object;" t A s s.heap := by
  have hex := hs (.exactly (.static "java/util/ArrayList" "DEFAULTCAPACITY_EMPTY_ELEMENTDATA" "[Ljava/lang/Object;") "[Ljava/lang/Object;") (stAt (i := 8) (by decide +kernel))
  obtain ⟨a, c, cA, kA, q1, q2, q3, q4, q5, q6, -⟩ := Cond.exactly_spec (args := args) (first := s) (o := none) (s := s) (idx := []) (t := .static "java/util/ArrayList" "DEFAULTCAPACITY_EMPTY_ELEMENTDATA" "[Ljava/lang/Object;") (cls := "[Ljava/lang/Object;") hex
  exact ⟨a, va_Zref (ht (.laysStatic "java/util/ArrayList" "DEFAULTCAPACITY_EMPTY_ELEMENTDATA" "[Ljava/lang/Object;") (tbAt (i := 821) (by decide +kernel))) (ht (.initialized "java/util/ArrayList") (tbAt (i := 26) (by decide +kernel))) q1 hA, va_Oof hex q1 hA⟩
theorem xst_uns {s : State} {args : Array Value} {A : Nat → Prop} (hs : ∀ w ∈ stF, w.before args s = true) (ht : ∀ w ∈ lw_tbl, w.before args s = true) (hA : ∀ a : Nat, a < s.heap.size → ¬ A a) : ∃ t : Nat, va_Z "jdk/internal/util/ArraysSupport" "U" "Ljdk/internal/misc/Unsafe;" (.ref t) A s s.heap ∧ va_O "jdk/internal/misc/Unsafe" t A s s.heap := by
  have hex := hs (.exactly (.static "jdk/internal/util/ArraysSupport" "U" "Ljdk/internal/misc/Unsafe;") "jdk/internal/misc/Unsafe") (stAt (i := 242) (by decide +kernel))
  obtain ⟨a, c, cA, kA, q1, q2, q3, q4, q5, q6, -⟩ := Cond.exactly_spec (args := args) (first := s) (o := none) (s := s) (idx := []) (t := .static "jdk/internal/util/ArraysSupport" "U" "Ljdk/internal/misc/Unsafe;") (cls := "jdk/internal/misc/Unsafe") hex
  exact ⟨a, va_Zref (ht (.laysStatic "jdk/internal/util/ArraysSupport" "U" "Ljdk/internal/misc/Unsafe;") (tbAt (i := 1358) (by decide +kernel))) (ht (.initialized "jdk/internal/util/ArraysSupport") (tbAt (i := 32) (by decide +kernel))) q1 hA, va_Oof hex q1 hA⟩
theorem xst_E {s : State} {args : Array Value} {A : Nat → Prop} {b : Nat} (hs : ∀ w ∈ stF, w.before args s = true) (ht : ∀ w ∈ lw_tbl, w.before args s = true) (hx : ∀ w ∈ lw_tbx, w.before args s = true) (hA : ∀ a : Nat, a < s.heap.size → ¬ A a) : ∃ (adc : Nat → Nat) (sv : Value), adc 1000000 = b ∧ xEnv adc sv A s s.heap := by
  obtain ⟨t1, z1, y1⟩ := xst_least hs ht hA
  obtain ⟨t2, z2, y2⟩ := xst_great hs ht hA
  obtain ⟨t3, z3, -⟩ := xst_list hs ht hA
  obtain ⟨t4, z4, y4⟩ := xst_uns hs ht hA
  obtain ⟨t5, z5, y5⟩ := xst_tens hs ht hA
  obtain ⟨t6, z6, y6⟩ := xst_ones hs ht hA
  obtain ⟨ad, hS, hE⟩ := xst_strs hs hA
  obtain ⟨sv, hsv, hz⟩ : ∃ sv : Value, sv.category = 1 ∧ va_Z "jdk/internal/util/Preconditions" "SIOOBE_FORMATTER" "Ljava/util/function/BiFunction;" sv A s s.heap := by
    rcases va_Zqof (ht (.laysStatic "jdk/internal/util/Preconditions" "SIOOBE_FORMATTER" "Ljava/util/function/BiFunction;") (by decide +kernel)) (ht (.initialized "jdk/internal/util/Preconditions") (by decide +kernel)) (hs (.isRef (.static "jdk/internal/util/Preconditions" "SIOOBE_FORMATTER" "Ljava/util/function/BiFunction;")) (by decide +kernel)) hA with h | ⟨t, h⟩
    · exact ⟨.null, rfl, h⟩
    · exact ⟨.ref t, rfl, h⟩
  let adc : Nat → Nat := fun a => if a = 1000000 then b else if a = 1000001 then t1 else if a = 1000002 then t2 else if a = 1000003 then t3 else if a = 1000004 then t4 else if a = 1000058 then t5 else if a = 1000059 then t6 else if a < 1000040 then (ad (a - 1000010)).1 else (ad (a - 1000040)).2
  have a1 : adc 1000001 = t1 := rfl
  have a2 : adc 1000002 = t2 := rfl
  have a3 : adc 1000003 = t3 := rfl
  have a4 : adc 1000004 = t4 := rfl
  have a5 : adc 1000058 = t5 := rfl
  have a6 : adc 1000059 = t6 := rfl
  have aK : ∀ i, i < 18 → adc (1000010 + i) = (ad i).1 := fun i hi => by
    show (if 1000010 + i = 1000000 then b else if 1000010 + i = 1000001 then t1 else if 1000010 + i = 1000002 then t2 else if 1000010 + i = 1000003 then t3 else if 1000010 + i = 1000004 then t4 else if 1000010 + i = 1000058 then t5 else if 1000010 + i = 1000059 then t6 else if 1000010 + i < 1000040 then (ad (1000010 + i - 1000010)).1 else (ad (1000010 + i - 1000040)).2) = _
    rw [if_neg (by omega), if_neg (by omega), if_neg (by omega), if_neg (by omega), if_neg (by omega), if_neg (by omega), if_neg (by omega), if_pos (by omega), Nat.add_sub_cancel_left]
  have aV : ∀ i, i < 18 → adc (1000040 + i) = (ad i).2 := fun i hi => by
    show (if 1000040 + i = 1000000 then b else if 1000040 + i = 1000001 then t1 else if 1000040 + i = 1000002 then t2 else if 1000040 + i = 1000003 then t3 else if 1000040 + i = 1000004 then t4 else if 1000040 + i = 1000058 then t5 else if 1000040 + i = 1000059 then t6 else if 1000040 + i < 1000040 then (ad (1000040 + i - 1000010)).1 else (ad (1000040 + i - 1000040)).2) = _
    rw [if_neg (by omega), if_neg (by omega), if_neg (by omega), if_neg (by omega), if_neg (by omega), if_neg (by omega), if_neg (by omega), if_neg (by omega), Nat.add_sub_cancel_left]
  refine ⟨adc, sv, rfl, ⟨by rw [a1]; exact z1, by rw [a1]; exact y1⟩, ⟨by rw [a2]; exact z2, by rw [a2]; exact y2⟩, ?_, ⟨⟨by rw [a5]; exact z5, by rw [a5]; exact y5⟩, ⟨by rw [a6]; exact z6, by rw [a6]; exact y6⟩, by rw [a3]; exact z3, by rw [a4]; exact z4, by rw [a4]; exact y4, ?_, ?_, ?_⟩, hz, ⟨fun i hi => ?_, trivial⟩, ?_, trivial, trivial, ?_, trivial, hsv, ?_, ?_⟩
  · exact va_Zof (ht (.laysStatic "java/lang/String" "COMPACT_STRINGS" "Z") (tbAt (i := 925) (by decide +kernel))) (ht (.initialized "java/lang/String") (tbAt (i := 30) (by decide +kernel))) (va_eqt (hs (.eq (.static "java/lang/String" "COMPACT_STRINGS" "Z") (.int 1)) (stAt (i := 10) (by decide +kernel)))) hA
  · exact va_Zof (ht (.laysStatic "jdk/internal/misc/Unsafe" "ARRAY_INT_BASE_OFFSET" "I") (tbAt (i := 1349) (by decide +kernel))) (ht (.initialized "jdk/internal/misc/Unsafe") (tbAt (i := 45) (by decide +kernel))) (va_eqt (hs (.eq (.static "jdk/internal/misc/Unsafe" "ARRAY_INT_BASE_OFFSET" "I") (.int 16)) (stAt (i := 239) (by decide +kernel)))) hA
  · exact va_Zof (ht (.laysStatic "jdk/internal/util/ArraysSupport" "LOG2_ARRAY_INT_INDEX_SCALE" "I") (tbAt (i := 1351) (by decide +kernel))) (ht (.initialized "jdk/internal/util/ArraysSupport") (tbAt (i := 32) (by decide +kernel))) (va_eqt (hs (.eq (.static "jdk/internal/util/ArraysSupport" "LOG2_ARRAY_INT_INDEX_SCALE" "I") (.int 2)) (stAt (i := 240) (by decide +kernel)))) hA
  · exact va_Zof (ht (.laysStatic "jdk/internal/util/ArraysSupport" "LOG2_ARRAY_LONG_INDEX_SCALE" "I") (tbAt (i := 1356) (by decide +kernel))) (ht (.initialized "jdk/internal/util/ArraysSupport") (tbAt (i := 32) (by decide +kernel))) (va_eqt (hs (.eq (.static "jdk/internal/util/ArraysSupport" "LOG2_ARRAY_LONG_INDEX_SCALE" "I") (.int 3)) (stAt (i := 241) (by decide +kernel)))) hA
  · have := hS.1 i hi
    dsimp only at this ⊢
    rw [aK i hi, aV i hi]
    exact this
  · have key : ∀ i, i < 18 → ∀ q, cpS[i]? = some q → vk_R (xow q.1) q.2.1 (cpSx.getD q.2.2 "") (adc (1000010 + q.2.2)) s := by
      intro i hi q hq
      match i, hi with
      | 0, _ => cases hq; rw [aK 0 (by omega)]; exact vk_R.of (ht (.stringRef "BannerParade" 74 "not so many bytes in the buffer") (tbAt (i := 1233) (by decide +kernel))) (hE 0 (by omega))
      | 1, _ => cases hq; rw [aK 1 (by omega)]; exact vk_R.of (ht (.stringRef "BannerParade$Parser" 69 "parade") (tbAt (i := 1264) (by decide +kernel))) (hE 1 (by omega))
      | 2, _ => cases hq; rw [aK 2 (by omega)]; exact vk_R.of (ht (.stringRef "BannerParade$Parser" 92 "bearer") (tbAt (i := 1295) (by decide +kernel))) (hE 2 (by omega))
      | 3, _ => cases hq; rw [aK 3 (by omega)]; exact vk_R.of (ht (.stringRef "BannerParade$Parser" 104 "stand") (tbAt (i := 1306) (by decide +kernel))) (hE 3 (by omega))
      | 4, _ => cases hq; rw [aK 4 (by omega)]; exact vk_R.of (ht (.stringRef "BannerParade$Parser" 133 "right") (tbAt (i := 1311) (by decide +kernel))) (hE 4 (by omega))
      | 5, _ => cases hq; rw [aK 5 (by omega)]; exact vk_R.of (ht (.stringRef "BannerParade$Parser" 135 "left") (tbAt (i := 1312) (by decide +kernel))) (hE 5 (by omega))
      | 6, _ => cases hq; rw [aK 6 (by omega)]; exact vk_R.of (ht (.stringRef "BannerParade$Parser" 109 "plan") (tbAt (i := 1321) (by decide +kernel))) (hE 6 (by omega))
      | 7, _ => cases hq; rw [aK 7 (by omega)]; exact vk_R.of (ht (.stringRef "BannerParade" 429 "an argument does not fit") (tbAt (i := 477) (by decide +kernel))) (hE 7 (by omega))
      | 8, _ => cases hq; rw [aK 8 (by omega)]; exact vk_R.of (ht (.stringRef "BannerParade" 423 "no text was loaded") (tbAt (i := 435) (by decide +kernel))) (hE 8 (by omega))
      | 9, _ => cases hq; rw [aK 9 (by omega)]; exact vk_R.of (ht (.stringRef "BannerParade" 425 "no such index") (tbAt (i := 566) (by decide +kernel))) (hE 9 (by omega))
      | 10, _ => cases hq; rw [aK 10 (by omega)]; exact vk_R.of (ht (.stringRef "BannerParade" 404 "no change can be undone") (tbAt (i := 764) (by decide +kernel))) (hE 10 (by omega))
      | 11, _ => cases hq; rw [aK 11 (by omega)]; exact vk_R.of (ht (.stringRef "BannerParade" 418 "nothing is saved there") (tbAt (i := 785) (by decide +kernel))) (hE 11 (by omega))
      | 12, _ => cases hq; rw [aK 12 (by omega)]; exact vk_R.of (ht (.stringRef "BannerParadeLaw" 99 "parade") (tbAt (i := 1102) (by decide +kernel))) (hE 12 (by omega))
      | 13, _ => cases hq; rw [aK 13 (by omega)]; exact vk_R.of (ht (.stringRef "BannerParadeLaw" 107 ";bearer ") (tbAt (i := 1186) (by decide +kernel))) (hE 13 (by omega))
      | 14, _ => cases hq; rw [aK 14 (by omega)]; exact vk_R.of (ht (.stringRef "BannerParadeLaw" 112 ";plan ") (tbAt (i := 1188) (by decide +kernel))) (hE 14 (by omega))
      | 15, _ => cases hq; rw [aK 15 (by omega)]; exact vk_R.of (ht (.stringRef "BannerParadeLaw" 114 ";stand ") (tbAt (i := 1189) (by decide +kernel))) (hE 15 (by omega))
      | 16, _ => cases hq; rw [aK 16 (by omega)]; exact vk_R.of (ht (.stringRef "BannerParadeLaw" 116 "left ") (tbAt (i := 1190) (by decide +kernel))) (hE 16 (by omega))
      | 17, _ => cases hq; rw [aK 17 (by omega)]; exact vk_R.of (ht (.stringRef "BannerParadeLaw" 118 "right ") (tbAt (i := 1191) (by decide +kernel))) (hE 17 (by omega))
      | i + 18, hi => exact absurd hi (by omega)
    intro q hq
    obtain ⟨i, hi, hq⟩ := List.mem_iff_getElem.mp hq
    exact key i hi q (by rw [List.getElem?_eq_getElem hi, hq])
  · intro w hw
    obtain ⟨h1, h2⟩ := List.mem_filter.mp hw
    refine va_Nw.of ?_ (hx w h1)
    cases w with
    | declares x => rfl
    | castable a b => rfl
    | methodLinkNest a b c d => rfl
    | fieldLinkNest a b c d e f => rfl
    | _ => cases h2
  · exact va_AO.of (ht (.arrayOver (.object RX8)) (by decide +kernel))
  · exact va_AO.of (ht (.arrayOver (.object "java/lang/String")) (by decide +kernel))
