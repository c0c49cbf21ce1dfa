/-! The start: what the statement gives of the world. -/
theorem xst_D {s : State} {args : Array Value} (hts : ∀ w ∈ xWS, w.before args s = true) : ∃ D : va_G, ∀ (c : Nat) (q : vw_C), vwCl[c]? = some q → u_Kn s q.1 q.2.1 q.2.2 (D.1 c) (D.2 c) := by
  obtain ⟨c0, i0, k0⟩ := u_known hts xin0 (hts _ xis0)
  obtain ⟨c1, i1, k1⟩ := u_known hts xin1 (hts _ xis1)
  obtain ⟨c2, i2, k2⟩ := u_known hts xin2 (hts _ xis2)
  obtain ⟨c3, i3, k3⟩ := u_known hts xin3 (hts _ xis3)
  obtain ⟨c4, i4, k4⟩ := u_known hts xin4 (hts _ xis4)
  obtain ⟨c5, i5, k5⟩ := u_known hts xin5 (hts _ xis5)
  obtain ⟨c6, i6, k6⟩ := u_known hts xin6 (hts _ xis6)
  obtain ⟨c7, i7, k7⟩ := u_known hts xin7 (hts _ xis7)
  obtain ⟨c8, i8, k8⟩ := u_known hts xin8 (hts _ xis8)
  obtain ⟨c9, i9, k9⟩ := u_known hts xin9 (hts _ xis9)
  obtain ⟨c10, i10, k10⟩ := u_known hts xin10 (hts _ xis10)
  obtain ⟨c11, i11, k11⟩ := u_known hts xin11 (hts _ xis11)
  refine ⟨(fun k => match k with | 0 => c0 | 1 => c1 | 2 => c2 | 3 => c3 | 4 => c4 | 5 => c5 | 6 => c6 | 7 => c7 | 8 => c8 | 9 => c9 | 10 => c10 | _ => c11, fun k => match k with | 0 => i0 | 1 => i1 | 2 => i2 | 3 => i3 | 4 => i4 | 5 => i5 | 6 => i6 | 7 => i7 | 8 => i8 | 9 => i9 | 10 => i10 | _ => i11), ?_⟩
  intro c q hq
  match c, hq with
  | 0, hq => cases hq; exact k0
  | 1, hq => cases hq; exact k1
  | 2, hq => cases hq; exact k2
  | 3, hq => cases hq; exact k3
  | 4, hq => cases hq; exact k4
  | 5, hq => cases hq; exact k5
  | 6, hq => cases hq; exact k6
  | 7, hq => cases hq; exact k7
  | 8, hq => cases hq; exact k8
  | 9, hq => cases hq; exact k9
  | 10, hq => cases hq; exact k10
  | 11, hq => cases hq; exact k11
  | c + 12, hq => exact absurd (List.getElem?_eq_some_iff.mp hq).1 (by show ¬ c + 12 < 12; omega)
theorem xst_A {s : State} {args : Array Value} (hts : ∀ w ∈ xWS, w.before args s = true) (hao : va_AO RX8 s) : ∃ cA : Nat → ClassId, ∀ (k : Nat) (q : ClassId × FieldType), (xtys cA)[k]? = some q → ArrOfT s q.1 q.2 ∧ va_RA s q.1 q.2 := by
  obtain ⟨a0, k0, m0, f0, g0, h0⟩ := Cond.arrayClass_spec (hts _ xAC_int)
  have p0 : ArrOfT s a0 .int ∧ va_RA s a0 .int := ⟨fun N z => ⟨(fun k h => by cases h), k0, g0, m0, h0⟩, f0⟩
  obtain ⟨a1, k1, m1, f1, g1, h1⟩ := Cond.arrayClass_spec (hts _ xAC_byte)
  have p1 : ArrOfT s a1 .byte ∧ va_RA s a1 .byte := ⟨fun N z => ⟨(fun k h => by cases h), k1, g1, m1, h1⟩, f1⟩
  obtain ⟨a2, k2, m2, f2, g2, h2⟩ := Cond.arrayClass_spec (hts _ xAC_boolean)
  have p2 : ArrOfT s a2 .boolean ∧ va_RA s a2 .boolean := ⟨fun N z => ⟨(fun k h => by cases h), k2, g2, m2, h2⟩, f2⟩
  obtain ⟨a3, k3, m3, f3, g3, h3⟩ := Cond.arrayClass_spec (hts _ xAC_long)
  have p3 : ArrOfT s a3 .long ∧ va_RA s a3 .long := ⟨fun N z => ⟨(fun k h => by cases h), k3, g3, m3, h3⟩, f3⟩
  obtain ⟨a4, k4, m4, f4, g4, h4⟩ := Cond.arrayClass_spec (hts _ xAC_double)
  have p4 : ArrOfT s a4 .double ∧ va_RA s a4 .double := ⟨fun N z => ⟨(fun k h => by cases h), k4, g4, m4, h4⟩, f4⟩
  obtain ⟨comp, c, k, h1, h2, h3, h4, h5⟩ := Cond.arrayOver_spec (va_AO.use (A := #[]) hao)
  have p5 : ArrOfT s c (.object RX8) ∧ va_RA s c (.object RX8) := ⟨fun N z => ⟨(fun k h => by cases h), k, h3, comp, h4⟩, k, comp, h3, h4, h1, h5⟩
  refine ⟨fun j => match j with | 20 => a0 | 21 => a1 | 22 => a2 | 23 => a3 | 24 => a4 | _ => c, ?_⟩
  intro k q hq
  match k, hq with
  | 0, hq => cases hq; exact p0
  | 1, hq => cases hq; exact p1
  | 2, hq => cases hq; exact p2
  | 3, hq => cases hq; exact p3
  | 4, hq => cases hq; exact p4
  | 5, hq => cases hq; exact p5
  | k + 6, hq => exact absurd (List.getElem?_eq_some_iff.mp hq).1 (by show ¬ k + 6 < 6; omega)
abbrev stF : List Cond := flatC (Jvm.Cond.and given_1 narrow_1)
theorem xst_str {s : State} {args : Array Value} {A : Nat → Prop} (hs : ∀ w ∈ stF, w.before args s = true) (hA : ∀ a : Nat, a < s.heap.size → ¬ A a) (own : String) (k : Nat) (bs : List Int32) (hl : bs.length < 2 ^ 31) (h1 : Cond.exactly (.string own k) "java/lang/String" ∈ stF) (h2 : Cond.eq (.field (.string own k) "java/lang/String" "coder" "B") (.int 0) ∈ stF) (h3 : Cond.arrayOf (.field (.string own k) "java/lang/String" "value" "[B") .byte ∈ stF)
    (h4 : Cond.eq (.length (.field (.string own k) "java/lang/String" "value" "[B")) (.int (Int32.ofNat bs.length)) ∈ stF) (h5 : ∀ j, j < bs.length → Cond.eq (.elem (.field (.string own k) "java/lang/String" "value" "[B") (.int (Int32.ofNat j))) (.int (bs.getD j 0)) ∈ stF) :
    ∃ q : Nat × Nat, (va_O "java/lang/String" q.1 A s s.heap ∧ va_OF "java/lang/String" "coder" "B" (.int 0) q.1 A s s.heap ∧ va_OF "java/lang/String" "value" "[B" (.ref q.2) q.1 A s s.heap ∧ va_T .byte q.2 bs.length (fun j => .int (bs.getD j 0)) A s s.heap) ∧ (Term.string own k).eval args s none [] s = some (.ref q.1) := by
  have z : ∀ i : Nat, i < 1 → i = 0 := fun i hi => by omega
  obtain ⟨adK, adV, hS, hE⟩ := vk_Sof (N := 1) (tm := fun _ => .string own k) (len := [bs.length]) (byt := [bs]) (A := A) (args := args) (s := s) (fun i hi => by rw [z i hi]; exact hl) (fun i hi => hs _ h1) (fun i hi => hs _ h2) (fun i hi => hs _ h3) (fun i hi => by rw [z i hi]; exact hs _ h4) (fun i hi j hj => by rw [z i hi] at hj ⊢; exact hs _ (h5 j hj)) (fun i j hi hj hn => absurd ((z i hi).trans (z j hj).symm) hn) hA
  exact ⟨(adK 0, adV 0), hS.1 0 (by omega), hE 0 (by omega)⟩
def xstm (i : Nat) : Term := match i with | 0 => .string "BannerParade" 74 | 1 => .string "BannerParade$Parser" 69 | 2 => .string "BannerParade$Parser" 92 | 3 => .string "BannerParade$Parser" 104 | 4 => .string "BannerParade$Parser" 133 | 5 => .string "BannerParade$Parser" 135 | 6 => .string "BannerParade$Parser" 109 | 7 => .string "BannerParade" 429 | 8 => .string "BannerParade" 423 | 9 => .string "BannerParade" 425 | 10 => .string "BannerParade" 404 | 11 => .string "BannerParade" 418 | 12 => .string "BannerParadeModel" 135 | 13 => .string "BannerParadeModel" 148 | 14 => .string "BannerParadeModel" 153 | 15 => .string "BannerParadeModel" 124 | 16 => .string "BannerParadeModel" 126 | _ => .string "BannerParadeModel" 158
theorem xst_strs {s : State} {args : Array Value} {A : Nat → Prop} (hs : ∀ w ∈ stF, w.before args s = true) (hA : ∀ a : Nat, a < s.heap.size → ¬ A a) :
    ∃ ad : Nat → Nat × Nat, xk_S 18 xlens xstr (fun i => (ad i).1) (fun i => (ad i).2) A s s.heap ∧ ∀ i, i < 18 → (xstm i).eval args s none [] s = some (.ref (ad i).1) := by
  have h : ∀ i : Nat, ∃ q : Nat × Nat, i < 18 → (va_O "java/lang/String" q.1 A s s.heap ∧ va_OF "java/lang/String" "coder" "B" (.int 0) q.1 A s s.heap ∧ va_OF "java/lang/String" "value" "[B" (.ref q.2) q.1 A s s.heap ∧ va_T .byte q.2 (xlens.getD i 0) (fun j => .int ((xstr.getD i []).getD j 0)) A s s.heap) ∧ (xstm i).eval args s none [] s = some (.ref q.1) := by
    intro i
    by_cases hi : i < 18
    · match i, hi with
      | 0, _ => obtain ⟨q, hq⟩ := xst_str hs hA "BannerParade" 74 (xstr.getD 0 []) (by decide +kernel) (by decide +kernel) (by decide +kernel) (by decide +kernel) (by decide +kernel) (by decide +kernel); exact ⟨q, fun _ => hq⟩
      | 1, _ => obtain ⟨q, hq⟩ := xst_str hs hA "BannerParade$Parser" 69 (xstr.getD 1 []) (by decide +kernel) (by decide +kernel) (by decide +kernel) (by decide +kernel) (by decide +kernel) (by decide +kernel); exact ⟨q, fun _ => hq⟩
      | 2, _ => obtain ⟨q, hq⟩ := xst_str hs hA "BannerParade$Parser" 92 (xstr.getD 2 []) (by decide +kernel) (by decide +kernel) (by decide +kernel) (by decide +kernel) (by decide +kernel) (by decide +kernel); exact ⟨q, fun _ => hq⟩
      | 3, _ => obtain ⟨q, hq⟩ := xst_str hs hA "BannerParade$Parser" 104 (xstr.getD 3 []) (by decide +kernel) (by decide +kernel) (by decide +kernel) (by decide +kernel) (by decide +kernel) (by decide +kernel); exact ⟨q, fun _ => hq⟩
      | 4, _ => obtain ⟨q, hq⟩ := xst_str hs hA "BannerParade$Parser" 133 (xstr.getD 4 []) (by decide +kernel) (by decide +kernel) (by decide +kernel) (by decide +kernel) (by decide +kernel) (by decide +kernel); exact ⟨q, fun _ => hq⟩
      | 5, _ => obtain ⟨q, hq⟩ := xst_str hs hA "BannerParade$Parser" 135 (xstr.getD 5 []) (by decide +kernel) (by decide +kernel) (by decide +kernel) (by decide +kernel) (by decide +kernel) (by decide +kernel); exact ⟨q, fun _ => hq⟩
      | 6, _ => obtain ⟨q, hq⟩ := xst_str hs hA "BannerParade$Parser" 109 (xstr.getD 6 []) (by decide +kernel) (by decide +kernel) (by decide +kernel) (by decide +kernel) (by decide +kernel) (by decide +kernel); exact ⟨q, fun _ => hq⟩
      | 7, _ => obtain ⟨q, hq⟩ := xst_str hs hA "BannerParade" 429 (xstr.getD 7 []) (by decide +kernel) (by decide +kernel) (by decide +kernel) (by decide +kernel) (by decide +kernel) (by decide +kernel); exact ⟨q, fun _ => hq⟩
      | 8, _ => obtain ⟨q, hq⟩ := xst_str hs hA "BannerParade" 423 (xstr.getD 8 []) (by decide +kernel) (by decide +kernel) (by decide +kernel) (by decide +kernel) (by decide +kernel) (by decide +kernel); exact ⟨q, fun _ => hq⟩
      | 9, _ => obtain ⟨q, hq⟩ := xst_str hs hA "BannerParade" 425 (xstr.getD 9 []) (by decide +kernel) (by decide +kernel) (by decide +kernel) (by decide +kernel) (by decide +kernel) (by decide +kernel); exact ⟨q, fun _ => hq⟩
      | 10, _ => obtain ⟨q, hq⟩ := xst_str hs hA "BannerParade" 404 (xstr.getD 10 []) (by decide +kernel) (by decide +kernel) (by decide +kernel) (by decide +kernel) (by decide +kernel) (by decide +kernel); exact ⟨q, fun _ => hq⟩
      | 11, _ => obtain ⟨q, hq⟩ := xst_str hs hA "BannerParade" 418 (xstr.getD 11 []) (by decide +kernel) (by decide +kernel) (by decide +kernel) (by decide +kernel) (by decide +kernel) (by decide +kernel); exact ⟨q, fun _ => hq⟩
      | 12, _ => obtain ⟨q, hq⟩ := xst_str hs hA "BannerParadeModel" 135 (xstr.getD 12 []) (by decide +kernel) (by decide +kernel) (by decide +kernel) (by decide +kernel) (by decide +kernel) (by decide +kernel); exact ⟨q, fun _ => hq⟩
      | 13, _ => obtain ⟨q, hq⟩ := xst_str hs hA "BannerParadeModel" 148 (xstr.getD 13 []) (by decide +kernel) (by decide +kernel) (by decide +kernel) (by decide +kernel) (by decide +kernel) (by decide +kernel); exact ⟨q, fun _ => hq⟩
      | 14, _ => obtain ⟨q, hq⟩ := xst_str hs hA "BannerParadeModel" 153 (xstr.getD 14 []) (by decide +kernel) (by decide +kernel) (by decide +kernel) (by decide +kernel) (by decide +kernel) (by decide +kernel); exact ⟨q, fun _ => hq⟩
      | 15, _ => obtain ⟨q, hq⟩ := xst_str hs hA "BannerParadeModel" 124 (xstr.getD 15 []) (by decide +kernel) (by decide +kernel) (by decide +kernel) (by decide +kernel) (by decide +kernel) (by decide +kernel); exact ⟨q, fun _ => hq⟩
      | 16, _ => obtain ⟨q, hq⟩ := xst_str hs hA "BannerParadeModel" 126 (xstr.getD 16 []) (by decide +kernel) (by decide +kernel) (by decide +kernel) (by decide +kernel) (by decide +kernel) (by decide +kernel); exact ⟨q, fun _ => hq⟩
      | 17, _ => obtain ⟨q, hq⟩ := xst_str hs hA "BannerParadeModel" 158 (xstr.getD 17 []) (by decide +kernel) (by decide +kernel) (by decide +kernel) (by decide +kernel) (by decide +kernel) (by decide +kernel); exact ⟨q, fun _ => hq⟩
      | i + 18, hi => exact absurd hi (by omega)
    · exact ⟨(0, 0), fun c => absurd c hi⟩
  obtain ⟨ad, had⟩ := Classical.axiomOfChoice h
  exact ⟨ad, ⟨fun i hi => (had i hi).1, trivial⟩, fun i hi => (had i hi).2⟩
theorem xst_least {s : State} {args : Array Value} {A : Nat → Prop} (hs : ∀ w ∈ stF, w.before args s = true) (ht : ∀ w ∈ lw_tbl, w.before args s = true) (hA : ∀ a : Nat, a < s.heap.size → ¬ A a) : ∃ t : Nat, va_Z "BannerParade" "LEAST_SETTINGS" "[I" (.ref t) A s s.heap ∧ va_T .int t 6 (fun j => .int ([1, 0, 1, 0, 1, 0].getD j 0)) A s s.heap := by
  have hel : ∀ j, j < 6 → Cond.eq (.elem (.static "BannerParade" "LEAST_SETTINGS" "[I") (.int (Int32.ofNat j))) (.int (([1, 0, 1, 0, 1, 0] : List Int32).getD j 0)) ∈ stF := by decide +kernel
  obtain ⟨t, e1, T1⟩ := va_Tof (tm := .static "BannerParade" "LEAST_SETTINGS" "[I") (ty := .int) (N := 6) (f := fun j => .int (([1, 0, 1, 0, 1, 0] : List Int32).getD j 0)) (by decide) (hs (.arrayOf (.static "BannerParade" "LEAST_SETTINGS" "[I") .int) (by decide +kernel)) (va_eqt (hs (.eq (.length (.static "BannerParade" "LEAST_SETTINGS" "[I")) (.int 6)) (by decide +kernel))) (fun j hj => va_eqt (hs _ (hel j hj))) hA
  exact ⟨t, va_Zref (ht (.laysStatic "BannerParade" "LEAST_SETTINGS" "[I") (by decide +kernel)) (ht (.initialized "BannerParade") (by decide +kernel)) e1 hA, T1⟩
theorem xst_great {s : State} {args : Array Value} {A : Nat → Prop} (hs : ∀ w ∈ stF, w.before args s = true) (ht : ∀ w ∈ lw_tbl, w.before args s = true) (hA : ∀ a : Nat, a < s.heap.size → ¬ A a) : ∃ t : Nat, va_Z "BannerParade" "GREATEST_SETTINGS" "[I" (.ref t) A s s.heap ∧ va_T .int t 6 (fun j => .int ([999, 9999, 9999, 50, 100, 9999].getD j 0)) A s s.heap := by
  have hel : ∀ j, j < 6 → Cond.eq (.elem (.static "BannerParade" "GREATEST_SETTINGS" "[I") (.int (Int32.ofNat j))) (.int (([999, 9999, 9999, 50, 100, 9999] : List Int32).getD j 0)) ∈ stF := by decide +kernel
  obtain ⟨t, e1, T1⟩ := va_Tof (tm := .static "BannerParade" "GREATEST_SETTINGS" "[I") (ty := .int) (N := 6) (f := fun j => .int (([999, 9999, 9999, 50, 100, 9999] : List Int32).getD j 0)) (by decide) (hs (.arrayOf (.static "BannerParade" "GREATEST_SETTINGS" "[I") .int) (by decide +kernel)) (va_eqt (hs (.eq (.length (.static "BannerParade" "GREATEST_SETTINGS" "[I")) (.int 6)) (by decide +kernel))) (fun j hj => va_eqt (hs _ (hel j hj))) hA
  exact ⟨t, va_Zref (ht (.laysStatic "BannerParade" "GREATEST_SETTINGS" "[I") (by decide +kernel)) (ht (.initialized "BannerParade") (by decide +kernel)) e1 hA, T1⟩
theorem xst_E {s : State} {args : Array Value} {A : Nat → Prop} {b : Nat} (hs : ∀ w ∈ stF, w.before args s = true) (ht : ∀ w ∈ lw_tbl, w.before args s = true) (hA : ∀ a : Nat, a < s.heap.size → ¬ A a) : ∃ (adc : Nat → Nat) (sv : Value), adc 1000000 = b ∧ xEnv adc sv A s s.heap := by
  obtain ⟨t1, z1, y1⟩ := xst_least hs ht hA
  obtain ⟨t2, z2, y2⟩ := xst_great hs ht hA
  obtain ⟨ad, hS, hE⟩ := xst_strs hs hA
  obtain ⟨sv, hsv, hz⟩ : ∃ sv : Value, sv.category = 1 ∧ va_Z "jdk/internal/util/Preconditions" "SIOOBE_FORMATTER" "Ljava/util/function/BiFunction;" sv A s s.heap := by
    rcases va_Zqof (ht (.laysStatic "jdk/internal/util/Preconditions" "SIOOBE_FORMATTER" "Ljava/util/function/BiFunction;") (by decide +kernel)) (ht (.initialized "jdk/internal/util/Preconditions") (by decide +kernel)) (hs (.isRef (.static "jdk/internal/util/Preconditions" "SIOOBE_FORMATTER" "Ljava/util/function/BiFunction;")) (by decide +kernel)) hA with h | ⟨t, h⟩
    · exact ⟨.null, rfl, h⟩
    · exact ⟨.ref t, rfl, h⟩
  let adc : Nat → Nat := fun a => if a = 1000000 then b else if a = 1000001 then t1 else if a = 1000002 then t2 else if a < 1000040 then (ad (a - 1000010)).1 else (ad (a - 1000040)).2
  have a1 : adc 1000001 = t1 := rfl
  have a2 : adc 1000002 = t2 := rfl
  have aK : ∀ i, i < 18 → adc (1000010 + i) = (ad i).1 := fun i hi => by
    show (if 1000010 + i = 1000000 then b else if 1000010 + i = 1000001 then t1 else if 1000010 + i = 1000002 then t2 else if 1000010 + i < 1000040 then (ad (1000010 + i - 1000010)).1 else (ad (1000010 + i - 1000040)).2) = _
    rw [if_neg (by omega), if_neg (by omega), if_neg (by omega), if_pos (by omega), Nat.add_sub_cancel_left]
  have aV : ∀ i, i < 18 → adc (1000040 + i) = (ad i).2 := fun i hi => by
    show (if 1000040 + i = 1000000 then b else if 1000040 + i = 1000001 then t1 else if 1000040 + i = 1000002 then t2 else if 1000040 + i < 1000040 then (ad (1000040 + i - 1000010)).1 else (ad (1000040 + i - 1000040)).2) = _
    rw [if_neg (by omega), if_neg (by omega), if_neg (by omega), if_neg (by omega), Nat.add_sub_cancel_left]
  refine ⟨adc, sv, rfl, ⟨by rw [a1]; exact z1, by rw [a1]; exact y1⟩, ⟨by rw [a2]; exact z2, by rw [a2]; exact y2⟩, ?_, ?_, hz, ⟨fun i hi => ?_, trivial⟩, ?_, ?_, ?_, ?_, ?_, hsv, ?_⟩
  · exact va_Zof (ht (.laysStatic "java/lang/String" "COMPACT_STRINGS" "Z") (by decide +kernel)) (ht (.initialized "java/lang/String") (by decide +kernel)) (va_eqt (hs (.eq (.static "java/lang/String" "COMPACT_STRINGS" "Z") (.int 1)) (by decide +kernel))) hA
  · exact va_Zof (ht (.laysStatic "java/lang/Math" "negativeZeroFloatBits" "J") (by decide +kernel)) (ht (.initialized "java/lang/Math") (by decide +kernel)) (va_eqtl (hs (.eq (.static "java/lang/Math" "negativeZeroFloatBits" "J") (.long (-2147483648))) (by decide +kernel))) hA
  · have := hS.1 i hi
    dsimp only at this ⊢
    rw [aK i hi, aV i hi]
    exact this
  · have key : ∀ i, i < 18 → ∀ q, cpS[i]? = some q → vk_R (xow q.1) q.2.1 (cpSx.getD q.2.2 "") (adc (1000010 + q.2.2)) s := by
      intro i hi q hq
      match i, hi with
      | 0, _ => cases hq; rw [aK 0 (by omega)]; exact vk_R.of (ht (.stringRef "BannerParade" 74 "not so many bytes in the buffer") (by decide +kernel)) (hE 0 (by omega))
      | 1, _ => cases hq; rw [aK 1 (by omega)]; exact vk_R.of (ht (.stringRef "BannerParade$Parser" 69 "parade") (by decide +kernel)) (hE 1 (by omega))
      | 2, _ => cases hq; rw [aK 2 (by omega)]; exact vk_R.of (ht (.stringRef "BannerParade$Parser" 92 "bearer") (by decide +kernel)) (hE 2 (by omega))
      | 3, _ => cases hq; rw [aK 3 (by omega)]; exact vk_R.of (ht (.stringRef "BannerParade$Parser" 104 "stand") (by decide +kernel)) (hE 3 (by omega))
      | 4, _ => cases hq; rw [aK 4 (by omega)]; exact vk_R.of (ht (.stringRef "BannerParade$Parser" 133 "right") (by decide +kernel)) (hE 4 (by omega))
      | 5, _ => cases hq; rw [aK 5 (by omega)]; exact vk_R.of (ht (.stringRef "BannerParade$Parser" 135 "left") (by decide +kernel)) (hE 5 (by omega))
      | 6, _ => cases hq; rw [aK 6 (by omega)]; exact vk_R.of (ht (.stringRef "BannerParade$Parser" 109 "plan") (by decide +kernel)) (hE 6 (by omega))
      | 7, _ => cases hq; rw [aK 7 (by omega)]; exact vk_R.of (ht (.stringRef "BannerParade" 429 "an argument does not fit") (by decide +kernel)) (hE 7 (by omega))
      | 8, _ => cases hq; rw [aK 8 (by omega)]; exact vk_R.of (ht (.stringRef "BannerParade" 423 "no text was loaded") (by decide +kernel)) (hE 8 (by omega))
      | 9, _ => cases hq; rw [aK 9 (by omega)]; exact vk_R.of (ht (.stringRef "BannerParade" 425 "no such index") (by decide +kernel)) (hE 9 (by omega))
      | 10, _ => cases hq; rw [aK 10 (by omega)]; exact vk_R.of (ht (.stringRef "BannerParade" 404 "no change can be undone") (by decide +kernel)) (hE 10 (by omega))
      | 11, _ => cases hq; rw [aK 11 (by omega)]; exact vk_R.of (ht (.stringRef "BannerParade" 418 "nothing is saved there") (by decide +kernel)) (hE 11 (by omega))
      | 12, _ => cases hq; rw [aK 12 (by omega)]; exact vk_R.of (ht (.stringRef "BannerParadeModel" 135 "parade") (by decide +kernel)) (hE 12 (by omega))
      | 13, _ => cases hq; rw [aK 13 (by omega)]; exact vk_R.of (ht (.stringRef "BannerParadeModel" 148 "bearer") (by decide +kernel)) (hE 13 (by omega))
      | 14, _ => cases hq; rw [aK 14 (by omega)]; exact vk_R.of (ht (.stringRef "BannerParadeModel" 153 "stand") (by decide +kernel)) (hE 14 (by omega))
      | 15, _ => cases hq; rw [aK 15 (by omega)]; exact vk_R.of (ht (.stringRef "BannerParadeModel" 124 "right") (by decide +kernel)) (hE 15 (by omega))
      | 16, _ => cases hq; rw [aK 16 (by omega)]; exact vk_R.of (ht (.stringRef "BannerParadeModel" 126 "left") (by decide +kernel)) (hE 16 (by omega))
      | 17, _ => cases hq; rw [aK 17 (by omega)]; exact vk_R.of (ht (.stringRef "BannerParadeModel" 158 "plan") (by decide +kernel)) (hE 17 (by omega))
      | i + 18, hi => exact absurd hi (by omega)
    intro q hq
    obtain ⟨i, hi, hq⟩ := List.mem_iff_getElem.mp hq
    exact key i hi q (by rw [List.getElem?_eq_getElem hi, hq])
  · exact vx_Zqof (ht (.laysStatic "java/lang/Throwable" "UNASSIGNED_STACK" "[Ljava/lang/StackTraceElement;") (by decide +kernel)) (ht (.initialized "java/lang/Throwable") (by decide +kernel)) (hs (.isRef (.static "java/lang/Throwable" "UNASSIGNED_STACK" "[Ljava/lang/StackTraceElement;")) (by decide +kernel)) hA
  · exact vx_Zqof (ht (.laysStatic "java/lang/Throwable" "SUPPRESSED_SENTINEL" "Ljava/util/List;") (by decide +kernel)) (ht (.initialized "java/lang/Throwable") (by decide +kernel)) (hs (.isRef (.static "java/lang/Throwable" "SUPPRESSED_SENTINEL" "Ljava/util/List;")) (by decide +kernel)) hA
  · intro w hw
    obtain ⟨h1, h2⟩ := List.mem_filter.mp hw
    refine va_Nw.of ?_ (ht w h1)
    cases w with
    | declares x => rfl
    | castable a b => rfl
    | methodLinkNest a b c d => rfl
    | fieldLinkNest a b c d e f => rfl
    | _ => cases h2
  · have key : ∀ i, i < 3 → ∀ j, j < 3 → i ≠ j → Cond.not (.castable (xexn i) (xexn j)) ∈ stF := by decide +kernel
    exact fun i j hi hj hn => va_Nc.of (hs _ (key i hi j hj hn))
  · exact va_AO.of (ht (.arrayOver (.object RX8)) (by decide +kernel))
