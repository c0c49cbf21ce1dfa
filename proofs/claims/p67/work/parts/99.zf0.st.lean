/-! The start: what the statement gives of the world. -/
theorem xst_D {s : State} {args : Array Value} (hts : ∀ w ∈ xWS, w.before args s = true) : ∃ D : va_G, ∀ (c : Nat) (q : vw_C), vwCl[c]? = some q → u_Kn s q.1 q.2.1 q.2.2 (D.1 c) (D.2 c) := by
  obtain ⟨c0, i0, k0⟩ := u_known hts xin0 (hts _ xis0)
  obtain ⟨c1, i1, k1⟩ := u_known hts xin1 (hts _ xis1)
  obtain ⟨c2, i2, k2⟩ := u_known hts xin2 (hts _ xis2)
  obtain ⟨c3, i3, k3⟩ := u_known hts xin3 (hts _ xis3)
  obtain ⟨c4, i4, k4⟩ := u_known hts xin4 (hts _ xis4)
  obtain ⟨c5, i5, k5⟩ := u_known hts xin5 (hts _ xis5)
  obtain ⟨c6, i6, k6⟩ := u_known hts xin6 (hts _ xis6)
  obtain ⟨c7, i7, k7⟩ := u_known hts xin7 (hts _ xis7)
  obtain ⟨c8, i8, k8⟩ := u_known hts xin8 (hts _ xis8)
  obtain ⟨c9, i9, k9⟩ := u_known hts xin9 (hts _ xis9)
  obtain ⟨c10, i10, k10⟩ := u_known hts xin10 (hts _ xis10)
  obtain ⟨c11, i11, k11⟩ := u_known hts xin11 (hts _ xis11)
  obtain ⟨c12, i12, k12⟩ := u_known hts xin12 (hts _ xis12)
  obtain ⟨c13, i13, k13⟩ := u_known hts xin13 (hts _ xis13)
  obtain ⟨c14, i14, k14⟩ := u_known hts xin14 (hts _ xis14)
  refine ⟨(fun k => match k with | 0 => c0 | 1 => c1 | 2 => c2 | 3 => c3 | 4 => c4 | 5 => c5 | 6 => c6 | 7 => c7 | 8 => c8 | 9 => c9 | 10 => c10 | 11 => c11 | 12 => c12 | 13 => c13 | _ => c14, fun k => match k with | 0 => i0 | 1 => i1 | 2 => i2 | 3 => i3 | 4 => i4 | 5 => i5 | 6 => i6 | 7 => i7 | 8 => i8 | 9 => i9 | 10 => i10 | 11 => i11 | 12 => i12 | 13 => i13 | _ => i14), ?_⟩
  intro c q hq
  match c, hq with
  | 0, hq => cases hq; exact k0
  | 1, hq => cases hq; exact k1
  | 2, hq => cases hq; exact k2
  | 3, hq => cases hq; exact k3
  | 4, hq => cases hq; exact k4
  | 5, hq => cases hq; exact k5
  | 6, hq => cases hq; exact k6
  | 7, hq => cases hq; exact k7
  | 8, hq => cases hq; exact k8
  | 9, hq => cases hq; exact k9
  | 10, hq => cases hq; exact k10
  | 11, hq => cases hq; exact k11
  | 12, hq => cases hq; exact k12
  | 13, hq => cases hq; exact k13
  | 14, hq => cases hq; exact k14
  | c + 15, hq => exact absurd (List.getElem?_eq_some_iff.mp hq).1 (by show ¬ c + 15 < 15; omega)
theorem xst_A {s : State} {args : Array Value} (hts : ∀ w ∈ xWS, w.before args s = true) (hao : va_AO RX8 s) (hao2 : va_AO "java/lang/String" s) : ∃ cA : Nat → ClassId, ∀ (k : Nat) (q : ClassId × FieldType), (xtys cA)[k]? = some q → ArrOfT s q.1 q.2 ∧ va_RA s q.1 q.2 := by
  obtain ⟨a0, k0, m0, f0, g0, h0⟩ := Cond.arrayClass_spec (hts _ xAC_int)
  have p0 : ArrOfT s a0 .int ∧ va_RA s a0 .int := ⟨fun N z => ⟨(fun k h => by cases h), k0, g0, m0, h0⟩, f0⟩
  obtain ⟨a1, k1, m1, f1, g1, h1⟩ := Cond.arrayClass_spec (hts _ xAC_byte)
  have p1 : ArrOfT s a1 .byte ∧ va_RA s a1 .byte := ⟨fun N z => ⟨(fun k h => by cases h), k1, g1, m1, h1⟩, f1⟩
  obtain ⟨a2, k2, m2, f2, g2, h2⟩ := Cond.arrayClass_spec (hts _ xAC_boolean)
  have p2 : ArrOfT s a2 .boolean ∧ va_RA s a2 .boolean := ⟨fun N z => ⟨(fun k h => by cases h), k2, g2, m2, h2⟩, f2⟩
  obtain ⟨comp, c, k, h1, h2, h3, h4, h5⟩ := Cond.arrayOver_spec (va_AO.use (A := #[]) hao)
  have p3 : ArrOfT s c (.object RX8) ∧ va_RA s c (.object RX8) := ⟨fun N z => ⟨(fun k h => by cases h), k, h3, comp, h4⟩, k, comp, h3, h4, h1, h5⟩
  obtain ⟨comp2, c2, k2, j1, j2, j3, j4, j5⟩ := Cond.arrayOver_spec (va_AO.use (A := #[]) hao2)
  have p4 : ArrOfT s c2 (.object "java/lang/String") ∧ va_RA s c2 (.object "java/lang/String") := ⟨fun N z => ⟨(fun k h => by cases h), k2, j3, comp2, j4⟩, k2, comp2, j3, j4, j1, j5⟩
  refine ⟨fun j => match j with | 20 => a0 | 21 => a1 | 22 => a2 | 25 => c | _ => c2, ?_⟩
  intro k q hq
  match k, hq with
  | 0, hq => cases hq; exact p0
  | 1, hq => cases hq; exact p1
  | 2, hq => cases hq; exact p2
  | 3, hq => cases hq; exact p3
  | 4, hq => cases hq; exact p4
  | k + 5, hq => exact absurd (List.getElem?_eq_some_iff.mp hq).1 (by show ¬ k + 5 < 5; omega)
abbrev stF : List Cond := flatC (Jvm.Cond.and given_1 narrow_1)
theorem xst_str {s : State} {args : Array Value} {A : Nat → Prop} (hs : ∀ w ∈ stF, w.before args s = true) (hA : ∀ a : Nat, a < s.heap.size → ¬ A a) (own : String) (k : Nat) (bs : List Int32) (hl : bs.length < 2 ^ 31) (h1 : Cond.exactly (.string own k) "java/lang/String" ∈ stF) (h2 : Cond.eq (.field (.string own k) "java/lang/String" "coder" "B") (.int 0) ∈ stF) (h3 : Cond.arrayOf (.field (.string own k) "java/lang/String" "value" "[B") .byte ∈ stF)
    (h4 : Cond.eq (.length (.field (.string own k) "java/lang/String" "value" "[B")) (.int (Int32.ofNat bs.length)) ∈ stF) (h5 : ∀ j, j < bs.length → Cond.eq (.elem (.field (.string own k) "java/lang/String" "value" "[B") (.int (Int32.ofNat j))) (.int (bs.getD j 0)) ∈ stF) :
    ∃ q : Nat × Nat, (va_O "java/lang/String" q.1 A s s.heap ∧ va_OF "java/lang/String" "coder" "B" (.int 0) q.1 A s s.heap ∧ va_OF "java/lang/String" "value" "[B" (.ref q.2) q.1 A s s.heap ∧ va_T .byte q.2 bs.length (fun j => .int (bs.getD j 0)) A s s.heap) ∧ (Term.string own k).eval args s none [] s = some (.ref q.1) := by
  have z : ∀ i : Nat, i < 1 → i = 0 := fun i hi => by omega
  obtain ⟨adK, adV, hS, hE⟩ := vk_Sof (N := 1) (tm := fun _ => .string own k) (len := [bs.length]) (byt := [bs]) (A := A) (args := args) (s := s) (fun i hi => by rw [z i hi]; exact hl) (fun i hi => hs _ h1) (fun i hi => hs _ h2) (fun i hi => hs _ h3) (fun i hi => by rw [z i hi]; exact hs _ h4) (fun i hi j hj => by rw [z i hi] at hj ⊢; exact hs _ (h5 j hj)) (fun i j hi hj hn => absurd ((z i hi).trans (z j hj).symm) hn) hA
  exact ⟨(adK 0, adV 0), hS.1 0 (by omega), hE 0 (by omega)⟩
theorem stAt {i : Nat} {w : Cond} (h : decide (stF[i]? = some w) = true) : w ∈ stF := List.mem_of_getElem? (of_decide_eq_true h)
theorem tbAt {i : Nat} {w : Cond} (h : decide (lw_tbl[i]? = some w) = true) : w ∈ lw_tbl := List.mem_of_getElem? (of_decide_eq_true h)
def stE (i n : Nat) (f : Nat → Cond) : Bool := (List.range n).all fun j => decide (stF[i + j]? = some (f j))
theorem stE_ok {i n : Nat} {f : Nat → Cond} (h : stE i n f = true) : ∀ j, j < n → f j ∈ stF := fun j hj => stAt (List.all_eq_true.mp h j (List.mem_range.mpr hj))
