/-! Verification conditions (written by program: wip/whole/mkw.py). -/
/-- Math.abs, label 0 -/
theorem w384_0 {D : Nat} {v0 : Int32} {m : XM} {Q : Int32 → XM → Prop} {E : Nat → XM → Prop}
    (h : (((n32 0) ≤ v0 → Q v0 m) ∧ (¬ (n32 0) ≤ v0 → Q ((-v0)) m))) :
    VI D 384 [vI v0] m Q E := by
  refine V_of (VL_at (al := [(0, vI v0)]) (st := []) km384 k384_0 ?_)
  refine And.intro (fun c1 => ?_) (fun c1 => ?_)
  · refine VL_norm km384 k384_2 (VL_at (al := [(0, vI v0)]) (st := []) km384 k384_2 ?_)
    refine VL_norm km384 k384_3 (VL_at (al := []) (st := [vI v0]) km384 k384_3 ?_)
    exact (h.1 c1)
  · refine VL_norm km384 k384_1 (VL_at (al := [(0, vI v0)]) (st := []) km384 k384_1 ?_)
    refine VL_norm km384 k384_3 (VL_at (al := []) (st := [vI ((-v0))]) km384 k384_3 ?_)
    exact (h.2 c1)
/-- Math.max, label 0 -/
theorem w385_0 {D : Nat} {v0 : Int32} {v1 : Int32} {m : XM} {Q : Int32 → XM → Prop} {E : Nat → XM → Prop}
    (h : ((v0 < v1 → Q v1 m) ∧ (¬ v0 < v1 → Q v0 m))) :
    VI D 385 [vI v0, vI v1] m Q E := by
  refine V_of (VL_at (al := [(0, vI v0), (1, vI v1)]) (st := []) km385 k385_0 ?_)
  refine And.intro (fun c1 => ?_) (fun c1 => ?_)
  · refine VL_norm km385 k385_2 (VL_at (al := [(1, vI v1)]) (st := []) km385 k385_2 ?_)
    refine VL_norm km385 k385_3 (VL_at (al := []) (st := [vI v1]) km385 k385_3 ?_)
    exact (h.1 c1)
  · refine VL_norm km385 k385_1 (VL_at (al := [(0, vI v0)]) (st := []) km385 k385_1 ?_)
    refine VL_norm km385 k385_3 (VL_at (al := []) (st := [vI v0]) km385 k385_3 ?_)
    exact (h.2 c1)
/-- Math.min, label 0 -/
theorem w386_0 {D : Nat} {v0 : Int32} {v1 : Int32} {m : XM} {Q : Int32 → XM → Prop} {E : Nat → XM → Prop}
    (h : ((v1 < v0 → Q v1 m) ∧ (¬ v1 < v0 → Q v0 m))) :
    VI D 386 [vI v0, vI v1] m Q E := by
  refine V_of (VL_at (al := [(0, vI v0), (1, vI v1)]) (st := []) km386 k386_0 ?_)
  refine And.intro (fun c1 => ?_) (fun c1 => ?_)
  · refine VL_norm km386 k386_2 (VL_at (al := [(1, vI v1)]) (st := []) km386 k386_2 ?_)
    refine VL_norm km386 k386_3 (VL_at (al := []) (st := [vI v1]) km386 k386_3 ?_)
    exact (h.1 c1)
  · refine VL_norm km386 k386_1 (VL_at (al := [(0, vI v0)]) (st := []) km386 k386_1 ?_)
    refine VL_norm km386 k386_3 (VL_at (al := []) (st := [vI v0]) km386 k386_3 ?_)
    exact (h.2 c1)
/-- String.length, label 0 -/
theorem w391s1_0 {D : Nat}  {m : XM} {Q : Int32 → XM → Prop} {E : Nat → XM → Prop}
    (h : Q ((n32 6) >>> (0 &&& 31)) m) :
    VI (D + 1) 391 [vR 30 (1000011)] m Q E := by
  refine V_of (VL_at (al := [(0, vR 30 (1000011))]) (st := []) km391 k391_0 ?_)
  refine V_of ?_
  refine VL_norm km393 k393_0 (VL_at (al := [(0, vR 30 (1000011))]) (st := []) km393 k393_0 ?_)
  refine And.intro (fun c => absurd c (by decide)) (fun _ => ?_)
  refine VL_norm km393 k393_1 (VL_at (al := [(0, vR 30 (1000011))]) (st := []) km393 k393_1 ?_)
  refine VL_norm km393 k393_3 (VL_at (al := []) (st := [vI 0]) km393 k393_3 ?_)
  refine And.intro rfl ?_
  exact h
/-- String.charAt, label 0 -/
theorem w392s1_0 {D : Nat} {v1 : Int32} {m : XM} {Q : Int32 → XM → Prop} {E : Nat → XM → Prop}
    (h : ((v1 < (n32 0) → False) ∧ (¬ v1 < (n32 0) → ((v1 < (n32 6) → (xin v1 6 = true ∧ (xrt 4 (((((([112, 97, 114, 97, 100, 101] : List Int32).getD (ix v1) 0) &&& (n32 255))).toUInt32 % 65536).toInt32) = true ∧ (xrt 4 (((((([112, 97, 114, 97, 100, 101] : List Int32).getD (ix v1) 0) &&& (n32 255))).toUInt32 % 65536).toInt32) = true ∧ Q (((((([112, 97, 114, 97, 100, 101] : List Int32).getD (ix v1) 0) &&& (n32 255))).toUInt32 % 65536).toInt32) m)))) ∧ (¬ v1 < (n32 6) → False))))) :
    VI (D + 3) 392 [vR 30 (1000011), vI v1] m Q E := by
  refine V_of (VL_at (al := [(0, vR 30 (1000011)), (1, vI v1)]) (st := []) km392 k392_0 ?_)
  refine V_of ?_
  refine VL_norm km394 k394_0 (VL_at (al := [(0, vR 30 (1000011))]) (st := []) km394 k394_0 ?_)
  refine And.intro (fun c => absurd c (by decide)) (fun _ => ?_)
  refine VL_norm km394 k394_1 (VL_at (al := [(0, vR 30 (1000011))]) (st := []) km394 k394_1 ?_)
  refine And.intro (fun _ => ?_) (fun c => absurd (by decide) c)
  refine VL_norm km394 k394_2 (VL_at (al := []) (st := []) km394 k394_2 ?_)
  refine VL_norm km394 k394_4 (VL_at (al := []) (st := [vI (n32 1)]) km394 k394_4 ?_)
  refine And.intro xrt21 ?_
  refine And.intro (fun c => absurd c (by decide)) (fun _ => ?_)
  refine VL_norm km392 k392_1 (VL_at (al := [(0, vR 30 (1000011)), (1, vI v1)]) (st := []) km392 k392_1 ?_)
  refine V_of ?_
  refine VL_norm km396 k396_0 (VL_at (al := [(0, vR 31 (1000011 + 30)), (1, vI v1)]) (st := []) km396 k396_0 ?_)
  refine V_of ?_
  refine VL_norm km395 k395_0 (VL_at (al := [(0, vI v1), (1, vI (n32 6))]) (st := []) km395 k395_0 ?_)
  refine V_of ?_
  refine VL_norm km397 k397_0 (VL_at (al := [(0, vI v1), (1, vI (n32 6)), (2, Sum.inl (Value.retAddr 0))]) (st := []) km397 k397_0 ?_)
  refine And.intro (fun c2 => ?_) (fun c2 => ?_)
  · refine VL_norm km397 k397_2 (VL_at (al := [(0, vI v1), (1, vI (n32 6)), (2, Sum.inl (Value.retAddr 0))]) (st := []) km397 k397_2 ?_)
    exact False.elim (h.1 c2)
  · refine VL_norm km397 k397_1 (VL_at (al := [(0, vI v1), (1, vI (n32 6)), (2, Sum.inl (Value.retAddr 0))]) (st := []) km397 k397_1 ?_)
    refine And.intro (fun c1 => ?_) (fun c1 => ?_)
    · refine VL_norm km397 k397_3 (VL_at (al := [(0, vI v1)]) (st := []) km397 k397_3 ?_)
      refine And.intro ((h.2 c2).1 c1).1 ?_
      refine And.intro ((h.2 c2).1 c1).2.1 ?_
      refine And.intro ((h.2 c2).1 c1).2.2.1 ?_
      exact ((h.2 c2).1 c1).2.2.2
    · refine VL_norm km397 k397_2 (VL_at (al := [(0, vI v1), (1, vI (n32 6)), (2, Sum.inl (Value.retAddr 0))]) (st := []) km397 k397_2 ?_)
      exact False.elim ((h.2 c2).2 c1)
/-- String.length, label 0 -/
theorem w391s2_0 {D : Nat}  {m : XM} {Q : Int32 → XM → Prop} {E : Nat → XM → Prop}
    (h : Q ((n32 6) >>> (0 &&& 31)) m) :
    VI (D + 1) 391 [vR 30 (1000012)] m Q E := by
  refine V_of (VL_at (al := [(0, vR 30 (1000012))]) (st := []) km391 k391_0 ?_)
  refine V_of ?_
  refine VL_norm km393 k393_0 (VL_at (al := [(0, vR 30 (1000012))]) (st := []) km393 k393_0 ?_)
  refine And.intro (fun c => absurd c (by decide)) (fun _ => ?_)
  refine VL_norm km393 k393_1 (VL_at (al := [(0, vR 30 (1000012))]) (st := []) km393 k393_1 ?_)
  refine VL_norm km393 k393_3 (VL_at (al := []) (st := [vI 0]) km393 k393_3 ?_)
  refine And.intro rfl ?_
  exact h
/-- String.charAt, label 0 -/
theorem w392s2_0 {D : Nat} {v1 : Int32} {m : XM} {Q : Int32 → XM → Prop} {E : Nat → XM → Prop}
    (h : ((v1 < (n32 0) → False) ∧ (¬ v1 < (n32 0) → ((v1 < (n32 6) → (xin v1 6 = true ∧ (xrt 4 (((((([98, 101, 97, 114, 101, 114] : List Int32).getD (ix v1) 0) &&& (n32 255))).toUInt32 % 65536).toInt32) = true ∧ (xrt 4 (((((([98, 101, 97, 114, 101, 114] : List Int32).getD (ix v1) 0) &&& (n32 255))).toUInt32 % 65536).toInt32) = true ∧ Q (((((([98, 101, 97, 114, 101, 114] : List Int32).getD (ix v1) 0) &&& (n32 255))).toUInt32 % 65536).toInt32) m)))) ∧ (¬ v1 < (n32 6) → False))))) :
    VI (D + 3) 392 [vR 30 (1000012), vI v1] m Q E := by
  refine V_of (VL_at (al := [(0, vR 30 (1000012)), (1, vI v1)]) (st := []) km392 k392_0 ?_)
  refine V_of ?_
  refine VL_norm km394 k394_0 (VL_at (al := [(0, vR 30 (1000012))]) (st := []) km394 k394_0 ?_)
  refine And.intro (fun c => absurd c (by decide)) (fun _ => ?_)
  refine VL_norm km394 k394_1 (VL_at (al := [(0, vR 30 (1000012))]) (st := []) km394 k394_1 ?_)
  refine And.intro (fun _ => ?_) (fun c => absurd (by decide) c)
  refine VL_norm km394 k394_2 (VL_at (al := []) (st := []) km394 k394_2 ?_)
  refine VL_norm km394 k394_4 (VL_at (al := []) (st := [vI (n32 1)]) km394 k394_4 ?_)
  refine And.intro xrt21 ?_
  refine And.intro (fun c => absurd c (by decide)) (fun _ => ?_)
  refine VL_norm km392 k392_1 (VL_at (al := [(0, vR 30 (1000012)), (1, vI v1)]) (st := []) km392 k392_1 ?_)
  refine V_of ?_
  refine VL_norm km396 k396_0 (VL_at (al := [(0, vR 31 (1000012 + 30)), (1, vI v1)]) (st := []) km396 k396_0 ?_)
  refine V_of ?_
  refine VL_norm km395 k395_0 (VL_at (al := [(0, vI v1), (1, vI (n32 6))]) (st := []) km395 k395_0 ?_)
  refine V_of ?_
  refine VL_norm km397 k397_0 (VL_at (al := [(0, vI v1), (1, vI (n32 6)), (2, Sum.inl (Value.retAddr 0))]) (st := []) km397 k397_0 ?_)
  refine And.intro (fun c2 => ?_) (fun c2 => ?_)
  · refine VL_norm km397 k397_2 (VL_at (al := [(0, vI v1), (1, vI (n32 6)), (2, Sum.inl (Value.retAddr 0))]) (st := []) km397 k397_2 ?_)
    exact False.elim (h.1 c2)
  · refine VL_norm km397 k397_1 (VL_at (al := [(0, vI v1), (1, vI (n32 6)), (2, Sum.inl (Value.retAddr 0))]) (st := []) km397 k397_1 ?_)
    refine And.intro (fun c1 => ?_) (fun c1 => ?_)
    · refine VL_norm km397 k397_3 (VL_at (al := [(0, vI v1)]) (st := []) km397 k397_3 ?_)
      refine And.intro ((h.2 c2).1 c1).1 ?_
      refine And.intro ((h.2 c2).1 c1).2.1 ?_
      refine And.intro ((h.2 c2).1 c1).2.2.1 ?_
      exact ((h.2 c2).1 c1).2.2.2
    · refine VL_norm km397 k397_2 (VL_at (al := [(0, vI v1), (1, vI (n32 6)), (2, Sum.inl (Value.retAddr 0))]) (st := []) km397 k397_2 ?_)
      exact False.elim ((h.2 c2).2 c1)
/-- String.length, label 0 -/
theorem w391s3_0 {D : Nat}  {m : XM} {Q : Int32 → XM → Prop} {E : Nat → XM → Prop}
    (h : Q ((n32 5) >>> (0 &&& 31)) m) :
    VI (D + 1) 391 [vR 30 (1000013)] m Q E := by
  refine V_of (VL_at (al := [(0, vR 30 (1000013))]) (st := []) km391 k391_0 ?_)
  refine V_of ?_
  refine VL_norm km393 k393_0 (VL_at (al := [(0, vR 30 (1000013))]) (st := []) km393 k393_0 ?_)
  refine And.intro (fun c => absurd c (by decide)) (fun _ => ?_)
  refine VL_norm km393 k393_1 (VL_at (al := [(0, vR 30 (1000013))]) (st := []) km393 k393_1 ?_)
  refine VL_norm km393 k393_3 (VL_at (al := []) (st := [vI 0]) km393 k393_3 ?_)
  refine And.intro rfl ?_
  exact h
/-- String.charAt, label 0 -/
theorem w392s3_0 {D : Nat} {v1 : Int32} {m : XM} {Q : Int32 → XM → Prop} {E : Nat → XM → Prop}
    (h : ((v1 < (n32 0) → False) ∧ (¬ v1 < (n32 0) → ((v1 < (n32 5) → (xin v1 5 = true ∧ (xrt 4 (((((([115, 116, 97, 110, 100] : List Int32).getD (ix v1) 0) &&& (n32 255))).toUInt32 % 65536).toInt32) = true ∧ (xrt 4 (((((([115, 116, 97, 110, 100] : List Int32).getD (ix v1) 0) &&& (n32 255))).toUInt32 % 65536).toInt32) = true ∧ Q (((((([115, 116, 97, 110, 100] : List Int32).getD (ix v1) 0) &&& (n32 255))).toUInt32 % 65536).toInt32) m)))) ∧ (¬ v1 < (n32 5) → False))))) :
    VI (D + 3) 392 [vR 30 (1000013), vI v1] m Q E := by
  refine V_of (VL_at (al := [(0, vR 30 (1000013)), (1, vI v1)]) (st := []) km392 k392_0 ?_)
  refine V_of ?_
  refine VL_norm km394 k394_0 (VL_at (al := [(0, vR 30 (1000013))]) (st := []) km394 k394_0 ?_)
  refine And.intro (fun c => absurd c (by decide)) (fun _ => ?_)
  refine VL_norm km394 k394_1 (VL_at (al := [(0, vR 30 (1000013))]) (st := []) km394 k394_1 ?_)
  refine And.intro (fun _ => ?_) (fun c => absurd (by decide) c)
  refine VL_norm km394 k394_2 (VL_at (al := []) (st := []) km394 k394_2 ?_)
  refine VL_norm km394 k394_4 (VL_at (al := []) (st := [vI (n32 1)]) km394 k394_4 ?_)
  refine And.intro xrt21 ?_
  refine And.intro (fun c => absurd c (by decide)) (fun _ => ?_)
  refine VL_norm km392 k392_1 (VL_at (al := [(0, vR 30 (1000013)), (1, vI v1)]) (st := []) km392 k392_1 ?_)
  refine V_of ?_
  refine VL_norm km396 k396_0 (VL_at (al := [(0, vR 31 (1000013 + 30)), (1, vI v1)]) (st := []) km396 k396_0 ?_)
  refine V_of ?_
  refine VL_norm km395 k395_0 (VL_at (al := [(0, vI v1), (1, vI (n32 5))]) (st := []) km395 k395_0 ?_)
  refine V_of ?_
  refine VL_norm km397 k397_0 (VL_at (al := [(0, vI v1), (1, vI (n32 5)), (2, Sum.inl (Value.retAddr 0))]) (st := []) km397 k397_0 ?_)
  refine And.intro (fun c2 => ?_) (fun c2 => ?_)
  · refine VL_norm km397 k397_2 (VL_at (al := [(0, vI v1), (1, vI (n32 5)), (2, Sum.inl (Value.retAddr 0))]) (st := []) km397 k397_2 ?_)
    exact False.elim (h.1 c2)
  · refine VL_norm km397 k397_1 (VL_at (al := [(0, vI v1), (1, vI (n32 5)), (2, Sum.inl (Value.retAddr 0))]) (st := []) km397 k397_1 ?_)
    refine And.intro (fun c1 => ?_) (fun c1 => ?_)
    · refine VL_norm km397 k397_3 (VL_at (al := [(0, vI v1)]) (st := []) km397 k397_3 ?_)
      refine And.intro ((h.2 c2).1 c1).1 ?_
      refine And.intro ((h.2 c2).1 c1).2.1 ?_
      refine And.intro ((h.2 c2).1 c1).2.2.1 ?_
      exact ((h.2 c2).1 c1).2.2.2
    · refine VL_norm km397 k397_2 (VL_at (al := [(0, vI v1), (1, vI (n32 5)), (2, Sum.inl (Value.retAddr 0))]) (st := []) km397 k397_2 ?_)
      exact False.elim ((h.2 c2).2 c1)
/-- String.length, label 0 -/
theorem w391s4_0 {D : Nat}  {m : XM} {Q : Int32 → XM → Prop} {E : Nat → XM → Prop}
    (h : Q ((n32 5) >>> (0 &&& 31)) m) :
    VI (D + 1) 391 [vR 30 (1000014)] m Q E := by
  refine V_of (VL_at (al := [(0, vR 30 (1000014))]) (st := []) km391 k391_0 ?_)
  refine V_of ?_
  refine VL_norm km393 k393_0 (VL_at (al := [(0, vR 30 (1000014))]) (st := []) km393 k393_0 ?_)
  refine And.intro (fun c => absurd c (by decide)) (fun _ => ?_)
  refine VL_norm km393 k393_1 (VL_at (al := [(0, vR 30 (1000014))]) (st := []) km393 k393_1 ?_)
  refine VL_norm km393 k393_3 (VL_at (al := []) (st := [vI 0]) km393 k393_3 ?_)
  refine And.intro rfl ?_
  exact h
/-- String.charAt, label 0 -/
theorem w392s4_0 {D : Nat} {v1 : Int32} {m : XM} {Q : Int32 → XM → Prop} {E : Nat → XM → Prop}
    (h : ((v1 < (n32 0) → False) ∧ (¬ v1 < (n32 0) → ((v1 < (n32 5) → (xin v1 5 = true ∧ (xrt 4 (((((([114, 105, 103, 104, 116] : List Int32).getD (ix v1) 0) &&& (n32 255))).toUInt32 % 65536).toInt32) = true ∧ (xrt 4 (((((([114, 105, 103, 104, 116] : List Int32).getD (ix v1) 0) &&& (n32 255))).toUInt32 % 65536).toInt32) = true ∧ Q (((((([114, 105, 103, 104, 116] : List Int32).getD (ix v1) 0) &&& (n32 255))).toUInt32 % 65536).toInt32) m)))) ∧ (¬ v1 < (n32 5) → False))))) :
    VI (D + 3) 392 [vR 30 (1000014), vI v1] m Q E := by
  refine V_of (VL_at (al := [(0, vR 30 (1000014)), (1, vI v1)]) (st := []) km392 k392_0 ?_)
  refine V_of ?_
  refine VL_norm km394 k394_0 (VL_at (al := [(0, vR 30 (1000014))]) (st := []) km394 k394_0 ?_)
  refine And.intro (fun c => absurd c (by decide)) (fun _ => ?_)
  refine VL_norm km394 k394_1 (VL_at (al := [(0, vR 30 (1000014))]) (st := []) km394 k394_1 ?_)
  refine And.intro (fun _ => ?_) (fun c => absurd (by decide) c)
  refine VL_norm km394 k394_2 (VL_at (al := []) (st := []) km394 k394_2 ?_)
  refine VL_norm km394 k394_4 (VL_at (al := []) (st := [vI (n32 1)]) km394 k394_4 ?_)
  refine And.intro xrt21 ?_
  refine And.intro (fun c => absurd c (by decide)) (fun _ => ?_)
  refine VL_norm km392 k392_1 (VL_at (al := [(0, vR 30 (1000014)), (1, vI v1)]) (st := []) km392 k392_1 ?_)
  refine V_of ?_
  refine VL_norm km396 k396_0 (VL_at (al := [(0, vR 31 (1000014 + 30)), (1, vI v1)]) (st := []) km396 k396_0 ?_)
  refine V_of ?_
  refine VL_norm km395 k395_0 (VL_at (al := [(0, vI v1), (1, vI (n32 5))]) (st := []) km395 k395_0 ?_)
  refine V_of ?_
  refine VL_norm km397 k397_0 (VL_at (al := [(0, vI v1), (1, vI (n32 5)), (2, Sum.inl (Value.retAddr 0))]) (st := []) km397 k397_0 ?_)
  refine And.intro (fun c2 => ?_) (fun c2 => ?_)
  · refine VL_norm km397 k397_2 (VL_at (al := [(0, vI v1), (1, vI (n32 5)), (2, Sum.inl (Value.retAddr 0))]) (st := []) km397 k397_2 ?_)
    exact False.elim (h.1 c2)
  · refine VL_norm km397 k397_1 (VL_at (al := [(0, vI v1), (1, vI (n32 5)), (2, Sum.inl (Value.retAddr 0))]) (st := []) km397 k397_1 ?_)
    refine And.intro (fun c1 => ?_) (fun c1 => ?_)
    · refine VL_norm km397 k397_3 (VL_at (al := [(0, vI v1)]) (st := []) km397 k397_3 ?_)
      refine And.intro ((h.2 c2).1 c1).1 ?_
      refine And.intro ((h.2 c2).1 c1).2.1 ?_
      refine And.intro ((h.2 c2).1 c1).2.2.1 ?_
      exact ((h.2 c2).1 c1).2.2.2
    · refine VL_norm km397 k397_2 (VL_at (al := [(0, vI v1), (1, vI (n32 5)), (2, Sum.inl (Value.retAddr 0))]) (st := []) km397 k397_2 ?_)
      exact False.elim ((h.2 c2).2 c1)
/-- String.length, label 0 -/
theorem w391s5_0 {D : Nat}  {m : XM} {Q : Int32 → XM → Prop} {E : Nat → XM → Prop}
    (h : Q ((n32 4) >>> (0 &&& 31)) m) :
    VI (D + 1) 391 [vR 30 (1000015)] m Q E := by
  refine V_of (VL_at (al := [(0, vR 30 (1000015))]) (st := []) km391 k391_0 ?_)
  refine V_of ?_
  refine VL_norm km393 k393_0 (VL_at (al := [(0, vR 30 (1000015))]) (st := []) km393 k393_0 ?_)
  refine And.intro (fun c => absurd c (by decide)) (fun _ => ?_)
  refine VL_norm km393 k393_1 (VL_at (al := [(0, vR 30 (1000015))]) (st := []) km393 k393_1 ?_)
  refine VL_norm km393 k393_3 (VL_at (al := []) (st := [vI 0]) km393 k393_3 ?_)
  refine And.intro rfl ?_
  exact h
/-- String.charAt, label 0 -/
theorem w392s5_0 {D : Nat} {v1 : Int32} {m : XM} {Q : Int32 → XM → Prop} {E : Nat → XM → Prop}
    (h : ((v1 < (n32 0) → False) ∧ (¬ v1 < (n32 0) → ((v1 < (n32 4) → (xin v1 4 = true ∧ (xrt 4 (((((([108, 101, 102, 116] : List Int32).getD (ix v1) 0) &&& (n32 255))).toUInt32 % 65536).toInt32) = true ∧ (xrt 4 (((((([108, 101, 102, 116] : List Int32).getD (ix v1) 0) &&& (n32 255))).toUInt32 % 65536).toInt32) = true ∧ Q (((((([108, 101, 102, 116] : List Int32).getD (ix v1) 0) &&& (n32 255))).toUInt32 % 65536).toInt32) m)))) ∧ (¬ v1 < (n32 4) → False))))) :
    VI (D + 3) 392 [vR 30 (1000015), vI v1] m Q E := by
  refine V_of (VL_at (al := [(0, vR 30 (1000015)), (1, vI v1)]) (st := []) km392 k392_0 ?_)
  refine V_of ?_
  refine VL_norm km394 k394_0 (VL_at (al := [(0, vR 30 (1000015))]) (st := []) km394 k394_0 ?_)
  refine And.intro (fun c => absurd c (by decide)) (fun _ => ?_)
  refine VL_norm km394 k394_1 (VL_at (al := [(0, vR 30 (1000015))]) (st := []) km394 k394_1 ?_)
  refine And.intro (fun _ => ?_) (fun c => absurd (by decide) c)
  refine VL_norm km394 k394_2 (VL_at (al := []) (st := []) km394 k394_2 ?_)
  refine VL_norm km394 k394_4 (VL_at (al := []) (st := [vI (n32 1)]) km394 k394_4 ?_)
  refine And.intro xrt21 ?_
  refine And.intro (fun c => absurd c (by decide)) (fun _ => ?_)
  refine VL_norm km392 k392_1 (VL_at (al := [(0, vR 30 (1000015)), (1, vI v1)]) (st := []) km392 k392_1 ?_)
  refine V_of ?_
  refine VL_norm km396 k396_0 (VL_at (al := [(0, vR 31 (1000015 + 30)), (1, vI v1)]) (st := []) km396 k396_0 ?_)
  refine V_of ?_
  refine VL_norm km395 k395_0 (VL_at (al := [(0, vI v1), (1, vI (n32 4))]) (st := []) km395 k395_0 ?_)
  refine V_of ?_
  refine VL_norm km397 k397_0 (VL_at (al := [(0, vI v1), (1, vI (n32 4)), (2, Sum.inl (Value.retAddr 0))]) (st := []) km397 k397_0 ?_)
  refine And.intro (fun c2 => ?_) (fun c2 => ?_)
  · refine VL_norm km397 k397_2 (VL_at (al := [(0, vI v1), (1, vI (n32 4)), (2, Sum.inl (Value.retAddr 0))]) (st := []) km397 k397_2 ?_)
    exact False.elim (h.1 c2)
  · refine VL_norm km397 k397_1 (VL_at (al := [(0, vI v1), (1, vI (n32 4)), (2, Sum.inl (Value.retAddr 0))]) (st := []) km397 k397_1 ?_)
    refine And.intro (fun c1 => ?_) (fun c1 => ?_)
    · refine VL_norm km397 k397_3 (VL_at (al := [(0, vI v1)]) (st := []) km397 k397_3 ?_)
      refine And.intro ((h.2 c2).1 c1).1 ?_
      refine And.intro ((h.2 c2).1 c1).2.1 ?_
      refine And.intro ((h.2 c2).1 c1).2.2.1 ?_
      exact ((h.2 c2).1 c1).2.2.2
    · refine VL_norm km397 k397_2 (VL_at (al := [(0, vI v1), (1, vI (n32 4)), (2, Sum.inl (Value.retAddr 0))]) (st := []) km397 k397_2 ?_)
      exact False.elim ((h.2 c2).2 c1)
/-- String.length, label 0 -/
theorem w391s6_0 {D : Nat}  {m : XM} {Q : Int32 → XM → Prop} {E : Nat → XM → Prop}
    (h : Q ((n32 4) >>> (0 &&& 31)) m) :
    VI (D + 1) 391 [vR 30 (1000016)] m Q E := by
  refine V_of (VL_at (al := [(0, vR 30 (1000016))]) (st := []) km391 k391_0 ?_)
  refine V_of ?_
  refine VL_norm km393 k393_0 (VL_at (al := [(0, vR 30 (1000016))]) (st := []) km393 k393_0 ?_)
  refine And.intro (fun c => absurd c (by decide)) (fun _ => ?_)
  refine VL_norm km393 k393_1 (VL_at (al := [(0, vR 30 (1000016))]) (st := []) km393 k393_1 ?_)
  refine VL_norm km393 k393_3 (VL_at (al := []) (st := [vI 0]) km393 k393_3 ?_)
  refine And.intro rfl ?_
  exact h
/-- String.charAt, label 0 -/
theorem w392s6_0 {D : Nat} {v1 : Int32} {m : XM} {Q : Int32 → XM → Prop} {E : Nat → XM → Prop}
    (h : ((v1 < (n32 0) → False) ∧ (¬ v1 < (n32 0) → ((v1 < (n32 4) → (xin v1 4 = true ∧ (xrt 4 (((((([112, 108, 97, 110] : List Int32).getD (ix v1) 0) &&& (n32 255))).toUInt32 % 65536).toInt32) = true ∧ (xrt 4 (((((([112, 108, 97, 110] : List Int32).getD (ix v1) 0) &&& (n32 255))).toUInt32 % 65536).toInt32) = true ∧ Q (((((([112, 108, 97, 110] : List Int32).getD (ix v1) 0) &&& (n32 255))).toUInt32 % 65536).toInt32) m)))) ∧ (¬ v1 < (n32 4) → False))))) :
    VI (D + 3) 392 [vR 30 (1000016), vI v1] m Q E := by
  refine V_of (VL_at (al := [(0, vR 30 (1000016)), (1, vI v1)]) (st := []) km392 k392_0 ?_)
  refine V_of ?_
  refine VL_norm km394 k394_0 (VL_at (al := [(0, vR 30 (1000016))]) (st := []) km394 k394_0 ?_)
  refine And.intro (fun c => absurd c (by decide)) (fun _ => ?_)
  refine VL_norm km394 k394_1 (VL_at (al := [(0, vR 30 (1000016))]) (st := []) km394 k394_1 ?_)
  refine And.intro (fun _ => ?_) (fun c => absurd (by decide) c)
  refine VL_norm km394 k394_2 (VL_at (al := []) (st := []) km394 k394_2 ?_)
  refine VL_norm km394 k394_4 (VL_at (al := []) (st := [vI (n32 1)]) km394 k394_4 ?_)
  refine And.intro xrt21 ?_
  refine And.intro (fun c => absurd c (by decide)) (fun _ => ?_)
  refine VL_norm km392 k392_1 (VL_at (al := [(0, vR 30 (1000016)), (1, vI v1)]) (st := []) km392 k392_1 ?_)
  refine V_of ?_
  refine VL_norm km396 k396_0 (VL_at (al := [(0, vR 31 (1000016 + 30)), (1, vI v1)]) (st := []) km396 k396_0 ?_)
  refine V_of ?_
  refine VL_norm km395 k395_0 (VL_at (al := [(0, vI v1), (1, vI (n32 4))]) (st := []) km395 k395_0 ?_)
  refine V_of ?_
  refine VL_norm km397 k397_0 (VL_at (al := [(0, vI v1), (1, vI (n32 4)), (2, Sum.inl (Value.retAddr 0))]) (st := []) km397 k397_0 ?_)
  refine And.intro (fun c2 => ?_) (fun c2 => ?_)
  · refine VL_norm km397 k397_2 (VL_at (al := [(0, vI v1), (1, vI (n32 4)), (2, Sum.inl (Value.retAddr 0))]) (st := []) km397 k397_2 ?_)
    exact False.elim (h.1 c2)
  · refine VL_norm km397 k397_1 (VL_at (al := [(0, vI v1), (1, vI (n32 4)), (2, Sum.inl (Value.retAddr 0))]) (st := []) km397 k397_1 ?_)
    refine And.intro (fun c1 => ?_) (fun c1 => ?_)
    · refine VL_norm km397 k397_3 (VL_at (al := [(0, vI v1)]) (st := []) km397 k397_3 ?_)
      refine And.intro ((h.2 c2).1 c1).1 ?_
      refine And.intro ((h.2 c2).1 c1).2.1 ?_
      refine And.intro ((h.2 c2).1 c1).2.2.1 ?_
      exact ((h.2 c2).1 c1).2.2.2
    · refine VL_norm km397 k397_2 (VL_at (al := [(0, vI v1), (1, vI (n32 4)), (2, Sum.inl (Value.retAddr 0))]) (st := []) km397 k397_2 ?_)
      exact False.elim ((h.2 c2).2 c1)
