/-! Verification conditions (written by program: wip/whole/mkw.py). -/
/-- BannerParade$Row.strideOf, label 0 -/
theorem w50_0 {D : Nat} {a0 : Nat} {v1 : Int32} {m : XM} {Q : Int32 → XM → Prop} {E : Nat → XM → Prop}
    (h : (xin v1 12 = true ∧ ((FP.fmul ((FP.i2f (m (a0 + 2) (ix v1)))) ((FP.i2f (m (a0 + 4) (ix v1))))) &&& 0x7fffffff ≤ 0x7f800000 ∧ ((FP.fdiv (FP.fmul ((FP.i2f (m (a0 + 2) (ix v1)))) ((FP.i2f (m (a0 + 4) (ix v1))))) (UInt32.ofNat 1120403456)) &&& 0x7fffffff ≤ 0x7f800000 ∧ Q ((FP.f2i (FP.fdiv (FP.fmul ((FP.i2f (m (a0 + 2) (ix v1)))) ((FP.i2f (m (a0 + 4) (ix v1))))) (UInt32.ofNat 1120403456)))) m)))) :
    VI D 50 [vR 7 (a0), vI v1] m Q E := by
  refine V_of (VL_at (al := [(0, vR 7 (a0)), (1, vI v1)]) (st := []) km50 k50_0 ?_)
  refine And.intro h.1 ?_
  refine And.intro h.1 ?_
  refine And.intro h.2.1 ?_
  refine And.intro h.2.2.1 ?_
  exact h.2.2.2
/-- BannerParade$Row.addStrength, label 0 -/
theorem w52_0 {D : Nat} {a0 : Nat} {v1 : Int32} {v2 : Int32} {m : XM} {Q : XM → Prop} {E : Nat → XM → Prop}
    (h : (xin v1 12 = true ∧ VI D 386 [vI (n32 100), vI ((m (a0 + 4) (ix v1)) + v2)] m (fun x1 m1 => VI D 385 [vI (n32 0), vI x1] m1 (fun x2 m2 => Q (um m2 (a0 + 4) (ix v1) x2)) E) E)) :
    VU (D + 1) 52 [vR 7 (a0), vI v1, vI v2] m Q E := by
  refine V_of (VL_at (al := [(0, vR 7 (a0)), (1, vI v1), (2, vI v2)]) (st := []) km52 k52_0 ?_)
  refine And.intro h.1 ?_
  refine V_mono h.2 (fun u1 m1 h1 => ?_) (fun _ _ h => h)
  refine V_mono h1 (fun u2 m2 h2 => ?_) (fun _ _ h => h)
  refine And.intro h.1 ?_
  exact h2
/-- BannerParade$Row.march, label 0 -/
theorem w54_0 {D : Nat} {a0 : Nat} {v1 : Int32} {v2 : Int32} {m : XM} {Q : XM → Prop} {E : Nat → XM → Prop}
    (h : VLU (D + 2) 54 1 [(0, vR 7 (a0)), (1, vI v1), (2, vI v2), (3, vI (n32 0))] [] m Q E) :
    VU (D + 2) 54 [vR 7 (a0), vI v1, vI v2] m Q E := by
  refine V_of (VL_at (al := [(0, vR 7 (a0)), (1, vI v1), (2, vI v2)]) (st := []) km54 k54_0 ?_)
  exact VL_norm km54 k54_1 h
/-- BannerParade$Row.march, label 1 -/
theorem w54_1 {D : Nat} {a0 : Nat} {v1 : Int32} {v2 : Int32} {v3 : Int32} {m : XM} {Q : XM → Prop} {E : Nat → XM → Prop}
    (h : (((m a0 0) ≤ v3 → Q m) ∧ (¬ (m a0 0) ≤ v3 → (xin v3 12 = true ∧ VI (D + 1) 50 [vR 7 (a0), vI v3] m (fun x1 m1 => ((v3 ≤ (n32 0) → ((((m (a0 + 6) (ix v3)) + x1) ≤ ((um m1 (a0 + 7) (ix v3) (m1 (a0 + 6) (ix v3))) (a0 + 6) (ix v3)) → VU (D + 1) 52 [vR 7 (a0), vI v3, vI v2] (um m1 (a0 + 7) (ix v3) (m1 (a0 + 6) (ix v3))) (fun m2 => VLU (D + 2) 54 1 [(0, vR 7 (a0)), (1, vI v1), (2, vI v2), (3, vI (v3 + (n32 1)))] [] m2 Q E) E) ∧ (¬ ((m (a0 + 6) (ix v3)) + x1) ≤ ((um m1 (a0 + 7) (ix v3) (m1 (a0 + 6) (ix v3))) (a0 + 6) (ix v3)) → (∀ μ3 : XM, μ3 = um (um (um m1 (a0 + 7) (ix v3) (m1 (a0 + 6) (ix v3))) (a0 + 6) (ix v3) ((m (a0 + 6) (ix v3)) + x1)) (a0 + 8) (ix v3) (((um (um m1 (a0 + 7) (ix v3) (m1 (a0 + 6) (ix v3))) (a0 + 6) (ix v3) ((m (a0 + 6) (ix v3)) + x1)) (a0 + 8) (ix v3)) + (n32 1)) → VU (D + 1) 52 [vR 7 (a0), vI v3, vI ((-(μ3 (a0 + 3) (ix v3))))] μ3 (fun m4 => VLU (D + 2) 54 1 [(0, vR 7 (a0)), (1, vI v1), (2, vI v2), (3, vI (v3 + (n32 1)))] [] m4 Q E) E)))) ∧ (¬ v3 ≤ (n32 0) → (xin (v3 - (n32 1)) 12 = true ∧ VI (D + 1) 386 [vI ((m (a0 + 6) (ix v3)) + x1), vI ((m1 (a0 + 6) (ix (v3 - (n32 1)))) - v1)] m1 (fun x6 m6 => ((x6 ≤ ((um m6 (a0 + 7) (ix v3) (m6 (a0 + 6) (ix v3))) (a0 + 6) (ix v3)) → VU (D + 1) 52 [vR 7 (a0), vI v3, vI v2] (um m6 (a0 + 7) (ix v3) (m6 (a0 + 6) (ix v3))) (fun m7 => VLU (D + 2) 54 1 [(0, vR 7 (a0)), (1, vI v1), (2, vI v2), (3, vI (v3 + (n32 1)))] [] m7 Q E) E) ∧ (¬ x6 ≤ ((um m6 (a0 + 7) (ix v3) (m6 (a0 + 6) (ix v3))) (a0 + 6) (ix v3)) → (∀ μ8 : XM, μ8 = um (um (um m6 (a0 + 7) (ix v3) (m6 (a0 + 6) (ix v3))) (a0 + 6) (ix v3) x6) (a0 + 8) (ix v3) (((um (um m6 (a0 + 7) (ix v3) (m6 (a0 + 6) (ix v3))) (a0 + 6) (ix v3) x6) (a0 + 8) (ix v3)) + (n32 1)) → VU (D + 1) 52 [vR 7 (a0), vI v3, vI ((-(μ8 (a0 + 3) (ix v3))))] μ8 (fun m9 => VLU (D + 2) 54 1 [(0, vR 7 (a0)), (1, vI v1), (2, vI v2), (3, vI (v3 + (n32 1)))] [] m9 Q E) E)))) E)))) E)))) :
    VLU (D + 2) 54 1 [(0, vR 7 (a0)), (1, vI v1), (2, vI v2), (3, vI v3)] [] m Q E := by
  refine VL_at (al := [(0, vR 7 (a0)), (1, vI v1), (2, vI v2), (3, vI v3)]) (st := []) km54 k54_1 ?_
  refine And.intro (fun c12 => ?_) (fun c12 => ?_)
  · refine VL_norm km54 k54_8 (VL_at (al := []) (st := []) km54 k54_8 ?_)
    exact (h.1 c12)
  · refine VL_norm km54 k54_2 (VL_at (al := [(0, vR 7 (a0)), (1, vI v1), (2, vI v2), (3, vI v3)]) (st := []) km54 k54_2 ?_)
    refine And.intro (h.2 c12).1 ?_
    refine V_mono (h.2 c12).2 (fun u1 m1 h1 => ?_) (fun _ _ h => h)
    refine And.intro (fun c11 => ?_) (fun c11 => ?_)
    · refine VL_norm km54 k54_4 (VL_at (al := [(0, vR 7 (a0)), (1, vI v1), (2, vI v2), (3, vI v3), (4, vI ((m (a0 + 6) (ix v3)) + (xti u1)))]) (st := []) km54 k54_4 ?_)
      refine And.intro (h.2 c12).1 ?_
      refine And.intro (h.2 c12).1 ?_
      refine And.intro (h.2 c12).1 ?_
      refine And.intro (fun c5 => ?_) (fun c5 => ?_)
      · refine VL_norm km54 k54_6 (VL_at (al := [(0, vR 7 (a0)), (1, vI v1), (2, vI v2), (3, vI v3)]) (st := []) km54 k54_6 ?_)
        refine V_mono ((h1.1 c11).1 c5) (fun u2 m2 h2 => ?_) (fun _ _ h => h)
        refine VL_norm km54 k54_7 (VL_at (al := [(0, vR 7 (a0)), (1, vI v1), (2, vI v2), (3, vI v3)]) (st := []) km54 k54_7 ?_)
        exact VL_norm km54 k54_1 h2
      · refine VL_norm km54 k54_5 (VL_at (al := [(0, vR 7 (a0)), (1, vI v1), (2, vI v2), (3, vI v3), (4, vI ((m (a0 + 6) (ix v3)) + (xti u1)))]) (st := []) km54 k54_5 ?_)
        refine And.intro (h.2 c12).1 ?_
        refine And.intro (h.2 c12).1 ?_
        refine And.intro (h.2 c12).1 ?_
        refine And.intro (h.2 c12).1 ?_
        refine V_mono (((h1.1 c11).2 c5) (um (um (um m1 (a0 + 7) (ix v3) (m1 (a0 + 6) (ix v3))) (a0 + 6) (ix v3) ((m (a0 + 6) (ix v3)) + (xti u1))) (a0 + 8) (ix v3) (((um (um m1 (a0 + 7) (ix v3) (m1 (a0 + 6) (ix v3))) (a0 + 6) (ix v3) ((m (a0 + 6) (ix v3)) + (xti u1))) (a0 + 8) (ix v3)) + (n32 1))) rfl) (fun u4 m4 h4 => ?_) (fun _ _ h => h)
        refine VL_norm km54 k54_7 (VL_at (al := [(0, vR 7 (a0)), (1, vI v1), (2, vI v2), (3, vI v3)]) (st := []) km54 k54_7 ?_)
        exact VL_norm km54 k54_1 h4
    · refine VL_norm km54 k54_3 (VL_at (al := [(0, vR 7 (a0)), (1, vI v1), (2, vI v2), (3, vI v3), (4, vI ((m (a0 + 6) (ix v3)) + (xti u1)))]) (st := []) km54 k54_3 ?_)
      refine And.intro (h1.2 c11).1 ?_
      refine V_mono (h1.2 c11).2 (fun u6 m6 h6 => ?_) (fun _ _ h => h)
      refine VL_norm km54 k54_4 (VL_at (al := [(0, vR 7 (a0)), (1, vI v1), (2, vI v2), (3, vI v3), (4, vI (xti u6))]) (st := []) km54 k54_4 ?_)
      refine And.intro (h.2 c12).1 ?_
      refine And.intro (h.2 c12).1 ?_
      refine And.intro (h.2 c12).1 ?_
      refine And.intro (fun c10 => ?_) (fun c10 => ?_)
      · refine VL_norm km54 k54_6 (VL_at (al := [(0, vR 7 (a0)), (1, vI v1), (2, vI v2), (3, vI v3)]) (st := []) km54 k54_6 ?_)
        refine V_mono (h6.1 c10) (fun u7 m7 h7 => ?_) (fun _ _ h => h)
        refine VL_norm km54 k54_7 (VL_at (al := [(0, vR 7 (a0)), (1, vI v1), (2, vI v2), (3, vI v3)]) (st := []) km54 k54_7 ?_)
        exact VL_norm km54 k54_1 h7
      · refine VL_norm km54 k54_5 (VL_at (al := [(0, vR 7 (a0)), (1, vI v1), (2, vI v2), (3, vI v3), (4, vI (xti u6))]) (st := []) km54 k54_5 ?_)
        refine And.intro (h.2 c12).1 ?_
        refine And.intro (h.2 c12).1 ?_
        refine And.intro (h.2 c12).1 ?_
        refine And.intro (h.2 c12).1 ?_
        refine V_mono ((h6.2 c10) (um (um (um m6 (a0 + 7) (ix v3) (m6 (a0 + 6) (ix v3))) (a0 + 6) (ix v3) (xti u6)) (a0 + 8) (ix v3) (((um (um m6 (a0 + 7) (ix v3) (m6 (a0 + 6) (ix v3))) (a0 + 6) (ix v3) (xti u6)) (a0 + 8) (ix v3)) + (n32 1))) rfl) (fun u9 m9 h9 => ?_) (fun _ _ h => h)
        refine VL_norm km54 k54_7 (VL_at (al := [(0, vR 7 (a0)), (1, vI v1), (2, vI v2), (3, vI v3)]) (st := []) km54 k54_7 ?_)
        exact VL_norm km54 k54_1 h9
/-- BannerParade$Row.carriers, label 0 -/
theorem w55_0 {D : Nat} {a0 : Nat} {m : XM} {Q : Int32 → XM → Prop} {E : Nat → XM → Prop}
    (h : VLI D 55 1 [(0, vR 7 (a0)), (1, vI (n32 0)), (2, vI (n32 0))] [] m Q E) :
    VI D 55 [vR 7 (a0)] m Q E := by
  refine V_of (VL_at (al := [(0, vR 7 (a0))]) (st := []) km55 k55_0 ?_)
  exact VL_norm km55 k55_1 h
/-- BannerParade$Row.carriers, label 1 -/
theorem w55_1 {D : Nat} {a0 : Nat} {v1 : Int32} {v2 : Int32} {m : XM} {Q : Int32 → XM → Prop} {E : Nat → XM → Prop}
    (h : (((m a0 0) ≤ v2 → Q v1 m) ∧ (¬ (m a0 0) ≤ v2 → (xin v2 12 = true ∧ (((m (a0 + 5) (ix v2)) = (n32 0) → VLI D 55 1 [(0, vR 7 (a0)), (1, vI v1), (2, vI (v2 + (n32 1)))] [] m Q E) ∧ (¬ (m (a0 + 5) (ix v2)) = (n32 0) → VLI D 55 1 [(0, vR 7 (a0)), (1, vI (v1 + (n32 1))), (2, vI (v2 + (n32 1)))] [] m Q E)))))) :
    VLI D 55 1 [(0, vR 7 (a0)), (1, vI v1), (2, vI v2)] [] m Q E := by
  refine VL_at (al := [(0, vR 7 (a0)), (1, vI v1), (2, vI v2)]) (st := []) km55 k55_1 ?_
  refine And.intro (fun c2 => ?_) (fun c2 => ?_)
  · refine VL_norm km55 k55_5 (VL_at (al := [(1, vI v1)]) (st := []) km55 k55_5 ?_)
    exact (h.1 c2)
  · refine VL_norm km55 k55_2 (VL_at (al := [(0, vR 7 (a0)), (1, vI v1), (2, vI v2)]) (st := []) km55 k55_2 ?_)
    refine And.intro (h.2 c2).1 ?_
    refine And.intro (fun c1 => ?_) (fun c1 => ?_)
    · refine VL_norm km55 k55_4 (VL_at (al := [(0, vR 7 (a0)), (1, vI v1), (2, vI v2)]) (st := []) km55 k55_4 ?_)
      exact VL_norm km55 k55_1 ((h.2 c2).2.1 c1)
    · refine VL_norm km55 k55_3 (VL_at (al := [(0, vR 7 (a0)), (1, vI v1), (2, vI v2)]) (st := []) km55 k55_3 ?_)
      refine VL_norm km55 k55_4 (VL_at (al := [(0, vR 7 (a0)), (1, vI (v1 + (n32 1))), (2, vI v2)]) (st := []) km55 k55_4 ?_)
      exact VL_norm km55 k55_1 ((h.2 c2).2.2 c1)
/-- BannerParade$Row.carriersOfOwnLetter, label 0 -/
theorem w57_0 {D : Nat} {a0 : Nat} {m : XM} {Q : Int32 → XM → Prop} {E : Nat → XM → Prop}
    (h : VLI D 57 1 [(0, vR 7 (a0)), (1, vI (n32 0)), (2, vI (n32 0))] [] m Q E) :
    VI D 57 [vR 7 (a0)] m Q E := by
  refine V_of (VL_at (al := [(0, vR 7 (a0))]) (st := []) km57 k57_0 ?_)
  exact VL_norm km57 k57_1 h
/-- BannerParade$Row.carriersOfOwnLetter, label 1 -/
theorem w57_1 {D : Nat} {a0 : Nat} {v1 : Int32} {v2 : Int32} {m : XM} {Q : Int32 → XM → Prop} {E : Nat → XM → Prop}
    (h : (((m a0 0) ≤ v2 → Q v1 m) ∧ (¬ (m a0 0) ≤ v2 → (xin v2 12 = true ∧ (((m (a0 + 5) (ix v2)) = (m (a0 + 1) (ix v2)) → VLI D 57 1 [(0, vR 7 (a0)), (1, vI (v1 + (n32 1))), (2, vI (v2 + (n32 1)))] [] m Q E) ∧ (¬ (m (a0 + 5) (ix v2)) = (m (a0 + 1) (ix v2)) → VLI D 57 1 [(0, vR 7 (a0)), (1, vI v1), (2, vI (v2 + (n32 1)))] [] m Q E)))))) :
    VLI D 57 1 [(0, vR 7 (a0)), (1, vI v1), (2, vI v2)] [] m Q E := by
  refine VL_at (al := [(0, vR 7 (a0)), (1, vI v1), (2, vI v2)]) (st := []) km57 k57_1 ?_
  refine And.intro (fun c2 => ?_) (fun c2 => ?_)
  · refine VL_norm km57 k57_5 (VL_at (al := [(1, vI v1)]) (st := []) km57 k57_5 ?_)
    exact (h.1 c2)
  · refine VL_norm km57 k57_2 (VL_at (al := [(0, vR 7 (a0)), (1, vI v1), (2, vI v2)]) (st := []) km57 k57_2 ?_)
    refine And.intro (h.2 c2).1 ?_
    refine And.intro (h.2 c2).1 ?_
    refine And.intro (fun c1 => ?_) (fun c1 => ?_)
    · refine VL_norm km57 k57_3 (VL_at (al := [(0, vR 7 (a0)), (1, vI v1), (2, vI v2)]) (st := []) km57 k57_3 ?_)
      refine VL_norm km57 k57_4 (VL_at (al := [(0, vR 7 (a0)), (1, vI (v1 + (n32 1))), (2, vI v2)]) (st := []) km57 k57_4 ?_)
      exact VL_norm km57 k57_1 ((h.2 c2).2.1 c1)
    · refine VL_norm km57 k57_4 (VL_at (al := [(0, vR 7 (a0)), (1, vI v1), (2, vI v2)]) (st := []) km57 k57_4 ?_)
      exact VL_norm km57 k57_1 ((h.2 c2).2.2 c1)
/-- BannerParade$Row.withinSpace, label 0 -/
theorem w58_0 {D : Nat} {a0 : Nat} {v1 : Int32} {m : XM} {Q : Int32 → XM → Prop} {E : Nat → XM → Prop}
    (h : VLI (D + 1) 58 1 [(0, vR 7 (a0)), (1, vI v1), (2, vI (n32 0)), (3, vI (n32 1))] [] m Q E) :
    VI (D + 1) 58 [vR 7 (a0), vI v1] m Q E := by
  refine V_of (VL_at (al := [(0, vR 7 (a0)), (1, vI v1)]) (st := []) km58 k58_0 ?_)
  exact VL_norm km58 k58_1 h
/-- BannerParade$Row.withinSpace, label 1 -/
theorem w58_1 {D : Nat} {a0 : Nat} {v1 : Int32} {v2 : Int32} {v3 : Int32} {m : XM} {Q : Int32 → XM → Prop} {E : Nat → XM → Prop}
    (h : (((m a0 0) ≤ v3 → Q v2 m) ∧ (¬ (m a0 0) ≤ v3 → ((v3 ≤ (n32 0) → ((v1 < (-(n32 1)) → VLI (D + 1) 58 1 [(0, vR 7 (a0)), (1, vI v1), (2, vI v2), (3, vI (v3 + (n32 1)))] [] m Q E) ∧ (¬ v1 < (-(n32 1)) → VLI (D + 1) 58 1 [(0, vR 7 (a0)), (1, vI v1), (2, vI (v2 + (n32 1))), (3, vI (v3 + (n32 1)))] [] m Q E))) ∧ (¬ v3 ≤ (n32 0) → (xin (v3 - (n32 1)) 12 = true ∧ (xin v3 12 = true ∧ ((v1 < ((m (a0 + 6) (ix (v3 - (n32 1)))) - (m (a0 + 6) (ix v3))) → VLI (D + 1) 58 1 [(0, vR 7 (a0)), (1, vI v1), (2, vI v2), (3, vI (v3 + (n32 1)))] [] m Q E) ∧ (¬ v1 < ((m (a0 + 6) (ix (v3 - (n32 1)))) - (m (a0 + 6) (ix v3))) → VLI (D + 1) 58 1 [(0, vR 7 (a0)), (1, vI v1), (2, vI (v2 + (n32 1))), (3, vI (v3 + (n32 1)))] [] m Q E))))))))) :
    VLI (D + 1) 58 1 [(0, vR 7 (a0)), (1, vI v1), (2, vI v2), (3, vI v3)] [] m Q E := by
  refine VL_at (al := [(0, vR 7 (a0)), (1, vI v1), (2, vI v2), (3, vI v3)]) (st := []) km58 k58_1 ?_
  refine And.intro (fun c4 => ?_) (fun c4 => ?_)
  · refine VL_norm km58 k58_5 (VL_at (al := [(2, vI v2)]) (st := []) km58 k58_5 ?_)
    exact (h.1 c4)
  · refine VL_norm km58 k58_2 (VL_at (al := [(0, vR 7 (a0)), (1, vI v1), (2, vI v2), (3, vI v3)]) (st := []) km58 k58_2 ?_)
    refine V_of ?_
    refine VL_norm km51 k51_0 (VL_at (al := [(0, vR 7 (a0)), (1, vI v3)]) (st := []) km51 k51_0 ?_)
    refine And.intro (fun c3 => ?_) (fun c3 => ?_)
    · refine VL_norm km51 k51_2 (VL_at (al := []) (st := []) km51 k51_2 ?_)
      refine VL_norm km51 k51_3 (VL_at (al := []) (st := [vI (-(n32 1))]) km51 k51_3 ?_)
      refine And.intro (fun c1 => ?_) (fun c1 => ?_)
      · refine VL_norm km58 k58_4 (VL_at (al := [(0, vR 7 (a0)), (1, vI v1), (2, vI v2), (3, vI v3)]) (st := []) km58 k58_4 ?_)
        exact VL_norm km58 k58_1 (((h.2 c4).1 c3).1 c1)
      · refine VL_norm km58 k58_3 (VL_at (al := [(0, vR 7 (a0)), (1, vI v1), (2, vI v2), (3, vI v3)]) (st := []) km58 k58_3 ?_)
        refine VL_norm km58 k58_4 (VL_at (al := [(0, vR 7 (a0)), (1, vI v1), (2, vI (v2 + (n32 1))), (3, vI v3)]) (st := []) km58 k58_4 ?_)
        exact VL_norm km58 k58_1 (((h.2 c4).1 c3).2 c1)
    · refine VL_norm km51 k51_1 (VL_at (al := [(0, vR 7 (a0)), (1, vI v3)]) (st := []) km51 k51_1 ?_)
      refine And.intro ((h.2 c4).2 c3).1 ?_
      refine And.intro ((h.2 c4).2 c3).2.1 ?_
      refine VL_norm km51 k51_3 (VL_at (al := []) (st := [vI ((m (a0 + 6) (ix (v3 - (n32 1)))) - (m (a0 + 6) (ix v3)))]) km51 k51_3 ?_)
      refine And.intro (fun c2 => ?_) (fun c2 => ?_)
      · refine VL_norm km58 k58_4 (VL_at (al := [(0, vR 7 (a0)), (1, vI v1), (2, vI v2), (3, vI v3)]) (st := []) km58 k58_4 ?_)
        exact VL_norm km58 k58_1 (((h.2 c4).2 c3).2.2.1 c2)
      · refine VL_norm km58 k58_3 (VL_at (al := [(0, vR 7 (a0)), (1, vI v1), (2, vI v2), (3, vI v3)]) (st := []) km58 k58_3 ?_)
        refine VL_norm km58 k58_4 (VL_at (al := [(0, vR 7 (a0)), (1, vI v1), (2, vI (v2 + (n32 1))), (3, vI v3)]) (st := []) km58 k58_4 ?_)
        exact VL_norm km58 k58_1 (((h.2 c4).2 c3).2.2.2 c2)
/-- BannerParade$Row.strideSum, label 0 -/
theorem w59_0 {D : Nat} {a0 : Nat} {m : XM} {Q : Int32 → XM → Prop} {E : Nat → XM → Prop}
    (h : VLI (D + 1) 59 1 [(0, vR 7 (a0)), (1, vI (n32 0)), (2, vI (n32 0))] [] m Q E) :
    VI (D + 1) 59 [vR 7 (a0)] m Q E := by
  refine V_of (VL_at (al := [(0, vR 7 (a0))]) (st := []) km59 k59_0 ?_)
  exact VL_norm km59 k59_1 h
/-- BannerParade$Row.strideSum, label 1 -/
theorem w59_1 {D : Nat} {a0 : Nat} {v1 : Int32} {v2 : Int32} {m : XM} {Q : Int32 → XM → Prop} {E : Nat → XM → Prop}
    (h : (((m a0 0) ≤ v2 → Q v1 m) ∧ (¬ (m a0 0) ≤ v2 → VI D 50 [vR 7 (a0), vI v2] m (fun x1 m1 => VLI (D + 1) 59 1 [(0, vR 7 (a0)), (1, vI (v1 + x1)), (2, vI (v2 + (n32 1)))] [] m1 Q E) E))) :
    VLI (D + 1) 59 1 [(0, vR 7 (a0)), (1, vI v1), (2, vI v2)] [] m Q E := by
  refine VL_at (al := [(0, vR 7 (a0)), (1, vI v1), (2, vI v2)]) (st := []) km59 k59_1 ?_
  refine And.intro (fun c2 => ?_) (fun c2 => ?_)
  · refine VL_norm km59 k59_3 (VL_at (al := [(1, vI v1)]) (st := []) km59 k59_3 ?_)
    exact (h.1 c2)
  · refine VL_norm km59 k59_2 (VL_at (al := [(0, vR 7 (a0)), (1, vI v1), (2, vI v2)]) (st := []) km59 k59_2 ?_)
    refine V_mono (h.2 c2) (fun u1 m1 h1 => ?_) (fun _ _ h => h)
    exact VL_norm km59 k59_1 h1
/-- BannerParade$Row.upToStrength, label 0 -/
theorem w62_0 {D : Nat} {a0 : Nat} {v1 : Int32} {m : XM} {Q : Int32 → XM → Prop} {E : Nat → XM → Prop}
    (h : VLI D 62 1 [(0, vR 7 (a0)), (1, vI v1), (2, vI (n32 0)), (3, vI (n32 0))] [] m Q E) :
    VI D 62 [vR 7 (a0), vI v1] m Q E := by
  refine V_of (VL_at (al := [(0, vR 7 (a0)), (1, vI v1)]) (st := []) km62 k62_0 ?_)
  exact VL_norm km62 k62_1 h
/-- BannerParade$Row.upToStrength, label 1 -/
theorem w62_1 {D : Nat} {a0 : Nat} {v1 : Int32} {v2 : Int32} {v3 : Int32} {m : XM} {Q : Int32 → XM → Prop} {E : Nat → XM → Prop}
    (h : (((m a0 0) ≤ v3 → Q v2 m) ∧ (¬ (m a0 0) ≤ v3 → (xin v3 12 = true ∧ ((v1 < (m (a0 + 4) (ix v3)) → VLI D 62 1 [(0, vR 7 (a0)), (1, vI v1), (2, vI v2), (3, vI (v3 + (n32 1)))] [] m Q E) ∧ (¬ v1 < (m (a0 + 4) (ix v3)) → VLI D 62 1 [(0, vR 7 (a0)), (1, vI v1), (2, vI (v2 ||| ((n32 1) <<< (v3 &&& 31)))), (3, vI (v3 + (n32 1)))] [] m Q E)))))) :
    VLI D 62 1 [(0, vR 7 (a0)), (1, vI v1), (2, vI v2), (3, vI v3)] [] m Q E := by
  refine VL_at (al := [(0, vR 7 (a0)), (1, vI v1), (2, vI v2), (3, vI v3)]) (st := []) km62 k62_1 ?_
  refine And.intro (fun c2 => ?_) (fun c2 => ?_)
  · refine VL_norm km62 k62_5 (VL_at (al := [(2, vI v2)]) (st := []) km62 k62_5 ?_)
    exact (h.1 c2)
  · refine VL_norm km62 k62_2 (VL_at (al := [(0, vR 7 (a0)), (1, vI v1), (2, vI v2), (3, vI v3)]) (st := []) km62 k62_2 ?_)
    refine And.intro (h.2 c2).1 ?_
    refine And.intro (fun c1 => ?_) (fun c1 => ?_)
    · refine VL_norm km62 k62_4 (VL_at (al := [(0, vR 7 (a0)), (1, vI v1), (2, vI v2), (3, vI v3)]) (st := []) km62 k62_4 ?_)
      exact VL_norm km62 k62_1 ((h.2 c2).2.1 c1)
    · refine VL_norm km62 k62_3 (VL_at (al := [(0, vR 7 (a0)), (1, vI v1), (2, vI v2), (3, vI v3)]) (st := []) km62 k62_3 ?_)
      refine VL_norm km62 k62_4 (VL_at (al := [(0, vR 7 (a0)), (1, vI v1), (2, vI (v2 ||| ((n32 1) <<< (v3 &&& 31)))), (3, vI v3)]) (st := []) km62 k62_4 ?_)
      exact VL_norm km62 k62_1 ((h.2 c2).2.2 c1)
/-- BannerParade$Row.belowStrength, label 0 -/
theorem w63_0 {D : Nat} {a0 : Nat} {v1 : Int32} {m : XM} {Q : Int32 → XM → Prop} {E : Nat → XM → Prop}
    (h : VLI D 63 1 [(0, vR 7 (a0)), (1, vI v1), (2, vI (n32 0)), (3, vI (n32 0))] [] m Q E) :
    VI D 63 [vR 7 (a0), vI v1] m Q E := by
  refine V_of (VL_at (al := [(0, vR 7 (a0)), (1, vI v1)]) (st := []) km63 k63_0 ?_)
  exact VL_norm km63 k63_1 h
/-- BannerParade$Row.belowStrength, label 1 -/
theorem w63_1 {D : Nat} {a0 : Nat} {v1 : Int32} {v2 : Int32} {v3 : Int32} {m : XM} {Q : Int32 → XM → Prop} {E : Nat → XM → Prop}
    (h : (((m a0 0) ≤ v3 → Q v2 m) ∧ (¬ (m a0 0) ≤ v3 → (xin v3 12 = true ∧ ((v1 ≤ (m (a0 + 4) (ix v3)) → VLI D 63 1 [(0, vR 7 (a0)), (1, vI v1), (2, vI v2), (3, vI (v3 + (n32 1)))] [] m Q E) ∧ (¬ v1 ≤ (m (a0 + 4) (ix v3)) → VLI D 63 1 [(0, vR 7 (a0)), (1, vI v1), (2, vI (v2 + (n32 1))), (3, vI (v3 + (n32 1)))] [] m Q E)))))) :
    VLI D 63 1 [(0, vR 7 (a0)), (1, vI v1), (2, vI v2), (3, vI v3)] [] m Q E := by
  refine VL_at (al := [(0, vR 7 (a0)), (1, vI v1), (2, vI v2), (3, vI v3)]) (st := []) km63 k63_1 ?_
  refine And.intro (fun c2 => ?_) (fun c2 => ?_)
  · refine VL_norm km63 k63_5 (VL_at (al := [(2, vI v2)]) (st := []) km63 k63_5 ?_)
    exact (h.1 c2)
  · refine VL_norm km63 k63_2 (VL_at (al := [(0, vR 7 (a0)), (1, vI v1), (2, vI v2), (3, vI v3)]) (st := []) km63 k63_2 ?_)
    refine And.intro (h.2 c2).1 ?_
    refine And.intro (fun c1 => ?_) (fun c1 => ?_)
    · refine VL_norm km63 k63_4 (VL_at (al := [(0, vR 7 (a0)), (1, vI v1), (2, vI v2), (3, vI v3)]) (st := []) km63 k63_4 ?_)
      exact VL_norm km63 k63_1 ((h.2 c2).2.1 c1)
    · refine VL_norm km63 k63_3 (VL_at (al := [(0, vR 7 (a0)), (1, vI v1), (2, vI v2), (3, vI v3)]) (st := []) km63 k63_3 ?_)
      refine VL_norm km63 k63_4 (VL_at (al := [(0, vR 7 (a0)), (1, vI v1), (2, vI (v2 + (n32 1))), (3, vI v3)]) (st := []) km63 k63_4 ?_)
      exact VL_norm km63 k63_1 ((h.2 c2).2.2 c1)
/-- BannerParade$Row.beyond, label 0 -/
theorem w64_0 {D : Nat} {a0 : Nat} {v1 : Int32} {m : XM} {Q : Int32 → XM → Prop} {E : Nat → XM → Prop}
    (h : VLI D 64 1 [(0, vR 7 (a0)), (1, vI v1), (2, vI (n32 0)), (3, vI (n32 0))] [] m Q E) :
    VI D 64 [vR 7 (a0), vI v1] m Q E := by
  refine V_of (VL_at (al := [(0, vR 7 (a0)), (1, vI v1)]) (st := []) km64 k64_0 ?_)
  exact VL_norm km64 k64_1 h
/-- BannerParade$Row.beyond, label 1 -/
theorem w64_1 {D : Nat} {a0 : Nat} {v1 : Int32} {v2 : Int32} {v3 : Int32} {m : XM} {Q : Int32 → XM → Prop} {E : Nat → XM → Prop}
    (h : (((m a0 0) ≤ v3 → Q v2 m) ∧ (¬ (m a0 0) ≤ v3 → (xin v3 12 = true ∧ (((m (a0 + 6) (ix v3)) ≤ v1 → VLI D 64 1 [(0, vR 7 (a0)), (1, vI v1), (2, vI v2), (3, vI (v3 + (n32 1)))] [] m Q E) ∧ (¬ (m (a0 + 6) (ix v3)) ≤ v1 → VLI D 64 1 [(0, vR 7 (a0)), (1, vI v1), (2, vI (v2 + (n32 1))), (3, vI (v3 + (n32 1)))] [] m Q E)))))) :
    VLI D 64 1 [(0, vR 7 (a0)), (1, vI v1), (2, vI v2), (3, vI v3)] [] m Q E := by
  refine VL_at (al := [(0, vR 7 (a0)), (1, vI v1), (2, vI v2), (3, vI v3)]) (st := []) km64 k64_1 ?_
  refine And.intro (fun c2 => ?_) (fun c2 => ?_)
  · refine VL_norm km64 k64_5 (VL_at (al := [(2, vI v2)]) (st := []) km64 k64_5 ?_)
    exact (h.1 c2)
  · refine VL_norm km64 k64_2 (VL_at (al := [(0, vR 7 (a0)), (1, vI v1), (2, vI v2), (3, vI v3)]) (st := []) km64 k64_2 ?_)
    refine And.intro (h.2 c2).1 ?_
    refine And.intro (fun c1 => ?_) (fun c1 => ?_)
    · refine VL_norm km64 k64_4 (VL_at (al := [(0, vR 7 (a0)), (1, vI v1), (2, vI v2), (3, vI v3)]) (st := []) km64 k64_4 ?_)
      exact VL_norm km64 k64_1 ((h.2 c2).2.1 c1)
    · refine VL_norm km64 k64_3 (VL_at (al := [(0, vR 7 (a0)), (1, vI v1), (2, vI v2), (3, vI v3)]) (st := []) km64 k64_3 ?_)
      refine VL_norm km64 k64_4 (VL_at (al := [(0, vR 7 (a0)), (1, vI v1), (2, vI (v2 + (n32 1))), (3, vI v3)]) (st := []) km64 k64_4 ?_)
      exact VL_norm km64 k64_1 ((h.2 c2).2.2 c1)
/-- BannerParade$Row.shortOf, label 0 -/
theorem w65_0 {D : Nat} {a0 : Nat} {v1 : Int32} {m : XM} {Q : Int32 → XM → Prop} {E : Nat → XM → Prop}
    (h : VLI D 65 1 [(0, vR 7 (a0)), (1, vI v1), (2, vI (n32 0)), (3, vI (n32 0))] [] m Q E) :
    VI D 65 [vR 7 (a0), vI v1] m Q E := by
  refine V_of (VL_at (al := [(0, vR 7 (a0)), (1, vI v1)]) (st := []) km65 k65_0 ?_)
  exact VL_norm km65 k65_1 h
/-- BannerParade$Row.shortOf, label 1 -/
theorem w65_1 {D : Nat} {a0 : Nat} {v1 : Int32} {v2 : Int32} {v3 : Int32} {m : XM} {Q : Int32 → XM → Prop} {E : Nat → XM → Prop}
    (h : (((m a0 0) ≤ v3 → Q v2 m) ∧ (¬ (m a0 0) ≤ v3 → (xin v3 12 = true ∧ ((v1 ≤ (m (a0 + 6) (ix v3)) → VLI D 65 1 [(0, vR 7 (a0)), (1, vI v1), (2, vI v2), (3, vI (v3 + (n32 1)))] [] m Q E) ∧ (¬ v1 ≤ (m (a0 + 6) (ix v3)) → VLI D 65 1 [(0, vR 7 (a0)), (1, vI v1), (2, vI (v2 + (n32 1))), (3, vI (v3 + (n32 1)))] [] m Q E)))))) :
    VLI D 65 1 [(0, vR 7 (a0)), (1, vI v1), (2, vI v2), (3, vI v3)] [] m Q E := by
  refine VL_at (al := [(0, vR 7 (a0)), (1, vI v1), (2, vI v2), (3, vI v3)]) (st := []) km65 k65_1 ?_
  refine And.intro (fun c2 => ?_) (fun c2 => ?_)
  · refine VL_norm km65 k65_5 (VL_at (al := [(2, vI v2)]) (st := []) km65 k65_5 ?_)
    exact (h.1 c2)
  · refine VL_norm km65 k65_2 (VL_at (al := [(0, vR 7 (a0)), (1, vI v1), (2, vI v2), (3, vI v3)]) (st := []) km65 k65_2 ?_)
    refine And.intro (h.2 c2).1 ?_
    refine And.intro (fun c1 => ?_) (fun c1 => ?_)
    · refine VL_norm km65 k65_4 (VL_at (al := [(0, vR 7 (a0)), (1, vI v1), (2, vI v2), (3, vI v3)]) (st := []) km65 k65_4 ?_)
      exact VL_norm km65 k65_1 ((h.2 c2).2.1 c1)
    · refine VL_norm km65 k65_3 (VL_at (al := [(0, vR 7 (a0)), (1, vI v1), (2, vI v2), (3, vI v3)]) (st := []) km65 k65_3 ?_)
      refine VL_norm km65 k65_4 (VL_at (al := [(0, vR 7 (a0)), (1, vI v1), (2, vI (v2 + (n32 1))), (3, vI v3)]) (st := []) km65 k65_4 ?_)
      exact VL_norm km65 k65_1 ((h.2 c2).2.2 c1)
/-- BannerParade$Row.leastDifference, label 0 -/
theorem w66_0 {D : Nat} {a0 : Nat} {v1 : Int32} {m : XM} {Q : Int32 → XM → Prop} {E : Nat → XM → Prop}
    (h : VLI (D + 1) 66 1 [(0, vR 7 (a0)), (1, vI v1), (2, vI (-(n32 1))), (3, vI (n32 0))] [] m Q E) :
    VI (D + 1) 66 [vR 7 (a0), vI v1] m Q E := by
  refine V_of (VL_at (al := [(0, vR 7 (a0)), (1, vI v1)]) (st := []) km66 k66_0 ?_)
  exact VL_norm km66 k66_1 h
/-- BannerParade$Row.leastDifference, label 1 -/
theorem w66_1 {D : Nat} {a0 : Nat} {v1 : Int32} {v2 : Int32} {v3 : Int32} {m : XM} {Q : Int32 → XM → Prop} {E : Nat → XM → Prop}
    (h : (((m a0 0) ≤ v3 → Q v2 m) ∧ (¬ (m a0 0) ≤ v3 → (xin v3 12 = true ∧ VI D 384 [vI ((m (a0 + 6) (ix v3)) - v1)] m (fun x1 m1 => ((v2 = (-(n32 1)) → VLI (D + 1) 66 1 [(0, vR 7 (a0)), (1, vI v1), (2, vI x1), (3, vI (v3 + (n32 1)))] [] m1 Q E) ∧ (¬ v2 = (-(n32 1)) → ((v2 ≤ x1 → VLI (D + 1) 66 1 [(0, vR 7 (a0)), (1, vI v1), (2, vI v2), (3, vI (v3 + (n32 1)))] [] m1 Q E) ∧ (¬ v2 ≤ x1 → VLI (D + 1) 66 1 [(0, vR 7 (a0)), (1, vI v1), (2, vI x1), (3, vI (v3 + (n32 1)))] [] m1 Q E))))) E)))) :
    VLI (D + 1) 66 1 [(0, vR 7 (a0)), (1, vI v1), (2, vI v2), (3, vI v3)] [] m Q E := by
  refine VL_at (al := [(0, vR 7 (a0)), (1, vI v1), (2, vI v2), (3, vI v3)]) (st := []) km66 k66_1 ?_
  refine And.intro (fun c4 => ?_) (fun c4 => ?_)
  · refine VL_norm km66 k66_6 (VL_at (al := [(2, vI v2)]) (st := []) km66 k66_6 ?_)
    exact (h.1 c4)
  · refine VL_norm km66 k66_2 (VL_at (al := [(0, vR 7 (a0)), (1, vI v1), (2, vI v2), (3, vI v3)]) (st := []) km66 k66_2 ?_)
    refine And.intro (h.2 c4).1 ?_
    refine V_mono (h.2 c4).2 (fun u1 m1 h1 => ?_) (fun _ _ h => h)
    refine And.intro (fun c3 => ?_) (fun c3 => ?_)
    · refine VL_norm km66 k66_4 (VL_at (al := [(0, vR 7 (a0)), (1, vI v1), (3, vI v3), (4, vI (xti u1))]) (st := []) km66 k66_4 ?_)
      refine VL_norm km66 k66_5 (VL_at (al := [(0, vR 7 (a0)), (1, vI v1), (2, vI (xti u1)), (3, vI v3)]) (st := []) km66 k66_5 ?_)
      exact VL_norm km66 k66_1 (h1.1 c3)
    · refine VL_norm km66 k66_3 (VL_at (al := [(0, vR 7 (a0)), (1, vI v1), (2, vI v2), (3, vI v3), (4, vI (xti u1))]) (st := []) km66 k66_3 ?_)
      refine And.intro (fun c2 => ?_) (fun c2 => ?_)
      · refine VL_norm km66 k66_5 (VL_at (al := [(0, vR 7 (a0)), (1, vI v1), (2, vI v2), (3, vI v3)]) (st := []) km66 k66_5 ?_)
        exact VL_norm km66 k66_1 ((h1.2 c3).1 c2)
      · refine VL_norm km66 k66_4 (VL_at (al := [(0, vR 7 (a0)), (1, vI v1), (3, vI v3), (4, vI (xti u1))]) (st := []) km66 k66_4 ?_)
        refine VL_norm km66 k66_5 (VL_at (al := [(0, vR 7 (a0)), (1, vI v1), (2, vI (xti u1)), (3, vI v3)]) (st := []) km66 k66_5 ?_)
        exact VL_norm km66 k66_1 ((h1.2 c3).2 c2)
/-- BannerParade$State.copyFrom, label 0 -/
theorem w68_0 {D : Nat} {a0 : Nat} {a1 : Nat} {m : XM} {Q : XM → Prop} {E : Nat → XM → Prop}
    (h : (∀ μ1 : XM, μ1 = um (um (um (um m (a0) 0 (m a1 0)) (a0) 1 ((um m (a0) 0 (m a1 0)) a1 1)) (a0) 2 ((um (um m (a0) 0 (m a1 0)) (a0) 1 ((um m (a0) 0 (m a1 0)) a1 1)) a1 2)) (a0) 3 ((um (um (um m (a0) 0 (m a1 0)) (a0) 1 ((um m (a0) 0 (m a1 0)) a1 1)) (a0) 2 ((um (um m (a0) 0 (m a1 0)) (a0) 1 ((um m (a0) 0 (m a1 0)) a1 1)) a1 2)) a1 3) → VU (D + 1) 172 [vR 200006 (a1 + 1), vR 200006 (a0 + 1)] μ1 (fun m2 => VU (D + 1) 172 [vR 200006 (a1 + 2), vR 200006 (a0 + 2)] m2 (fun m3 => VU (D + 1) 48 [vR 7 (a0 + 3), vR 7 (a1 + 3)] m3 (fun m4 => VU (D + 1) 4 [vR 1 (a0 + 12), vR 1 (a1 + 12)] m4 (fun m5 => VU (D + 1) 28 [vR 4 (a0 + 16), vR 4 (a1 + 16)] m5 (fun m6 => Q m6) E) E) E) E) E)) :
    VU (D + 2) 68 [vR 8 (a0), vR 8 (a1)] m Q E := by
  refine V_of (VL_at (al := [(0, vR 8 (a0)), (1, vR 8 (a1))]) (st := []) km68 k68_0 ?_)
  refine V_mono (h (um (um (um (um m (a0) 0 (m a1 0)) (a0) 1 ((um m (a0) 0 (m a1 0)) a1 1)) (a0) 2 ((um (um m (a0) 0 (m a1 0)) (a0) 1 ((um m (a0) 0 (m a1 0)) a1 1)) a1 2)) (a0) 3 ((um (um (um m (a0) 0 (m a1 0)) (a0) 1 ((um m (a0) 0 (m a1 0)) a1 1)) (a0) 2 ((um (um m (a0) 0 (m a1 0)) (a0) 1 ((um m (a0) 0 (m a1 0)) a1 1)) a1 2)) a1 3)) rfl) (fun u2 m2 h2 => ?_) (fun _ _ h => h)
  refine V_mono h2 (fun u3 m3 h3 => ?_) (fun _ _ h => h)
  refine V_mono h3 (fun u4 m4 h4 => ?_) (fun _ _ h => h)
  refine V_mono h4 (fun u5 m5 h5 => ?_) (fun _ _ h => h)
  refine V_mono h5 (fun u6 m6 h6 => ?_) (fun _ _ h => h)
  exact h6
/-- BannerParade$State.clear, label 0 -/
theorem w69_0 {D : Nat} {a0 : Nat} {m : XM} {Q : XM → Prop} {E : Nat → XM → Prop}
    (h : VLU D 69 1 [(0, vR 8 (a0)), (1, vI (n32 0))] [] (um (um (um (um (um (um (um m (a0) 0 (n32 0)) (a0) 1 (n32 0)) (a0) 2 (n32 0)) (a0) 3 (n32 0)) (a0 + 3) 0 (n32 0)) (a0 + 12) 0 (n32 0)) (a0 + 16) 0 (n32 0)) Q E) :
    VU D 69 [vR 8 (a0)] m Q E := by
  refine V_of (VL_at (al := [(0, vR 8 (a0))]) (st := []) km69 k69_0 ?_)
  exact VL_norm km69 k69_1 h
/-- BannerParade$State.clear, label 1 -/
theorem w69_1 {D : Nat} {a0 : Nat} {v1 : Int32} {m : XM} {Q : XM → Prop} {E : Nat → XM → Prop}
    (h : (((n32 6) ≤ v1 → Q m) ∧ (¬ (n32 6) ≤ v1 → (xin v1 6 = true ∧ VLU D 69 1 [(0, vR 8 (a0)), (1, vI (v1 + (n32 1)))] [] (um m (a0 + 2) (ix v1) (-(n32 1))) Q E)))) :
    VLU D 69 1 [(0, vR 8 (a0)), (1, vI v1)] [] m Q E := by
  refine VL_at (al := [(0, vR 8 (a0)), (1, vI v1)]) (st := []) km69 k69_1 ?_
  refine And.intro (fun c1 => ?_) (fun c1 => ?_)
  · refine VL_norm km69 k69_3 (VL_at (al := []) (st := []) km69 k69_3 ?_)
    exact (h.1 c1)
  · refine VL_norm km69 k69_2 (VL_at (al := [(0, vR 8 (a0)), (1, vI v1)]) (st := []) km69 k69_2 ?_)
    refine And.intro (h.2 c1).1 ?_
    exact VL_norm km69 k69_1 (h.2 c1).2
/-- BannerParade$State.passTick, label 0 -/
theorem w70_0 {D : Nat} {a0 : Nat} {m : XM} {Q : XM → Prop} {E : Nat → XM → Prop}
    (h : VU (D + 3) 71 [vR 8 (a0)] (um m (a0) 0 ((m a0 0) + (n32 1))) (fun m1 => VU (D + 3) 54 [vR 7 (a0 + 3), vI (m1 (a0 + 1) (ix (n32 0))), vI (m1 (a0 + 1) (ix (n32 3)))] m1 (fun m2 => VU (D + 3) 72 [vR 8 (a0)] m2 (fun m3 => VU (D + 3) 73 [vR 8 (a0)] m3 (fun m4 => Q m4) E) E) E) E) :
    VU (D + 4) 70 [vR 8 (a0)] m Q E := by
  refine V_of (VL_at (al := [(0, vR 8 (a0))]) (st := []) km70 k70_0 ?_)
  refine V_mono h (fun u1 m1 h1 => ?_) (fun _ _ h => h)
  refine And.intro (xin_k rfl) ?_
  refine And.intro (xin_k rfl) ?_
  refine V_mono h1 (fun u2 m2 h2 => ?_) (fun _ _ h => h)
  refine V_mono h2 (fun u3 m3 h3 => ?_) (fun _ _ h => h)
  refine V_mono h3 (fun u4 m4 h4 => ?_) (fun _ _ h => h)
  exact h4
/-- BannerParade$State.doPlans, label 0 -/
theorem w71_0 {D : Nat} {a0 : Nat} {m : XM} {Q : XM → Prop} {E : Nat → XM → Prop}
    (h : VLU (D + 3) 71 1 [(0, vR 8 (a0)), (1, vI (n32 0))] [] m Q E) :
    VU (D + 3) 71 [vR 8 (a0)] m Q E := by
  refine V_of (VL_at (al := [(0, vR 8 (a0))]) (st := []) km71 k71_0 ?_)
  exact VL_norm km71 k71_1 h
/-- BannerParade$State.doPlans, label 1 -/
theorem w71_1 {D : Nat} {a0 : Nat} {v1 : Int32} {m : XM} {Q : XM → Prop} {E : Nat → XM → Prop}
    (h : (((m (a0 + 16) 0) ≤ v1 → Q m) ∧ (¬ (m (a0 + 16) 0) ≤ v1 → (xin v1 12 = true ∧ (((m (a0 + 16 + 1) (ix v1)) = (m a0 0) → VI (D + 2) 74 [vR 8 (a0), vI (m (a0 + 16 + 2) (ix v1))] m (fun x1 m1 => ((x1 = (n32 0) → VLU (D + 3) 71 1 [(0, vR 8 (a0)), (1, vI (v1 + (n32 1)))] [] (um m1 (a0 + 16 + 3) (ix v1) (n32 2)) Q E) ∧ (¬ x1 = (n32 0) → VU (D + 2) 75 [vR 8 (a0), vI ((um m1 (a0 + 16 + 3) (ix v1) (n32 1)) (a0 + 16 + 2) (ix v1))] (um m1 (a0 + 16 + 3) (ix v1) (n32 1)) (fun m2 => VLU (D + 3) 71 1 [(0, vR 8 (a0)), (1, vI (v1 + (n32 1)))] [] m2 Q E) E))) E) ∧ (¬ (m (a0 + 16 + 1) (ix v1)) = (m a0 0) → VLU (D + 3) 71 1 [(0, vR 8 (a0)), (1, vI (v1 + (n32 1)))] [] m Q E)))))) :
    VLU (D + 3) 71 1 [(0, vR 8 (a0)), (1, vI v1)] [] m Q E := by
  refine VL_at (al := [(0, vR 8 (a0)), (1, vI v1)]) (st := []) km71 k71_1 ?_
  refine And.intro (fun c5 => ?_) (fun c5 => ?_)
  · refine VL_norm km71 k71_9 (VL_at (al := []) (st := []) km71 k71_9 ?_)
    exact (h.1 c5)
  · refine VL_norm km71 k71_2 (VL_at (al := [(0, vR 8 (a0)), (1, vI v1)]) (st := []) km71 k71_2 ?_)
    refine And.intro (h.2 c5).1 ?_
    refine And.intro (fun c4 => ?_) (fun c4 => ?_)
    · refine VL_norm km71 k71_3 (VL_at (al := [(0, vR 8 (a0)), (1, vI v1)]) (st := []) km71 k71_3 ?_)
      refine And.intro (h.2 c5).1 ?_
      refine V_mono ((h.2 c5).2.1 c4) (fun u1 m1 h1 => ?_) (fun _ _ h => h)
      refine And.intro (fun c3 => ?_) (fun c3 => ?_)
      · refine VL_norm km71 k71_5 (VL_at (al := [(0, vR 8 (a0)), (1, vI v1), (2, vI (xti u1))]) (st := [vI v1, vR 200012 (a0 + 16 + 3)]) km71 k71_5 ?_)
        refine VL_norm km71 k71_6 (VL_at (al := [(0, vR 8 (a0)), (1, vI v1), (2, vI (xti u1))]) (st := [vI (n32 2), vI v1, vR 200012 (a0 + 16 + 3)]) km71 k71_6 ?_)
        refine And.intro (h.2 c5).1 ?_
        refine And.intro (fun _ => ?_) (fun c => absurd c3 c)
        refine VL_norm km71 k71_8 (VL_at (al := [(0, vR 8 (a0)), (1, vI v1)]) (st := []) km71 k71_8 ?_)
        exact VL_norm km71 k71_1 (h1.1 c3)
      · refine VL_norm km71 k71_4 (VL_at (al := [(0, vR 8 (a0)), (1, vI v1), (2, vI (xti u1))]) (st := [vI v1, vR 200012 (a0 + 16 + 3)]) km71 k71_4 ?_)
        refine VL_norm km71 k71_6 (VL_at (al := [(0, vR 8 (a0)), (1, vI v1), (2, vI (xti u1))]) (st := [vI (n32 1), vI v1, vR 200012 (a0 + 16 + 3)]) km71 k71_6 ?_)
        refine And.intro (h.2 c5).1 ?_
        refine And.intro (fun c => absurd c c3) (fun _ => ?_)
        refine VL_norm km71 k71_7 (VL_at (al := [(0, vR 8 (a0)), (1, vI v1)]) (st := []) km71 k71_7 ?_)
        refine And.intro (h.2 c5).1 ?_
        refine V_mono (h1.2 c3) (fun u2 m2 h2 => ?_) (fun _ _ h => h)
        refine VL_norm km71 k71_8 (VL_at (al := [(0, vR 8 (a0)), (1, vI v1)]) (st := []) km71 k71_8 ?_)
        exact VL_norm km71 k71_1 h2
    · refine VL_norm km71 k71_8 (VL_at (al := [(0, vR 8 (a0)), (1, vI v1)]) (st := []) km71 k71_8 ?_)
      exact VL_norm km71 k71_1 ((h.2 c5).2.2 c4)
/-- BannerParade$State.dropOfTheWeak, label 0 -/
theorem w72_0 {D : Nat} {a0 : Nat} {m : XM} {Q : XM → Prop} {E : Nat → XM → Prop}
    (h : VLU (D + 2) 72 1 [(0, vR 8 (a0)), (1, vI (n32 0))] [] m Q E) :
    VU (D + 2) 72 [vR 8 (a0)] m Q E := by
  refine V_of (VL_at (al := [(0, vR 8 (a0))]) (st := []) km72 k72_0 ?_)
  exact VL_norm km72 k72_1 h
/-- BannerParade$State.dropOfTheWeak, label 1 -/
theorem w72_1 {D : Nat} {a0 : Nat} {v1 : Int32} {m : XM} {Q : XM → Prop} {E : Nat → XM → Prop}
    (h : (((m (a0 + 3) 0) ≤ v1 → Q m) ∧ (¬ (m (a0 + 3) 0) ≤ v1 → (xin v1 12 = true ∧ (((m (a0 + 3 + 5) (ix v1)) = (n32 0) → VLU (D + 2) 72 1 [(0, vR 8 (a0)), (1, vI (v1 + (n32 1)))] [] m Q E) ∧ (¬ (m (a0 + 3 + 5) (ix v1)) = (n32 0) → (((m (a0 + 3 + 4) (ix v1)) = (n32 0) → VU (D + 1) 76 [vR 8 (a0), vI v1] m (fun m1 => VLU (D + 2) 72 1 [(0, vR 8 (a0)), (1, vI (v1 + (n32 1)))] [] m1 Q E) E) ∧ (¬ (m (a0 + 3 + 4) (ix v1)) = (n32 0) → VLU (D + 2) 72 1 [(0, vR 8 (a0)), (1, vI (v1 + (n32 1)))] [] m Q E)))))))) :
    VLU (D + 2) 72 1 [(0, vR 8 (a0)), (1, vI v1)] [] m Q E := by
  refine VL_at (al := [(0, vR 8 (a0)), (1, vI v1)]) (st := []) km72 k72_1 ?_
  refine And.intro (fun c4 => ?_) (fun c4 => ?_)
  · refine VL_norm km72 k72_6 (VL_at (al := []) (st := []) km72 k72_6 ?_)
    exact (h.1 c4)
  · refine VL_norm km72 k72_2 (VL_at (al := [(0, vR 8 (a0)), (1, vI v1)]) (st := []) km72 k72_2 ?_)
    refine And.intro (h.2 c4).1 ?_
    refine And.intro (fun c3 => ?_) (fun c3 => ?_)
    · refine VL_norm km72 k72_5 (VL_at (al := [(0, vR 8 (a0)), (1, vI v1)]) (st := []) km72 k72_5 ?_)
      exact VL_norm km72 k72_1 ((h.2 c4).2.1 c3)
    · refine VL_norm km72 k72_3 (VL_at (al := [(0, vR 8 (a0)), (1, vI v1)]) (st := []) km72 k72_3 ?_)
      refine And.intro (h.2 c4).1 ?_
      refine And.intro (fun c2 => ?_) (fun c2 => ?_)
      · refine VL_norm km72 k72_4 (VL_at (al := [(0, vR 8 (a0)), (1, vI v1)]) (st := []) km72 k72_4 ?_)
        refine V_mono (((h.2 c4).2.2 c3).1 c2) (fun u1 m1 h1 => ?_) (fun _ _ h => h)
        refine VL_norm km72 k72_5 (VL_at (al := [(0, vR 8 (a0)), (1, vI v1)]) (st := []) km72 k72_5 ?_)
        exact VL_norm km72 k72_1 h1
      · refine VL_norm km72 k72_5 (VL_at (al := [(0, vR 8 (a0)), (1, vI v1)]) (st := []) km72 k72_5 ?_)
        exact VL_norm km72 k72_1 (((h.2 c4).2.2 c3).2 c2)
/-- BannerParade$State.liftOnTheWay, label 0 -/
theorem w73_0 {D : Nat} {a0 : Nat} {m : XM} {Q : XM → Prop} {E : Nat → XM → Prop}
    (h : VLU (D + 2) 73 1 [(0, vR 8 (a0)), (1, vI (n32 0))] [] m Q E) :
    VU (D + 2) 73 [vR 8 (a0)] m Q E := by
  refine V_of (VL_at (al := [(0, vR 8 (a0))]) (st := []) km73 k73_0 ?_)
  exact VL_norm km73 k73_1 h
/-- BannerParade$State.liftOnTheWay, label 1 -/
theorem w73_1 {D : Nat} {a0 : Nat} {v1 : Int32} {m : XM} {Q : XM → Prop} {E : Nat → XM → Prop}
    (h : (((m (a0 + 3) 0) ≤ v1 → Q m) ∧ (¬ (m (a0 + 3) 0) ≤ v1 → (((m (a0 + 12) 0) ≤ (n32 0) → VLU (D + 2) 73 1 [(0, vR 8 (a0)), (1, vI (v1 + (n32 1)))] [] m Q E) ∧ (¬ (m (a0 + 12) 0) ≤ (n32 0) → (xin v1 12 = true ∧ (((m (a0 + 3 + 5) (ix v1)) = (n32 0) → (((m (a0 + 3 + 4) (ix v1)) < (m (a0 + 1) (ix (n32 4))) → VLU (D + 2) 73 1 [(0, vR 8 (a0)), (1, vI (v1 + (n32 1)))] [] m Q E) ∧ (¬ (m (a0 + 3 + 4) (ix v1)) < (m (a0 + 1) (ix (n32 4))) → VI (D + 1) 8 [vR 1 (a0 + 12), vI (m (a0 + 3 + 7) (ix v1)), vI (m (a0 + 3 + 6) (ix v1))] m (fun x1 m1 => VU (D + 1) 78 [vR 8 (a0), vI v1, vI x1] m1 (fun m2 => VLU (D + 2) 73 1 [(0, vR 8 (a0)), (1, vI (v1 + (n32 1)))] [] m2 Q E) E) E))) ∧ (¬ (m (a0 + 3 + 5) (ix v1)) = (n32 0) → VLU (D + 2) 73 1 [(0, vR 8 (a0)), (1, vI (v1 + (n32 1)))] [] m Q E)))))))) :
    VLU (D + 2) 73 1 [(0, vR 8 (a0)), (1, vI v1)] [] m Q E := by
  refine VL_at (al := [(0, vR 8 (a0)), (1, vI v1)]) (st := []) km73 k73_1 ?_
  refine And.intro (fun c6 => ?_) (fun c6 => ?_)
  · refine VL_norm km73 k73_6 (VL_at (al := []) (st := []) km73 k73_6 ?_)
    exact (h.1 c6)
  · refine VL_norm km73 k73_2 (VL_at (al := [(0, vR 8 (a0)), (1, vI v1)]) (st := []) km73 k73_2 ?_)
    refine And.intro (fun c5 => ?_) (fun c5 => ?_)
    · refine VL_norm km73 k73_5 (VL_at (al := [(0, vR 8 (a0)), (1, vI v1)]) (st := []) km73 k73_5 ?_)
      exact VL_norm km73 k73_1 ((h.2 c6).1 c5)
    · refine VL_norm km73 k73_3 (VL_at (al := [(0, vR 8 (a0)), (1, vI v1)]) (st := []) km73 k73_3 ?_)
      refine V_of ?_
      refine VL_norm km77 k77_0 (VL_at (al := [(0, vR 8 (a0)), (1, vI v1)]) (st := []) km77 k77_0 ?_)
      refine And.intro ((h.2 c6).2 c5).1 ?_
      refine And.intro (fun c4 => ?_) (fun c4 => ?_)
      · refine VL_norm km77 k77_1 (VL_at (al := [(0, vR 8 (a0)), (1, vI v1)]) (st := []) km77 k77_1 ?_)
        refine And.intro ((h.2 c6).2 c5).1 ?_
        refine And.intro (xin_k rfl) ?_
        refine And.intro (fun c3 => ?_) (fun c3 => ?_)
        · refine VL_norm km77 k77_3 (VL_at (al := []) (st := []) km77 k77_3 ?_)
          refine VL_norm km77 k77_4 (VL_at (al := []) (st := [vI (n32 0)]) km77 k77_4 ?_)
          refine And.intro xrt20 ?_
          refine And.intro (fun _ => ?_) (fun c => absurd (by decide) c)
          refine VL_norm km73 k73_5 (VL_at (al := [(0, vR 8 (a0)), (1, vI v1)]) (st := []) km73 k73_5 ?_)
          exact VL_norm km73 k73_1 ((((h.2 c6).2 c5).2.1 c4).1 c3)
        · refine VL_norm km77 k77_2 (VL_at (al := []) (st := []) km77 k77_2 ?_)
          refine VL_norm km77 k77_4 (VL_at (al := []) (st := [vI (n32 1)]) km77 k77_4 ?_)
          refine And.intro xrt21 ?_
          refine And.intro (fun c => absurd c (by decide)) (fun _ => ?_)
          refine VL_norm km73 k73_4 (VL_at (al := [(0, vR 8 (a0)), (1, vI v1)]) (st := []) km73 k73_4 ?_)
          refine And.intro ((h.2 c6).2 c5).1 ?_
          refine And.intro ((h.2 c6).2 c5).1 ?_
          refine V_mono ((((h.2 c6).2 c5).2.1 c4).2 c3) (fun u1 m1 h1 => ?_) (fun _ _ h => h)
          refine V_mono h1 (fun u2 m2 h2 => ?_) (fun _ _ h => h)
          refine VL_norm km73 k73_5 (VL_at (al := [(0, vR 8 (a0)), (1, vI v1)]) (st := []) km73 k73_5 ?_)
          exact VL_norm km73 k73_1 h2
      · refine VL_norm km77 k77_3 (VL_at (al := []) (st := []) km77 k77_3 ?_)
        refine VL_norm km77 k77_4 (VL_at (al := []) (st := [vI (n32 0)]) km77 k77_4 ?_)
        refine And.intro xrt20 ?_
        refine And.intro (fun _ => ?_) (fun c => absurd (by decide) c)
        refine VL_norm km73 k73_5 (VL_at (al := [(0, vR 8 (a0)), (1, vI v1)]) (st := []) km73 k73_5 ?_)
        exact VL_norm km73 k73_1 (((h.2 c6).2 c5).2.2 c4)
/-- BannerParade$State.maySwap, label 0 -/
theorem w74_0 {D : Nat} {a0 : Nat} {v1 : Int32} {m : XM} {Q : Int32 → XM → Prop} {E : Nat → XM → Prop}
    (h : ((v1 < (n32 0) → Q (n32 0) m) ∧ (¬ v1 < (n32 0) → (((m (a0 + 3) 0) ≤ (v1 + (n32 1)) → Q (n32 0) m) ∧ (¬ (m (a0 + 3) 0) ≤ (v1 + (n32 1)) → (((v1 + (n32 1)) ≤ (n32 0) → (((m (a0 + 1) (ix (n32 5))) < (-(n32 1)) → Q (n32 0) m) ∧ (¬ (m (a0 + 1) (ix (n32 5))) < (-(n32 1)) → (xin v1 12 = true ∧ (((m (a0 + 3 + 4) (ix v1)) < (n32 1) → Q (n32 0) m) ∧ (¬ (m (a0 + 3 + 4) (ix v1)) < (n32 1) → (xin (v1 + (n32 1)) 12 = true ∧ (((m (a0 + 3 + 4) (ix (v1 + (n32 1)))) < (n32 1) → Q (n32 0) m) ∧ (¬ (m (a0 + 3 + 4) (ix (v1 + (n32 1)))) < (n32 1) → Q (n32 1) m))))))))) ∧ (¬ (v1 + (n32 1)) ≤ (n32 0) → (xin ((v1 + (n32 1)) - (n32 1)) 12 = true ∧ (xin (v1 + (n32 1)) 12 = true ∧ (((m (a0 + 1) (ix (n32 5))) < ((m (a0 + 3 + 6) (ix ((v1 + (n32 1)) - (n32 1)))) - (m (a0 + 3 + 6) (ix (v1 + (n32 1))))) → Q (n32 0) m) ∧ (¬ (m (a0 + 1) (ix (n32 5))) < ((m (a0 + 3 + 6) (ix ((v1 + (n32 1)) - (n32 1)))) - (m (a0 + 3 + 6) (ix (v1 + (n32 1))))) → (xin v1 12 = true ∧ (((m (a0 + 3 + 4) (ix v1)) < (n32 1) → Q (n32 0) m) ∧ (¬ (m (a0 + 3 + 4) (ix v1)) < (n32 1) → (((m (a0 + 3 + 4) (ix (v1 + (n32 1)))) < (n32 1) → Q (n32 0) m) ∧ (¬ (m (a0 + 3 + 4) (ix (v1 + (n32 1)))) < (n32 1) → Q (n32 1) m)))))))))))))))) :
    VI (D + 1) 74 [vR 8 (a0), vI v1] m Q E := by
  refine V_of (VL_at (al := [(0, vR 8 (a0)), (1, vI v1)]) (st := []) km74 k74_0 ?_)
  refine And.intro (fun c9 => ?_) (fun c9 => ?_)
  · refine VL_norm km74 k74_6 (VL_at (al := []) (st := []) km74 k74_6 ?_)
    refine VL_norm km74 k74_7 (VL_at (al := []) (st := [vI (n32 0)]) km74 k74_7 ?_)
    refine And.intro xrt20 ?_
    exact (h.1 c9)
  · refine VL_norm km74 k74_1 (VL_at (al := [(0, vR 8 (a0)), (1, vI v1)]) (st := []) km74 k74_1 ?_)
    refine And.intro (fun c8 => ?_) (fun c8 => ?_)
    · refine VL_norm km74 k74_6 (VL_at (al := []) (st := []) km74 k74_6 ?_)
      refine VL_norm km74 k74_7 (VL_at (al := []) (st := [vI (n32 0)]) km74 k74_7 ?_)
      refine And.intro xrt20 ?_
      exact ((h.2 c9).1 c8)
    · refine VL_norm km74 k74_2 (VL_at (al := [(0, vR 8 (a0)), (1, vI v1)]) (st := []) km74 k74_2 ?_)
      refine V_of ?_
      refine VL_norm km51 k51_0 (VL_at (al := [(0, vR 7 (a0 + 3)), (1, vI (v1 + (n32 1)))]) (st := []) km51 k51_0 ?_)
      refine And.intro (fun c7 => ?_) (fun c7 => ?_)
      · refine VL_norm km51 k51_2 (VL_at (al := []) (st := []) km51 k51_2 ?_)
        refine VL_norm km51 k51_3 (VL_at (al := []) (st := [vI (-(n32 1))]) km51 k51_3 ?_)
        refine And.intro (xin_k rfl) ?_
        refine And.intro (fun c3 => ?_) (fun c3 => ?_)
        · refine VL_norm km74 k74_6 (VL_at (al := []) (st := []) km74 k74_6 ?_)
          refine VL_norm km74 k74_7 (VL_at (al := []) (st := [vI (n32 0)]) km74 k74_7 ?_)
          refine And.intro xrt20 ?_
          exact ((((h.2 c9).2 c8).1 c7).1 c3)
        · refine VL_norm km74 k74_3 (VL_at (al := [(0, vR 8 (a0)), (1, vI v1)]) (st := []) km74 k74_3 ?_)
          refine And.intro ((((h.2 c9).2 c8).1 c7).2 c3).1 ?_
          refine And.intro (fun c2 => ?_) (fun c2 => ?_)
          · refine VL_norm km74 k74_6 (VL_at (al := []) (st := []) km74 k74_6 ?_)
            refine VL_norm km74 k74_7 (VL_at (al := []) (st := [vI (n32 0)]) km74 k74_7 ?_)
            refine And.intro xrt20 ?_
            exact (((((h.2 c9).2 c8).1 c7).2 c3).2.1 c2)
          · refine VL_norm km74 k74_4 (VL_at (al := [(0, vR 8 (a0)), (1, vI v1)]) (st := []) km74 k74_4 ?_)
            refine And.intro (((((h.2 c9).2 c8).1 c7).2 c3).2.2 c2).1 ?_
            refine And.intro (fun c1 => ?_) (fun c1 => ?_)
            · refine VL_norm km74 k74_6 (VL_at (al := []) (st := []) km74 k74_6 ?_)
              refine VL_norm km74 k74_7 (VL_at (al := []) (st := [vI (n32 0)]) km74 k74_7 ?_)
              refine And.intro xrt20 ?_
              exact ((((((h.2 c9).2 c8).1 c7).2 c3).2.2 c2).2.1 c1)
            · refine VL_norm km74 k74_5 (VL_at (al := []) (st := []) km74 k74_5 ?_)
              refine VL_norm km74 k74_7 (VL_at (al := []) (st := [vI (n32 1)]) km74 k74_7 ?_)
              refine And.intro xrt21 ?_
              exact ((((((h.2 c9).2 c8).1 c7).2 c3).2.2 c2).2.2 c1)
      · refine VL_norm km51 k51_1 (VL_at (al := [(0, vR 7 (a0 + 3)), (1, vI (v1 + (n32 1)))]) (st := []) km51 k51_1 ?_)
        refine And.intro (((h.2 c9).2 c8).2 c7).1 ?_
        refine And.intro (((h.2 c9).2 c8).2 c7).2.1 ?_
        refine VL_norm km51 k51_3 (VL_at (al := []) (st := [vI ((m (a0 + 3 + 6) (ix ((v1 + (n32 1)) - (n32 1)))) - (m (a0 + 3 + 6) (ix (v1 + (n32 1)))))]) km51 k51_3 ?_)
        refine And.intro (xin_k rfl) ?_
        refine And.intro (fun c6 => ?_) (fun c6 => ?_)
        · refine VL_norm km74 k74_6 (VL_at (al := []) (st := []) km74 k74_6 ?_)
          refine VL_norm km74 k74_7 (VL_at (al := []) (st := [vI (n32 0)]) km74 k74_7 ?_)
          refine And.intro xrt20 ?_
          exact ((((h.2 c9).2 c8).2 c7).2.2.1 c6)
        · refine VL_norm km74 k74_3 (VL_at (al := [(0, vR 8 (a0)), (1, vI v1)]) (st := []) km74 k74_3 ?_)
          refine And.intro ((((h.2 c9).2 c8).2 c7).2.2.2 c6).1 ?_
          refine And.intro (fun c5 => ?_) (fun c5 => ?_)
          · refine VL_norm km74 k74_6 (VL_at (al := []) (st := []) km74 k74_6 ?_)
            refine VL_norm km74 k74_7 (VL_at (al := []) (st := [vI (n32 0)]) km74 k74_7 ?_)
            refine And.intro xrt20 ?_
            exact (((((h.2 c9).2 c8).2 c7).2.2.2 c6).2.1 c5)
          · refine VL_norm km74 k74_4 (VL_at (al := [(0, vR 8 (a0)), (1, vI v1)]) (st := []) km74 k74_4 ?_)
            refine And.intro (((h.2 c9).2 c8).2 c7).2.1 ?_
            refine And.intro (fun c4 => ?_) (fun c4 => ?_)
            · refine VL_norm km74 k74_6 (VL_at (al := []) (st := []) km74 k74_6 ?_)
              refine VL_norm km74 k74_7 (VL_at (al := []) (st := [vI (n32 0)]) km74 k74_7 ?_)
              refine And.intro xrt20 ?_
              exact ((((((h.2 c9).2 c8).2 c7).2.2.2 c6).2.2 c5).1 c4)
            · refine VL_norm km74 k74_5 (VL_at (al := []) (st := []) km74 k74_5 ?_)
              refine VL_norm km74 k74_7 (VL_at (al := []) (st := [vI (n32 1)]) km74 k74_7 ?_)
              refine And.intro xrt21 ?_
              exact ((((((h.2 c9).2 c8).2 c7).2.2.2 c6).2.2 c5).2 c4)
/-- BannerParade$State.swapBanners, label 0 -/
theorem w75_0 {D : Nat} {a0 : Nat} {v1 : Int32} {m : XM} {Q : XM → Prop} {E : Nat → XM → Prop}
    (h : ((v1 < (n32 0) → VU (D + 1) 52 [vR 7 (a0 + 3), vI v1, vI (-(n32 2))] m (fun m1 => VU (D + 1) 52 [vR 7 (a0 + 3), vI (v1 + (n32 1)), vI (-(n32 2))] m1 (fun m2 => Q (um m2 (a0) 1 ((m2 a0 1) + (n32 1)))) E) E) ∧ (¬ v1 < (n32 0) → (((v1 + (n32 1)) < (m (a0 + 3) 0) → (xin v1 12 = true ∧ (xin (v1 + (n32 1)) 12 = true ∧ VU (D + 1) 52 [vR 7 (a0 + 3), vI v1, vI (-(n32 2))] (um (um m (a0 + 3 + 5) (ix v1) (m (a0 + 3 + 5) (ix (v1 + (n32 1))))) (a0 + 3 + 5) (ix (v1 + (n32 1))) (m (a0 + 3 + 5) (ix v1))) (fun m3 => VU (D + 1) 52 [vR 7 (a0 + 3), vI (v1 + (n32 1)), vI (-(n32 2))] m3 (fun m4 => Q (um m4 (a0) 1 ((m4 a0 1) + (n32 1)))) E) E))) ∧ (¬ (v1 + (n32 1)) < (m (a0 + 3) 0) → VU (D + 1) 52 [vR 7 (a0 + 3), vI v1, vI (-(n32 2))] m (fun m5 => VU (D + 1) 52 [vR 7 (a0 + 3), vI (v1 + (n32 1)), vI (-(n32 2))] m5 (fun m6 => Q (um m6 (a0) 1 ((m6 a0 1) + (n32 1)))) E) E))))) :
    VU (D + 2) 75 [vR 8 (a0), vI v1] m Q E := by
  refine V_of (VL_at (al := [(0, vR 8 (a0)), (1, vI v1)]) (st := []) km75 k75_0 ?_)
  refine V_of ?_
  refine VL_norm km53 k53_0 (VL_at (al := [(0, vR 7 (a0 + 3)), (1, vI v1)]) (st := []) km53 k53_0 ?_)
  refine And.intro (fun c8 => ?_) (fun c8 => ?_)
  · refine VL_norm km53 k53_2 (VL_at (al := []) (st := []) km53 k53_2 ?_)
    refine V_mono (h.1 c8) (fun u1 m1 h1 => ?_) (fun _ _ h => h)
    refine V_mono h1 (fun u2 m2 h2 => ?_) (fun _ _ h => h)
    exact h2
  · refine VL_norm km53 k53_1 (VL_at (al := [(0, vR 7 (a0 + 3)), (1, vI v1)]) (st := []) km53 k53_1 ?_)
    refine And.intro (fun c7 => ?_) (fun c7 => ?_)
    · refine VL_norm km53 k53_3 (VL_at (al := [(0, vR 7 (a0 + 3)), (1, vI v1)]) (st := []) km53 k53_3 ?_)
      refine And.intro ((h.2 c8).1 c7).1 ?_
      refine And.intro ((h.2 c8).1 c7).2.1 ?_
      refine And.intro ((h.2 c8).1 c7).1 ?_
      refine And.intro ((h.2 c8).1 c7).2.1 ?_
      refine V_mono ((h.2 c8).1 c7).2.2 (fun u3 m3 h3 => ?_) (fun _ _ h => h)
      refine V_mono h3 (fun u4 m4 h4 => ?_) (fun _ _ h => h)
      exact h4
    · refine VL_norm km53 k53_2 (VL_at (al := []) (st := []) km53 k53_2 ?_)
      refine V_mono ((h.2 c8).2 c7) (fun u5 m5 h5 => ?_) (fun _ _ h => h)
      refine V_mono h5 (fun u6 m6 h6 => ?_) (fun _ _ h => h)
      exact h6
/-- BannerParade$State.dropBanner, label 0 -/
theorem w76_0 {D : Nat} {a0 : Nat} {v1 : Int32} {m : XM} {Q : XM → Prop} {E : Nat → XM → Prop}
    (h : (xin v1 12 = true ∧ (((m (a0 + 12) 0) < (n32 12) → (xin (m (a0 + 12) 0) 12 = true ∧ (xin ((um m (a0 + 12 + 1) (ix (m (a0 + 12) 0)) (m (a0 + 3 + 5) (ix v1))) (a0 + 12) 0) 12 = true ∧ (∀ μ1 : XM, μ1 = um (um m (a0 + 12 + 1) (ix (m (a0 + 12) 0)) (m (a0 + 3 + 5) (ix v1))) (a0 + 12 + 2) (ix ((um m (a0 + 12 + 1) (ix (m (a0 + 12) 0)) (m (a0 + 3 + 5) (ix v1))) (a0 + 12) 0)) (m (a0 + 3 + 6) (ix v1)) → (xin (μ1 (a0 + 12) 0) 12 = true ∧ (∀ μ2 : XM, μ2 = um (um (um μ1 (a0 + 12 + 3) (ix (μ1 (a0 + 12) 0)) (m a0 0)) (a0 + 12) 0 (((um μ1 (a0 + 12 + 3) (ix (μ1 (a0 + 12) 0)) (m a0 0)) (a0 + 12) 0) + (n32 1))) (a0 + 3 + 5) (ix v1) (n32 0) → Q (um μ2 (a0) 2 ((μ2 a0 2) + (n32 1))))))))) ∧ (¬ (m (a0 + 12) 0) < (n32 12) → Q (um (um m (a0 + 3 + 5) (ix v1) (n32 0)) (a0) 2 (((um m (a0 + 3 + 5) (ix v1) (n32 0)) a0 2) + (n32 1))))))) :
    VU (D + 1) 76 [vR 8 (a0), vI v1] m Q E := by
  refine V_of (VL_at (al := [(0, vR 8 (a0)), (1, vI v1)]) (st := []) km76 k76_0 ?_)
  refine And.intro h.1 ?_
  refine And.intro h.1 ?_
  refine V_of ?_
  refine VL_norm km5 k5_0 (VL_at (al := [(0, vR 1 (a0 + 12)), (1, vI (m (a0 + 3 + 5) (ix v1))), (2, vI (m (a0 + 3 + 6) (ix v1))), (3, vI (m a0 0))]) (st := []) km5 k5_0 ?_)
  refine And.intro (fun c3 => ?_) (fun c3 => ?_)
  · refine VL_norm km5 k5_2 (VL_at (al := [(0, vR 1 (a0 + 12)), (1, vI (m (a0 + 3 + 5) (ix v1))), (2, vI (m (a0 + 3 + 6) (ix v1))), (3, vI (m a0 0))]) (st := []) km5 k5_2 ?_)
    refine And.intro (h.2.1 c3).1 ?_
    refine And.intro (h.2.1 c3).2.1 ?_
    refine And.intro ((h.2.1 c3).2.2 (um (um m (a0 + 12 + 1) (ix (m (a0 + 12) 0)) (m (a0 + 3 + 5) (ix v1))) (a0 + 12 + 2) (ix ((um m (a0 + 12 + 1) (ix (m (a0 + 12) 0)) (m (a0 + 3 + 5) (ix v1))) (a0 + 12) 0)) (m (a0 + 3 + 6) (ix v1))) rfl).1 ?_
    refine And.intro h.1 ?_
    exact (((h.2.1 c3).2.2 (um (um m (a0 + 12 + 1) (ix (m (a0 + 12) 0)) (m (a0 + 3 + 5) (ix v1))) (a0 + 12 + 2) (ix ((um m (a0 + 12 + 1) (ix (m (a0 + 12) 0)) (m (a0 + 3 + 5) (ix v1))) (a0 + 12) 0)) (m (a0 + 3 + 6) (ix v1))) rfl).2 (um (um (um (um (um m (a0 + 12 + 1) (ix (m (a0 + 12) 0)) (m (a0 + 3 + 5) (ix v1))) (a0 + 12 + 2) (ix ((um m (a0 + 12 + 1) (ix (m (a0 + 12) 0)) (m (a0 + 3 + 5) (ix v1))) (a0 + 12) 0)) (m (a0 + 3 + 6) (ix v1))) (a0 + 12 + 3) (ix ((um (um m (a0 + 12 + 1) (ix (m (a0 + 12) 0)) (m (a0 + 3 + 5) (ix v1))) (a0 + 12 + 2) (ix ((um m (a0 + 12 + 1) (ix (m (a0 + 12) 0)) (m (a0 + 3 + 5) (ix v1))) (a0 + 12) 0)) (m (a0 + 3 + 6) (ix v1))) (a0 + 12) 0)) (m a0 0)) (a0 + 12) 0 (((um (um (um m (a0 + 12 + 1) (ix (m (a0 + 12) 0)) (m (a0 + 3 + 5) (ix v1))) (a0 + 12 + 2) (ix ((um m (a0 + 12 + 1) (ix (m (a0 + 12) 0)) (m (a0 + 3 + 5) (ix v1))) (a0 + 12) 0)) (m (a0 + 3 + 6) (ix v1))) (a0 + 12 + 3) (ix ((um (um m (a0 + 12 + 1) (ix (m (a0 + 12) 0)) (m (a0 + 3 + 5) (ix v1))) (a0 + 12 + 2) (ix ((um m (a0 + 12 + 1) (ix (m (a0 + 12) 0)) (m (a0 + 3 + 5) (ix v1))) (a0 + 12) 0)) (m (a0 + 3 + 6) (ix v1))) (a0 + 12) 0)) (m a0 0)) (a0 + 12) 0) + (n32 1))) (a0 + 3 + 5) (ix v1) (n32 0)) rfl)
  · refine VL_norm km5 k5_1 (VL_at (al := []) (st := []) km5 k5_1 ?_)
    refine And.intro h.1 ?_
    exact (h.2.2 c3)
/-- BannerParade$State.liftBanner, label 0 -/
theorem w78_0 {D : Nat} {a0 : Nat} {v1 : Int32} {v2 : Int32} {m : XM} {Q : XM → Prop} {E : Nat → XM → Prop}
    (h : ((v2 < (n32 0) → Q m) ∧ (¬ v2 < (n32 0) → ((v2 < (m (a0 + 12) 0) → (xin v2 12 = true ∧ (xin v1 12 = true ∧ VU D 6 [vR 1 (a0 + 12), vI v2] (um m (a0 + 3 + 5) (ix v1) (m (a0 + 12 + 1) (ix v2))) (fun m1 => Q (um m1 (a0) 3 ((m1 a0 3) + (n32 1)))) E))) ∧ (¬ v2 < (m (a0 + 12) 0) → Q m))))) :
    VU (D + 1) 78 [vR 8 (a0), vI v1, vI v2] m Q E := by
  refine V_of (VL_at (al := [(0, vR 8 (a0)), (1, vI v1), (2, vI v2)]) (st := []) km78 k78_0 ?_)
  refine And.intro (fun c3 => ?_) (fun c3 => ?_)
  · refine VL_norm km78 k78_2 (VL_at (al := []) (st := []) km78 k78_2 ?_)
    exact (h.1 c3)
  · refine VL_norm km78 k78_1 (VL_at (al := [(0, vR 8 (a0)), (1, vI v1), (2, vI v2)]) (st := []) km78 k78_1 ?_)
    refine And.intro (fun c2 => ?_) (fun c2 => ?_)
    · refine VL_norm km78 k78_3 (VL_at (al := [(0, vR 8 (a0)), (1, vI v1), (2, vI v2)]) (st := []) km78 k78_3 ?_)
      refine And.intro ((h.2 c3).1 c2).1 ?_
      refine And.intro ((h.2 c3).1 c2).2.1 ?_
      refine V_mono ((h.2 c3).1 c2).2.2 (fun u1 m1 h1 => ?_) (fun _ _ h => h)
      exact h1
    · refine VL_norm km78 k78_2 (VL_at (al := []) (st := []) km78 k78_2 ?_)
      exact ((h.2 c3).2 c2)
/-- BannerParade$State.isInSight, label 0 -/
theorem w79_0 {D : Nat} {a0 : Nat} {v1 : Int32} {v2 : Int32} {m : XM} {Q : Int32 → XM → Prop} {E : Nat → XM → Prop}
    (h : (xin v1 12 = true ∧ (((m (a0 + 3 + 5) (ix v1)) = (n32 0) → Q (n32 0) m) ∧ (¬ (m (a0 + 3 + 5) (ix v1)) = (n32 0) → VI D 384 [vI ((m (a0 + 3 + 6) (ix v1)) - v2)] m (fun x1 m1 => (((m1 (a0 + 1) (ix (n32 1))) < x1 → Q (n32 0) m1) ∧ (¬ (m1 (a0 + 1) (ix (n32 1))) < x1 → Q (n32 1) m1))) E)))) :
    VI (D + 1) 79 [vR 8 (a0), vI v1, vI v2] m Q E := by
  refine V_of (VL_at (al := [(0, vR 8 (a0)), (1, vI v1), (2, vI v2)]) (st := []) km79 k79_0 ?_)
  refine And.intro h.1 ?_
  refine And.intro (fun c3 => ?_) (fun c3 => ?_)
  · refine VL_norm km79 k79_3 (VL_at (al := []) (st := []) km79 k79_3 ?_)
    refine VL_norm km79 k79_4 (VL_at (al := []) (st := [vI (n32 0)]) km79 k79_4 ?_)
    refine And.intro xrt20 ?_
    exact (h.2.1 c3)
  · refine VL_norm km79 k79_1 (VL_at (al := [(0, vR 8 (a0)), (1, vI v1), (2, vI v2)]) (st := []) km79 k79_1 ?_)
    refine And.intro h.1 ?_
    refine V_mono (h.2.2 c3) (fun u1 m1 h1 => ?_) (fun _ _ h => h)
    refine And.intro (xin_k rfl) ?_
    refine And.intro (fun c2 => ?_) (fun c2 => ?_)
    · refine VL_norm km79 k79_3 (VL_at (al := []) (st := []) km79 k79_3 ?_)
      refine VL_norm km79 k79_4 (VL_at (al := []) (st := [vI (n32 0)]) km79 k79_4 ?_)
      refine And.intro xrt20 ?_
      exact (h1.1 c2)
    · refine VL_norm km79 k79_2 (VL_at (al := []) (st := []) km79 k79_2 ?_)
      refine VL_norm km79 k79_4 (VL_at (al := []) (st := [vI (n32 1)]) km79 k79_4 ?_)
      refine And.intro xrt21 ?_
      exact (h1.2 c2)
/-- BannerParade$Tokens.putTwenty, label 0 -/
theorem w81_0 {D : Nat} {a0 : Nat} {v1 : Int32} {v2 : Int32} {v3 : Int32} {v4 : Int32} {v5 : Int32} {m : XM} {Q : Int32 → XM → Prop} {E : Nat → XM → Prop}
    (h : ((((m a0 1) + (n32 20)) ≤ (n32 700) → VU D 82 [vR 9 (a0), vI v1] m (fun m1 => VU D 82 [vR 9 (a0), vI v2] m1 (fun m2 => VU D 82 [vR 9 (a0), vI v3] m2 (fun m3 => VU D 82 [vR 9 (a0), vI v4] m3 (fun m4 => VU D 82 [vR 9 (a0), vI v5] m4 (fun m5 => Q (m5 a0 1) m5) E) E) E) E) E) ∧ (¬ ((m a0 1) + (n32 20)) ≤ (n32 700) → Q (-(n32 1)) m))) :
    VI (D + 1) 81 [vR 9 (a0), vI v1, vI v2, vI v3, vI v4, vI v5] m Q E := by
  refine V_of (VL_at (al := [(0, vR 9 (a0)), (1, vI v1), (2, vI v2), (3, vI v3), (4, vI v4), (5, vI v5)]) (st := []) km81 k81_0 ?_)
  refine And.intro (fun c6 => ?_) (fun c6 => ?_)
  · refine VL_norm km81 k81_2 (VL_at (al := [(0, vR 9 (a0)), (1, vI v1), (2, vI v2), (3, vI v3), (4, vI v4), (5, vI v5)]) (st := []) km81 k81_2 ?_)
    refine V_mono (h.1 c6) (fun u1 m1 h1 => ?_) (fun _ _ h => h)
    refine V_mono h1 (fun u2 m2 h2 => ?_) (fun _ _ h => h)
    refine V_mono h2 (fun u3 m3 h3 => ?_) (fun _ _ h => h)
    refine V_mono h3 (fun u4 m4 h4 => ?_) (fun _ _ h => h)
    refine V_mono h4 (fun u5 m5 h5 => ?_) (fun _ _ h => h)
    exact h5
  · refine VL_norm km81 k81_1 (VL_at (al := []) (st := []) km81 k81_1 ?_)
    exact (h.2 c6)
/-- BannerParade$Tokens.putFour, label 0 -/
theorem w82_0 {D : Nat} {a0 : Nat} {v1 : Int32} {m : XM} {Q : XM → Prop} {E : Nat → XM → Prop}
    (h : VLU D 82 1 [(0, vR 9 (a0)), (1, vI v1), (2, vI (n32 24))] [] m Q E) :
    VU D 82 [vR 9 (a0), vI v1] m Q E := by
  refine V_of (VL_at (al := [(0, vR 9 (a0)), (1, vI v1)]) (st := []) km82 k82_0 ?_)
  exact VL_norm km82 k82_1 h
/-- BannerParade$Tokens.putFour, label 1 -/
theorem w82_1 {D : Nat} {a0 : Nat} {v1 : Int32} {v2 : Int32} {m : XM} {Q : XM → Prop} {E : Nat → XM → Prop}
    (h : ((v2 < (n32 0) → Q m) ∧ (¬ v2 < (n32 0) → (((n32 700) ≤ (m a0 1) → Q m) ∧ (¬ (n32 700) ≤ (m a0 1) → (xin (m a0 1) 700 = true ∧ (∀ μ1 : XM, μ1 = um (um m (a0 + 1) (ix (m a0 1)) (((v1).toUInt32 >>> ((v2).toUInt32 &&& Int32.toUInt32 31)).toInt32 &&& (n32 255))) (a0) 1 (((um m (a0 + 1) (ix (m a0 1)) (((v1).toUInt32 >>> ((v2).toUInt32 &&& Int32.toUInt32 31)).toInt32 &&& (n32 255))) a0 1) + (n32 1)) → VLU D 82 1 [(0, vR 9 (a0)), (1, vI v1), (2, vI (v2 + (-(n32 8))))] [] μ1 Q E))))))) :
    VLU D 82 1 [(0, vR 9 (a0)), (1, vI v1), (2, vI v2)] [] m Q E := by
  refine VL_at (al := [(0, vR 9 (a0)), (1, vI v1), (2, vI v2)]) (st := []) km82 k82_1 ?_
  refine And.intro (fun c3 => ?_) (fun c3 => ?_)
  · refine VL_norm km82 k82_4 (VL_at (al := []) (st := []) km82 k82_4 ?_)
    exact (h.1 c3)
  · refine VL_norm km82 k82_2 (VL_at (al := [(0, vR 9 (a0)), (1, vI v1), (2, vI v2)]) (st := []) km82 k82_2 ?_)
    refine And.intro (fun c2 => ?_) (fun c2 => ?_)
    · refine VL_norm km82 k82_4 (VL_at (al := []) (st := []) km82 k82_4 ?_)
      exact ((h.2 c3).1 c2)
    · refine VL_norm km82 k82_3 (VL_at (al := [(0, vR 9 (a0)), (1, vI v1), (2, vI v2)]) (st := []) km82 k82_3 ?_)
      refine And.intro ((h.2 c3).2 c2).1 ?_
      exact VL_norm km82 k82_1 (((h.2 c3).2 c2).2 (um (um m (a0 + 1) (ix (m a0 1)) (((v1).toUInt32 >>> ((v2).toUInt32 &&& Int32.toUInt32 31)).toInt32 &&& (n32 255))) (a0) 1 (((um m (a0 + 1) (ix (m a0 1)) (((v1).toUInt32 >>> ((v2).toUInt32 &&& Int32.toUInt32 31)).toInt32 &&& (n32 255))) a0 1) + (n32 1))) rfl)
/-- BannerParade$Tokens.begin, label 0 -/
theorem w83_0 {D : Nat} {a0 : Nat} {v1 : Int32} {m : XM} {Q : XM → Prop} {E : Nat → XM → Prop}
    (h : VI D 386 [vI v1, vI (n32 700)] m (fun x1 m1 => VI D 385 [vI (n32 0), vI x1] m1 (fun x2 m2 => Q (um (um m2 (a0) 2 x2) (a0) 4 (n32 0))) E) E) :
    VU (D + 1) 83 [vR 9 (a0), vI v1] m Q E := by
  refine V_of (VL_at (al := [(0, vR 9 (a0)), (1, vI v1)]) (st := []) km83 k83_0 ?_)
  refine V_mono h (fun u1 m1 h1 => ?_) (fun _ _ h => h)
  refine V_mono h1 (fun u2 m2 h2 => ?_) (fun _ _ h => h)
  exact h2
/-- BannerParade$Tokens.readToken, label 0 -/
theorem w84_0 {D : Nat} {a0 : Nat} {m : XM} {Q : XM → Prop} {E : Nat → XM → Prop}
    (h : (((m a0 2) ≤ (m a0 4) → ((((um m (a0) 3 (m a0 4)) a0 3) < ((um m (a0) 3 (m a0 4)) a0 2) → (xin ((um m (a0) 3 (m a0 4)) a0 3) 700 = true ∧ ((((um m (a0) 3 (m a0 4)) (a0 + 1) (ix ((um m (a0) 3 (m a0 4)) a0 3))) < (n32 97) → ((((um m (a0) 3 (m a0 4)) (a0 + 1) (ix ((um m (a0) 3 (m a0 4)) a0 3))) < (n32 48) → ((((um m (a0) 3 (m a0 4)) (a0 + 1) (ix ((um m (a0) 3 (m a0 4)) a0 3))) = (n32 59) → Q (um (um (um m (a0) 3 (m a0 4)) (a0) 5 (n32 3)) (a0) 4 (((um (um m (a0) 3 (m a0 4)) (a0) 5 (n32 3)) a0 4) + (n32 1)))) ∧ (¬ ((um m (a0) 3 (m a0 4)) (a0 + 1) (ix ((um m (a0) 3 (m a0 4)) a0 3))) = (n32 59) → Q (um (um (um m (a0) 3 (m a0 4)) (a0) 5 (n32 4)) (a0) 4 (((um (um m (a0) 3 (m a0 4)) (a0) 5 (n32 4)) a0 4) + (n32 1)))))) ∧ (¬ ((um m (a0) 3 (m a0 4)) (a0 + 1) (ix ((um m (a0) 3 (m a0 4)) a0 3))) < (n32 48) → (((n32 57) < ((um m (a0) 3 (m a0 4)) (a0 + 1) (ix ((um m (a0) 3 (m a0 4)) a0 3))) → ((((um m (a0) 3 (m a0 4)) (a0 + 1) (ix ((um m (a0) 3 (m a0 4)) a0 3))) = (n32 59) → Q (um (um (um m (a0) 3 (m a0 4)) (a0) 5 (n32 3)) (a0) 4 (((um (um m (a0) 3 (m a0 4)) (a0) 5 (n32 3)) a0 4) + (n32 1)))) ∧ (¬ ((um m (a0) 3 (m a0 4)) (a0 + 1) (ix ((um m (a0) 3 (m a0 4)) a0 3))) = (n32 59) → Q (um (um (um m (a0) 3 (m a0 4)) (a0) 5 (n32 4)) (a0) 4 (((um (um m (a0) 3 (m a0 4)) (a0) 5 (n32 4)) a0 4) + (n32 1)))))) ∧ (¬ (n32 57) < ((um m (a0) 3 (m a0 4)) (a0 + 1) (ix ((um m (a0) 3 (m a0 4)) a0 3))) → VU D 86 [vR 9 (a0)] (um m (a0) 3 (m a0 4)) (fun m3 => Q m3) E))))) ∧ (¬ ((um m (a0) 3 (m a0 4)) (a0 + 1) (ix ((um m (a0) 3 (m a0 4)) a0 3))) < (n32 97) → (((n32 122) < ((um m (a0) 3 (m a0 4)) (a0 + 1) (ix ((um m (a0) 3 (m a0 4)) a0 3))) → ((((um m (a0) 3 (m a0 4)) (a0 + 1) (ix ((um m (a0) 3 (m a0 4)) a0 3))) < (n32 48) → ((((um m (a0) 3 (m a0 4)) (a0 + 1) (ix ((um m (a0) 3 (m a0 4)) a0 3))) = (n32 59) → Q (um (um (um m (a0) 3 (m a0 4)) (a0) 5 (n32 3)) (a0) 4 (((um (um m (a0) 3 (m a0 4)) (a0) 5 (n32 3)) a0 4) + (n32 1)))) ∧ (¬ ((um m (a0) 3 (m a0 4)) (a0 + 1) (ix ((um m (a0) 3 (m a0 4)) a0 3))) = (n32 59) → Q (um (um (um m (a0) 3 (m a0 4)) (a0) 5 (n32 4)) (a0) 4 (((um (um m (a0) 3 (m a0 4)) (a0) 5 (n32 4)) a0 4) + (n32 1)))))) ∧ (¬ ((um m (a0) 3 (m a0 4)) (a0 + 1) (ix ((um m (a0) 3 (m a0 4)) a0 3))) < (n32 48) → (((n32 57) < ((um m (a0) 3 (m a0 4)) (a0 + 1) (ix ((um m (a0) 3 (m a0 4)) a0 3))) → ((((um m (a0) 3 (m a0 4)) (a0 + 1) (ix ((um m (a0) 3 (m a0 4)) a0 3))) = (n32 59) → Q (um (um (um m (a0) 3 (m a0 4)) (a0) 5 (n32 3)) (a0) 4 (((um (um m (a0) 3 (m a0 4)) (a0) 5 (n32 3)) a0 4) + (n32 1)))) ∧ (¬ ((um m (a0) 3 (m a0 4)) (a0 + 1) (ix ((um m (a0) 3 (m a0 4)) a0 3))) = (n32 59) → Q (um (um (um m (a0) 3 (m a0 4)) (a0) 5 (n32 4)) (a0) 4 (((um (um m (a0) 3 (m a0 4)) (a0) 5 (n32 4)) a0 4) + (n32 1)))))) ∧ (¬ (n32 57) < ((um m (a0) 3 (m a0 4)) (a0 + 1) (ix ((um m (a0) 3 (m a0 4)) a0 3))) → VU D 86 [vR 9 (a0)] (um m (a0) 3 (m a0 4)) (fun m8 => Q m8) E))))) ∧ (¬ (n32 122) < ((um m (a0) 3 (m a0 4)) (a0 + 1) (ix ((um m (a0) 3 (m a0 4)) a0 3))) → VU D 85 [vR 9 (a0)] (um m (a0) 3 (m a0 4)) (fun m11 => Q m11) E)))))) ∧ (¬ ((um m (a0) 3 (m a0 4)) a0 3) < ((um m (a0) 3 (m a0 4)) a0 2) → Q (um (um m (a0) 3 (m a0 4)) (a0) 5 (n32 0))))) ∧ (¬ (m a0 2) ≤ (m a0 4) → (xin (m a0 4) 700 = true ∧ (((m (a0 + 1) (ix (m a0 4))) = (n32 32) → VLU (D + 1) 84 0 [(0, vR 9 (a0))] [] (um m (a0) 4 ((m a0 4) + (n32 1))) Q E) ∧ (¬ (m (a0 + 1) (ix (m a0 4))) = (n32 32) → ((((um m (a0) 3 (m a0 4)) a0 3) < ((um m (a0) 3 (m a0 4)) a0 2) → (xin ((um m (a0) 3 (m a0 4)) a0 3) 700 = true ∧ ((((um m (a0) 3 (m a0 4)) (a0 + 1) (ix ((um m (a0) 3 (m a0 4)) a0 3))) < (n32 97) → ((((um m (a0) 3 (m a0 4)) (a0 + 1) (ix ((um m (a0) 3 (m a0 4)) a0 3))) < (n32 48) → ((((um m (a0) 3 (m a0 4)) (a0 + 1) (ix ((um m (a0) 3 (m a0 4)) a0 3))) = (n32 59) → Q (um (um (um m (a0) 3 (m a0 4)) (a0) 5 (n32 3)) (a0) 4 (((um (um m (a0) 3 (m a0 4)) (a0) 5 (n32 3)) a0 4) + (n32 1)))) ∧ (¬ ((um m (a0) 3 (m a0 4)) (a0 + 1) (ix ((um m (a0) 3 (m a0 4)) a0 3))) = (n32 59) → Q (um (um (um m (a0) 3 (m a0 4)) (a0) 5 (n32 4)) (a0) 4 (((um (um m (a0) 3 (m a0 4)) (a0) 5 (n32 4)) a0 4) + (n32 1)))))) ∧ (¬ ((um m (a0) 3 (m a0 4)) (a0 + 1) (ix ((um m (a0) 3 (m a0 4)) a0 3))) < (n32 48) → (((n32 57) < ((um m (a0) 3 (m a0 4)) (a0 + 1) (ix ((um m (a0) 3 (m a0 4)) a0 3))) → ((((um m (a0) 3 (m a0 4)) (a0 + 1) (ix ((um m (a0) 3 (m a0 4)) a0 3))) = (n32 59) → Q (um (um (um m (a0) 3 (m a0 4)) (a0) 5 (n32 3)) (a0) 4 (((um (um m (a0) 3 (m a0 4)) (a0) 5 (n32 3)) a0 4) + (n32 1)))) ∧ (¬ ((um m (a0) 3 (m a0 4)) (a0 + 1) (ix ((um m (a0) 3 (m a0 4)) a0 3))) = (n32 59) → Q (um (um (um m (a0) 3 (m a0 4)) (a0) 5 (n32 4)) (a0) 4 (((um (um m (a0) 3 (m a0 4)) (a0) 5 (n32 4)) a0 4) + (n32 1)))))) ∧ (¬ (n32 57) < ((um m (a0) 3 (m a0 4)) (a0 + 1) (ix ((um m (a0) 3 (m a0 4)) a0 3))) → VU D 86 [vR 9 (a0)] (um m (a0) 3 (m a0 4)) (fun m17 => Q m17) E))))) ∧ (¬ ((um m (a0) 3 (m a0 4)) (a0 + 1) (ix ((um m (a0) 3 (m a0 4)) a0 3))) < (n32 97) → (((n32 122) < ((um m (a0) 3 (m a0 4)) (a0 + 1) (ix ((um m (a0) 3 (m a0 4)) a0 3))) → ((((um m (a0) 3 (m a0 4)) (a0 + 1) (ix ((um m (a0) 3 (m a0 4)) a0 3))) < (n32 48) → ((((um m (a0) 3 (m a0 4)) (a0 + 1) (ix ((um m (a0) 3 (m a0 4)) a0 3))) = (n32 59) → Q (um (um (um m (a0) 3 (m a0 4)) (a0) 5 (n32 3)) (a0) 4 (((um (um m (a0) 3 (m a0 4)) (a0) 5 (n32 3)) a0 4) + (n32 1)))) ∧ (¬ ((um m (a0) 3 (m a0 4)) (a0 + 1) (ix ((um m (a0) 3 (m a0 4)) a0 3))) = (n32 59) → Q (um (um (um m (a0) 3 (m a0 4)) (a0) 5 (n32 4)) (a0) 4 (((um (um m (a0) 3 (m a0 4)) (a0) 5 (n32 4)) a0 4) + (n32 1)))))) ∧ (¬ ((um m (a0) 3 (m a0 4)) (a0 + 1) (ix ((um m (a0) 3 (m a0 4)) a0 3))) < (n32 48) → (((n32 57) < ((um m (a0) 3 (m a0 4)) (a0 + 1) (ix ((um m (a0) 3 (m a0 4)) a0 3))) → ((((um m (a0) 3 (m a0 4)) (a0 + 1) (ix ((um m (a0) 3 (m a0 4)) a0 3))) = (n32 59) → Q (um (um (um m (a0) 3 (m a0 4)) (a0) 5 (n32 3)) (a0) 4 (((um (um m (a0) 3 (m a0 4)) (a0) 5 (n32 3)) a0 4) + (n32 1)))) ∧ (¬ ((um m (a0) 3 (m a0 4)) (a0 + 1) (ix ((um m (a0) 3 (m a0 4)) a0 3))) = (n32 59) → Q (um (um (um m (a0) 3 (m a0 4)) (a0) 5 (n32 4)) (a0) 4 (((um (um m (a0) 3 (m a0 4)) (a0) 5 (n32 4)) a0 4) + (n32 1)))))) ∧ (¬ (n32 57) < ((um m (a0) 3 (m a0 4)) (a0 + 1) (ix ((um m (a0) 3 (m a0 4)) a0 3))) → VU D 86 [vR 9 (a0)] (um m (a0) 3 (m a0 4)) (fun m22 => Q m22) E))))) ∧ (¬ (n32 122) < ((um m (a0) 3 (m a0 4)) (a0 + 1) (ix ((um m (a0) 3 (m a0 4)) a0 3))) → VU D 85 [vR 9 (a0)] (um m (a0) 3 (m a0 4)) (fun m25 => Q m25) E)))))) ∧ (¬ ((um m (a0) 3 (m a0 4)) a0 3) < ((um m (a0) 3 (m a0 4)) a0 2) → Q (um (um m (a0) 3 (m a0 4)) (a0) 5 (n32 0)))))))))) :
    VU (D + 1) 84 [vR 9 (a0)] m Q E := by
  refine V_of (VL_at (al := [(0, vR 9 (a0))]) (st := []) km84 k84_0 ?_)
  refine And.intro (fun c30 => ?_) (fun c30 => ?_)
  · refine VL_norm km84 k84_3 (VL_at (al := [(0, vR 9 (a0))]) (st := []) km84 k84_3 ?_)
    refine And.intro (fun c14 => ?_) (fun c14 => ?_)
    · refine VL_norm km84 k84_5 (VL_at (al := [(0, vR 9 (a0))]) (st := []) km84 k84_5 ?_)
      refine And.intro ((h.1 c30).1 c14).1 ?_
      refine And.intro (fun c13 => ?_) (fun c13 => ?_)
      · refine VL_norm km84 k84_8 (VL_at (al := [(0, vR 9 (a0))]) (st := []) km84 k84_8 ?_)
        refine And.intro ((h.1 c30).1 c14).1 ?_
        refine And.intro (fun c5 => ?_) (fun c5 => ?_)
        · refine VL_norm km84 k84_11 (VL_at (al := [(0, vR 9 (a0))]) (st := []) km84 k84_11 ?_)
          refine And.intro ((h.1 c30).1 c14).1 ?_
          refine And.intro (fun c1 => ?_) (fun c1 => ?_)
          · refine VL_norm km84 k84_12 (VL_at (al := [(0, vR 9 (a0))]) (st := [vR 9 (a0)]) km84 k84_12 ?_)
            refine VL_norm km84 k84_14 (VL_at (al := [(0, vR 9 (a0))]) (st := [vI (n32 3), vR 9 (a0)]) km84 k84_14 ?_)
            refine VL_norm km84 k84_15 (VL_at (al := []) (st := []) km84 k84_15 ?_)
            exact (((((h.1 c30).1 c14).2.1 c13).1 c5).1 c1)
          · refine VL_norm km84 k84_13 (VL_at (al := [(0, vR 9 (a0))]) (st := [vR 9 (a0)]) km84 k84_13 ?_)
            refine VL_norm km84 k84_14 (VL_at (al := [(0, vR 9 (a0))]) (st := [vI (n32 4), vR 9 (a0)]) km84 k84_14 ?_)
            refine VL_norm km84 k84_15 (VL_at (al := []) (st := []) km84 k84_15 ?_)
            exact (((((h.1 c30).1 c14).2.1 c13).1 c5).2 c1)
        · refine VL_norm km84 k84_9 (VL_at (al := [(0, vR 9 (a0))]) (st := []) km84 k84_9 ?_)
          refine And.intro ((h.1 c30).1 c14).1 ?_
          refine And.intro (fun c4 => ?_) (fun c4 => ?_)
          · refine VL_norm km84 k84_11 (VL_at (al := [(0, vR 9 (a0))]) (st := []) km84 k84_11 ?_)
            refine And.intro ((h.1 c30).1 c14).1 ?_
            refine And.intro (fun c2 => ?_) (fun c2 => ?_)
            · refine VL_norm km84 k84_12 (VL_at (al := [(0, vR 9 (a0))]) (st := [vR 9 (a0)]) km84 k84_12 ?_)
              refine VL_norm km84 k84_14 (VL_at (al := [(0, vR 9 (a0))]) (st := [vI (n32 3), vR 9 (a0)]) km84 k84_14 ?_)
              refine VL_norm km84 k84_15 (VL_at (al := []) (st := []) km84 k84_15 ?_)
              exact ((((((h.1 c30).1 c14).2.1 c13).2 c5).1 c4).1 c2)
            · refine VL_norm km84 k84_13 (VL_at (al := [(0, vR 9 (a0))]) (st := [vR 9 (a0)]) km84 k84_13 ?_)
              refine VL_norm km84 k84_14 (VL_at (al := [(0, vR 9 (a0))]) (st := [vI (n32 4), vR 9 (a0)]) km84 k84_14 ?_)
              refine VL_norm km84 k84_15 (VL_at (al := []) (st := []) km84 k84_15 ?_)
              exact ((((((h.1 c30).1 c14).2.1 c13).2 c5).1 c4).2 c2)
          · refine VL_norm km84 k84_10 (VL_at (al := [(0, vR 9 (a0))]) (st := []) km84 k84_10 ?_)
            refine V_mono (((((h.1 c30).1 c14).2.1 c13).2 c5).2 c4) (fun u3 m3 h3 => ?_) (fun _ _ h => h)
            refine VL_norm km84 k84_15 (VL_at (al := []) (st := []) km84 k84_15 ?_)
            exact h3
      · refine VL_norm km84 k84_6 (VL_at (al := [(0, vR 9 (a0))]) (st := []) km84 k84_6 ?_)
        refine And.intro ((h.1 c30).1 c14).1 ?_
        refine And.intro (fun c12 => ?_) (fun c12 => ?_)
        · refine VL_norm km84 k84_8 (VL_at (al := [(0, vR 9 (a0))]) (st := []) km84 k84_8 ?_)
          refine And.intro ((h.1 c30).1 c14).1 ?_
          refine And.intro (fun c10 => ?_) (fun c10 => ?_)
          · refine VL_norm km84 k84_11 (VL_at (al := [(0, vR 9 (a0))]) (st := []) km84 k84_11 ?_)
            refine And.intro ((h.1 c30).1 c14).1 ?_
            refine And.intro (fun c6 => ?_) (fun c6 => ?_)
            · refine VL_norm km84 k84_12 (VL_at (al := [(0, vR 9 (a0))]) (st := [vR 9 (a0)]) km84 k84_12 ?_)
              refine VL_norm km84 k84_14 (VL_at (al := [(0, vR 9 (a0))]) (st := [vI (n32 3), vR 9 (a0)]) km84 k84_14 ?_)
              refine VL_norm km84 k84_15 (VL_at (al := []) (st := []) km84 k84_15 ?_)
              exact ((((((h.1 c30).1 c14).2.2 c13).1 c12).1 c10).1 c6)
            · refine VL_norm km84 k84_13 (VL_at (al := [(0, vR 9 (a0))]) (st := [vR 9 (a0)]) km84 k84_13 ?_)
              refine VL_norm km84 k84_14 (VL_at (al := [(0, vR 9 (a0))]) (st := [vI (n32 4), vR 9 (a0)]) km84 k84_14 ?_)
              refine VL_norm km84 k84_15 (VL_at (al := []) (st := []) km84 k84_15 ?_)
              exact ((((((h.1 c30).1 c14).2.2 c13).1 c12).1 c10).2 c6)
          · refine VL_norm km84 k84_9 (VL_at (al := [(0, vR 9 (a0))]) (st := []) km84 k84_9 ?_)
            refine And.intro ((h.1 c30).1 c14).1 ?_
            refine And.intro (fun c9 => ?_) (fun c9 => ?_)
            · refine VL_norm km84 k84_11 (VL_at (al := [(0, vR 9 (a0))]) (st := []) km84 k84_11 ?_)
              refine And.intro ((h.1 c30).1 c14).1 ?_
              refine And.intro (fun c7 => ?_) (fun c7 => ?_)
              · refine VL_norm km84 k84_12 (VL_at (al := [(0, vR 9 (a0))]) (st := [vR 9 (a0)]) km84 k84_12 ?_)
                refine VL_norm km84 k84_14 (VL_at (al := [(0, vR 9 (a0))]) (st := [vI (n32 3), vR 9 (a0)]) km84 k84_14 ?_)
                refine VL_norm km84 k84_15 (VL_at (al := []) (st := []) km84 k84_15 ?_)
                exact (((((((h.1 c30).1 c14).2.2 c13).1 c12).2 c10).1 c9).1 c7)
              · refine VL_norm km84 k84_13 (VL_at (al := [(0, vR 9 (a0))]) (st := [vR 9 (a0)]) km84 k84_13 ?_)
                refine VL_norm km84 k84_14 (VL_at (al := [(0, vR 9 (a0))]) (st := [vI (n32 4), vR 9 (a0)]) km84 k84_14 ?_)
                refine VL_norm km84 k84_15 (VL_at (al := []) (st := []) km84 k84_15 ?_)
                exact (((((((h.1 c30).1 c14).2.2 c13).1 c12).2 c10).1 c9).2 c7)
            · refine VL_norm km84 k84_10 (VL_at (al := [(0, vR 9 (a0))]) (st := []) km84 k84_10 ?_)
              refine V_mono ((((((h.1 c30).1 c14).2.2 c13).1 c12).2 c10).2 c9) (fun u8 m8 h8 => ?_) (fun _ _ h => h)
              refine VL_norm km84 k84_15 (VL_at (al := []) (st := []) km84 k84_15 ?_)
              exact h8
        · refine VL_norm km84 k84_7 (VL_at (al := [(0, vR 9 (a0))]) (st := []) km84 k84_7 ?_)
          refine V_mono ((((h.1 c30).1 c14).2.2 c13).2 c12) (fun u11 m11 h11 => ?_) (fun _ _ h => h)
          refine VL_norm km84 k84_15 (VL_at (al := []) (st := []) km84 k84_15 ?_)
          exact h11
    · refine VL_norm km84 k84_4 (VL_at (al := [(0, vR 9 (a0))]) (st := []) km84 k84_4 ?_)
      refine VL_norm km84 k84_15 (VL_at (al := []) (st := []) km84 k84_15 ?_)
      exact ((h.1 c30).2 c14)
  · refine VL_norm km84 k84_1 (VL_at (al := [(0, vR 9 (a0))]) (st := []) km84 k84_1 ?_)
    refine And.intro (h.2 c30).1 ?_
    refine And.intro (fun c29 => ?_) (fun c29 => ?_)
    · refine VL_norm km84 k84_2 (VL_at (al := [(0, vR 9 (a0))]) (st := []) km84 k84_2 ?_)
      exact VL_norm km84 k84_0 ((h.2 c30).2.1 c29)
    · refine VL_norm km84 k84_3 (VL_at (al := [(0, vR 9 (a0))]) (st := []) km84 k84_3 ?_)
      refine And.intro (fun c28 => ?_) (fun c28 => ?_)
      · refine VL_norm km84 k84_5 (VL_at (al := [(0, vR 9 (a0))]) (st := []) km84 k84_5 ?_)
        refine And.intro (((h.2 c30).2.2 c29).1 c28).1 ?_
        refine And.intro (fun c27 => ?_) (fun c27 => ?_)
        · refine VL_norm km84 k84_8 (VL_at (al := [(0, vR 9 (a0))]) (st := []) km84 k84_8 ?_)
          refine And.intro (((h.2 c30).2.2 c29).1 c28).1 ?_
          refine And.intro (fun c19 => ?_) (fun c19 => ?_)
          · refine VL_norm km84 k84_11 (VL_at (al := [(0, vR 9 (a0))]) (st := []) km84 k84_11 ?_)
            refine And.intro (((h.2 c30).2.2 c29).1 c28).1 ?_
            refine And.intro (fun c15 => ?_) (fun c15 => ?_)
            · refine VL_norm km84 k84_12 (VL_at (al := [(0, vR 9 (a0))]) (st := [vR 9 (a0)]) km84 k84_12 ?_)
              refine VL_norm km84 k84_14 (VL_at (al := [(0, vR 9 (a0))]) (st := [vI (n32 3), vR 9 (a0)]) km84 k84_14 ?_)
              refine VL_norm km84 k84_15 (VL_at (al := []) (st := []) km84 k84_15 ?_)
              exact ((((((h.2 c30).2.2 c29).1 c28).2.1 c27).1 c19).1 c15)
            · refine VL_norm km84 k84_13 (VL_at (al := [(0, vR 9 (a0))]) (st := [vR 9 (a0)]) km84 k84_13 ?_)
              refine VL_norm km84 k84_14 (VL_at (al := [(0, vR 9 (a0))]) (st := [vI (n32 4), vR 9 (a0)]) km84 k84_14 ?_)
              refine VL_norm km84 k84_15 (VL_at (al := []) (st := []) km84 k84_15 ?_)
              exact ((((((h.2 c30).2.2 c29).1 c28).2.1 c27).1 c19).2 c15)
          · refine VL_norm km84 k84_9 (VL_at (al := [(0, vR 9 (a0))]) (st := []) km84 k84_9 ?_)
            refine And.intro (((h.2 c30).2.2 c29).1 c28).1 ?_
            refine And.intro (fun c18 => ?_) (fun c18 => ?_)
            · refine VL_norm km84 k84_11 (VL_at (al := [(0, vR 9 (a0))]) (st := []) km84 k84_11 ?_)
              refine And.intro (((h.2 c30).2.2 c29).1 c28).1 ?_
              refine And.intro (fun c16 => ?_) (fun c16 => ?_)
              · refine VL_norm km84 k84_12 (VL_at (al := [(0, vR 9 (a0))]) (st := [vR 9 (a0)]) km84 k84_12 ?_)
                refine VL_norm km84 k84_14 (VL_at (al := [(0, vR 9 (a0))]) (st := [vI (n32 3), vR 9 (a0)]) km84 k84_14 ?_)
                refine VL_norm km84 k84_15 (VL_at (al := []) (st := []) km84 k84_15 ?_)
                exact (((((((h.2 c30).2.2 c29).1 c28).2.1 c27).2 c19).1 c18).1 c16)
              · refine VL_norm km84 k84_13 (VL_at (al := [(0, vR 9 (a0))]) (st := [vR 9 (a0)]) km84 k84_13 ?_)
                refine VL_norm km84 k84_14 (VL_at (al := [(0, vR 9 (a0))]) (st := [vI (n32 4), vR 9 (a0)]) km84 k84_14 ?_)
                refine VL_norm km84 k84_15 (VL_at (al := []) (st := []) km84 k84_15 ?_)
                exact (((((((h.2 c30).2.2 c29).1 c28).2.1 c27).2 c19).1 c18).2 c16)
            · refine VL_norm km84 k84_10 (VL_at (al := [(0, vR 9 (a0))]) (st := []) km84 k84_10 ?_)
              refine V_mono ((((((h.2 c30).2.2 c29).1 c28).2.1 c27).2 c19).2 c18) (fun u17 m17 h17 => ?_) (fun _ _ h => h)
              refine VL_norm km84 k84_15 (VL_at (al := []) (st := []) km84 k84_15 ?_)
              exact h17
        · refine VL_norm km84 k84_6 (VL_at (al := [(0, vR 9 (a0))]) (st := []) km84 k84_6 ?_)
          refine And.intro (((h.2 c30).2.2 c29).1 c28).1 ?_
          refine And.intro (fun c26 => ?_) (fun c26 => ?_)
          · refine VL_norm km84 k84_8 (VL_at (al := [(0, vR 9 (a0))]) (st := []) km84 k84_8 ?_)
            refine And.intro (((h.2 c30).2.2 c29).1 c28).1 ?_
            refine And.intro (fun c24 => ?_) (fun c24 => ?_)
            · refine VL_norm km84 k84_11 (VL_at (al := [(0, vR 9 (a0))]) (st := []) km84 k84_11 ?_)
              refine And.intro (((h.2 c30).2.2 c29).1 c28).1 ?_
              refine And.intro (fun c20 => ?_) (fun c20 => ?_)
              · refine VL_norm km84 k84_12 (VL_at (al := [(0, vR 9 (a0))]) (st := [vR 9 (a0)]) km84 k84_12 ?_)
                refine VL_norm km84 k84_14 (VL_at (al := [(0, vR 9 (a0))]) (st := [vI (n32 3), vR 9 (a0)]) km84 k84_14 ?_)
                refine VL_norm km84 k84_15 (VL_at (al := []) (st := []) km84 k84_15 ?_)
                exact (((((((h.2 c30).2.2 c29).1 c28).2.2 c27).1 c26).1 c24).1 c20)
              · refine VL_norm km84 k84_13 (VL_at (al := [(0, vR 9 (a0))]) (st := [vR 9 (a0)]) km84 k84_13 ?_)
                refine VL_norm km84 k84_14 (VL_at (al := [(0, vR 9 (a0))]) (st := [vI (n32 4), vR 9 (a0)]) km84 k84_14 ?_)
                refine VL_norm km84 k84_15 (VL_at (al := []) (st := []) km84 k84_15 ?_)
                exact (((((((h.2 c30).2.2 c29).1 c28).2.2 c27).1 c26).1 c24).2 c20)
            · refine VL_norm km84 k84_9 (VL_at (al := [(0, vR 9 (a0))]) (st := []) km84 k84_9 ?_)
              refine And.intro (((h.2 c30).2.2 c29).1 c28).1 ?_
              refine And.intro (fun c23 => ?_) (fun c23 => ?_)
              · refine VL_norm km84 k84_11 (VL_at (al := [(0, vR 9 (a0))]) (st := []) km84 k84_11 ?_)
                refine And.intro (((h.2 c30).2.2 c29).1 c28).1 ?_
                refine And.intro (fun c21 => ?_) (fun c21 => ?_)
                · refine VL_norm km84 k84_12 (VL_at (al := [(0, vR 9 (a0))]) (st := [vR 9 (a0)]) km84 k84_12 ?_)
                  refine VL_norm km84 k84_14 (VL_at (al := [(0, vR 9 (a0))]) (st := [vI (n32 3), vR 9 (a0)]) km84 k84_14 ?_)
                  refine VL_norm km84 k84_15 (VL_at (al := []) (st := []) km84 k84_15 ?_)
                  exact ((((((((h.2 c30).2.2 c29).1 c28).2.2 c27).1 c26).2 c24).1 c23).1 c21)
                · refine VL_norm km84 k84_13 (VL_at (al := [(0, vR 9 (a0))]) (st := [vR 9 (a0)]) km84 k84_13 ?_)
                  refine VL_norm km84 k84_14 (VL_at (al := [(0, vR 9 (a0))]) (st := [vI (n32 4), vR 9 (a0)]) km84 k84_14 ?_)
                  refine VL_norm km84 k84_15 (VL_at (al := []) (st := []) km84 k84_15 ?_)
                  exact ((((((((h.2 c30).2.2 c29).1 c28).2.2 c27).1 c26).2 c24).1 c23).2 c21)
              · refine VL_norm km84 k84_10 (VL_at (al := [(0, vR 9 (a0))]) (st := []) km84 k84_10 ?_)
                refine V_mono (((((((h.2 c30).2.2 c29).1 c28).2.2 c27).1 c26).2 c24).2 c23) (fun u22 m22 h22 => ?_) (fun _ _ h => h)
                refine VL_norm km84 k84_15 (VL_at (al := []) (st := []) km84 k84_15 ?_)
                exact h22
          · refine VL_norm km84 k84_7 (VL_at (al := [(0, vR 9 (a0))]) (st := []) km84 k84_7 ?_)
            refine V_mono (((((h.2 c30).2.2 c29).1 c28).2.2 c27).2 c26) (fun u25 m25 h25 => ?_) (fun _ _ h => h)
            refine VL_norm km84 k84_15 (VL_at (al := []) (st := []) km84 k84_15 ?_)
            exact h25
      · refine VL_norm km84 k84_4 (VL_at (al := [(0, vR 9 (a0))]) (st := []) km84 k84_4 ?_)
        refine VL_norm km84 k84_15 (VL_at (al := []) (st := []) km84 k84_15 ?_)
        exact (((h.2 c30).2.2 c29).2 c28)
/-- BannerParade$Tokens.readWord, label 0 -/
theorem w85_0 {D : Nat} {a0 : Nat} {m : XM} {Q : XM → Prop} {E : Nat → XM → Prop}
    (h : (((m a0 2) ≤ (m a0 4) → (((n32 8) < ((m a0 4) - (m a0 3)) → Q (um m (a0) 5 (n32 4))) ∧ (¬ (n32 8) < ((m a0 4) - (m a0 3)) → Q (um m (a0) 5 (n32 1))))) ∧ (¬ (m a0 2) ≤ (m a0 4) → (xin (m a0 4) 700 = true ∧ (((m (a0 + 1) (ix (m a0 4))) < (n32 97) → (((n32 8) < ((m a0 4) - (m a0 3)) → Q (um m (a0) 5 (n32 4))) ∧ (¬ (n32 8) < ((m a0 4) - (m a0 3)) → Q (um m (a0) 5 (n32 1))))) ∧ (¬ (m (a0 + 1) (ix (m a0 4))) < (n32 97) → (((n32 122) < (m (a0 + 1) (ix (m a0 4))) → (((n32 8) < ((m a0 4) - (m a0 3)) → Q (um m (a0) 5 (n32 4))) ∧ (¬ (n32 8) < ((m a0 4) - (m a0 3)) → Q (um m (a0) 5 (n32 1))))) ∧ (¬ (n32 122) < (m (a0 + 1) (ix (m a0 4))) → VLU D 85 0 [(0, vR 9 (a0))] [] (um m (a0) 4 ((m a0 4) + (n32 1))) Q E)))))))) :
    VU D 85 [vR 9 (a0)] m Q E := by
  refine V_of (VL_at (al := [(0, vR 9 (a0))]) (st := []) km85 k85_0 ?_)
  refine And.intro (fun c6 => ?_) (fun c6 => ?_)
  · refine VL_norm km85 k85_4 (VL_at (al := [(0, vR 9 (a0))]) (st := []) km85 k85_4 ?_)
    refine And.intro (fun c1 => ?_) (fun c1 => ?_)
    · refine VL_norm km85 k85_6 (VL_at (al := []) (st := [vR 9 (a0)]) km85 k85_6 ?_)
      refine VL_norm km85 k85_7 (VL_at (al := []) (st := [vI (n32 4), vR 9 (a0)]) km85 k85_7 ?_)
      exact ((h.1 c6).1 c1)
    · refine VL_norm km85 k85_5 (VL_at (al := []) (st := [vR 9 (a0)]) km85 k85_5 ?_)
      refine VL_norm km85 k85_7 (VL_at (al := []) (st := [vI (n32 1), vR 9 (a0)]) km85 k85_7 ?_)
      exact ((h.1 c6).2 c1)
  · refine VL_norm km85 k85_1 (VL_at (al := [(0, vR 9 (a0))]) (st := []) km85 k85_1 ?_)
    refine And.intro (h.2 c6).1 ?_
    refine And.intro (fun c5 => ?_) (fun c5 => ?_)
    · refine VL_norm km85 k85_4 (VL_at (al := [(0, vR 9 (a0))]) (st := []) km85 k85_4 ?_)
      refine And.intro (fun c2 => ?_) (fun c2 => ?_)
      · refine VL_norm km85 k85_6 (VL_at (al := []) (st := [vR 9 (a0)]) km85 k85_6 ?_)
        refine VL_norm km85 k85_7 (VL_at (al := []) (st := [vI (n32 4), vR 9 (a0)]) km85 k85_7 ?_)
        exact (((h.2 c6).2.1 c5).1 c2)
      · refine VL_norm km85 k85_5 (VL_at (al := []) (st := [vR 9 (a0)]) km85 k85_5 ?_)
        refine VL_norm km85 k85_7 (VL_at (al := []) (st := [vI (n32 1), vR 9 (a0)]) km85 k85_7 ?_)
        exact (((h.2 c6).2.1 c5).2 c2)
    · refine VL_norm km85 k85_2 (VL_at (al := [(0, vR 9 (a0))]) (st := []) km85 k85_2 ?_)
      refine And.intro (h.2 c6).1 ?_
      refine And.intro (fun c4 => ?_) (fun c4 => ?_)
      · refine VL_norm km85 k85_4 (VL_at (al := [(0, vR 9 (a0))]) (st := []) km85 k85_4 ?_)
        refine And.intro (fun c3 => ?_) (fun c3 => ?_)
        · refine VL_norm km85 k85_6 (VL_at (al := []) (st := [vR 9 (a0)]) km85 k85_6 ?_)
          refine VL_norm km85 k85_7 (VL_at (al := []) (st := [vI (n32 4), vR 9 (a0)]) km85 k85_7 ?_)
          exact ((((h.2 c6).2.2 c5).1 c4).1 c3)
        · refine VL_norm km85 k85_5 (VL_at (al := []) (st := [vR 9 (a0)]) km85 k85_5 ?_)
          refine VL_norm km85 k85_7 (VL_at (al := []) (st := [vI (n32 1), vR 9 (a0)]) km85 k85_7 ?_)
          exact ((((h.2 c6).2.2 c5).1 c4).2 c3)
      · refine VL_norm km85 k85_3 (VL_at (al := [(0, vR 9 (a0))]) (st := []) km85 k85_3 ?_)
        exact VL_norm km85 k85_0 (((h.2 c6).2.2 c5).2 c4)
/-- BannerParade$Tokens.readDigits, label 0 -/
theorem w86_0 {D : Nat} {a0 : Nat} {m : XM} {Q : XM → Prop} {E : Nat → XM → Prop}
    (h : VLU D 86 1 [(0, vR 9 (a0))] [] (um m (a0) 6 (n32 0)) Q E) :
    VU D 86 [vR 9 (a0)] m Q E := by
  refine V_of (VL_at (al := [(0, vR 9 (a0))]) (st := []) km86 k86_0 ?_)
  exact VL_norm km86 k86_1 h
/-- BannerParade$Tokens.readDigits, label 1 -/
theorem w86_1 {D : Nat} {a0 : Nat} {m : XM} {Q : XM → Prop} {E : Nat → XM → Prop}
    (h : (((m a0 2) ≤ (m a0 4) → (((n32 4) < ((m a0 4) - (m a0 3)) → Q (um m (a0) 5 (n32 4))) ∧ (¬ (n32 4) < ((m a0 4) - (m a0 3)) → Q (um m (a0) 5 (n32 2))))) ∧ (¬ (m a0 2) ≤ (m a0 4) → (xin (m a0 4) 700 = true ∧ (((m (a0 + 1) (ix (m a0 4))) < (n32 48) → (((n32 4) < ((m a0 4) - (m a0 3)) → Q (um m (a0) 5 (n32 4))) ∧ (¬ (n32 4) < ((m a0 4) - (m a0 3)) → Q (um m (a0) 5 (n32 2))))) ∧ (¬ (m (a0 + 1) (ix (m a0 4))) < (n32 48) → (((n32 57) < (m (a0 + 1) (ix (m a0 4))) → (((n32 4) < ((m a0 4) - (m a0 3)) → Q (um m (a0) 5 (n32 4))) ∧ (¬ (n32 4) < ((m a0 4) - (m a0 3)) → Q (um m (a0) 5 (n32 2))))) ∧ (¬ (n32 57) < (m (a0 + 1) (ix (m a0 4))) → (∀ μ4 : XM, μ4 = um (um m (a0) 6 ((((m a0 6) * (n32 10)) + (m (a0 + 1) (ix (m a0 4)))) - (n32 48))) (a0) 4 (((um m (a0) 6 ((((m a0 6) * (n32 10)) + (m (a0 + 1) (ix (m a0 4)))) - (n32 48))) a0 4) + (n32 1)) → VLU D 86 1 [(0, vR 9 (a0))] [] μ4 Q E))))))))) :
    VLU D 86 1 [(0, vR 9 (a0))] [] m Q E := by
  refine VL_at (al := [(0, vR 9 (a0))]) (st := []) km86 k86_1 ?_
  refine And.intro (fun c7 => ?_) (fun c7 => ?_)
  · refine VL_norm km86 k86_5 (VL_at (al := [(0, vR 9 (a0))]) (st := []) km86 k86_5 ?_)
    refine And.intro (fun c1 => ?_) (fun c1 => ?_)
    · refine VL_norm km86 k86_7 (VL_at (al := []) (st := [vR 9 (a0)]) km86 k86_7 ?_)
      refine VL_norm km86 k86_8 (VL_at (al := []) (st := [vI (n32 4), vR 9 (a0)]) km86 k86_8 ?_)
      exact ((h.1 c7).1 c1)
    · refine VL_norm km86 k86_6 (VL_at (al := []) (st := [vR 9 (a0)]) km86 k86_6 ?_)
      refine VL_norm km86 k86_8 (VL_at (al := []) (st := [vI (n32 2), vR 9 (a0)]) km86 k86_8 ?_)
      exact ((h.1 c7).2 c1)
  · refine VL_norm km86 k86_2 (VL_at (al := [(0, vR 9 (a0))]) (st := []) km86 k86_2 ?_)
    refine And.intro (h.2 c7).1 ?_
    refine And.intro (fun c6 => ?_) (fun c6 => ?_)
    · refine VL_norm km86 k86_5 (VL_at (al := [(0, vR 9 (a0))]) (st := []) km86 k86_5 ?_)
      refine And.intro (fun c2 => ?_) (fun c2 => ?_)
      · refine VL_norm km86 k86_7 (VL_at (al := []) (st := [vR 9 (a0)]) km86 k86_7 ?_)
        refine VL_norm km86 k86_8 (VL_at (al := []) (st := [vI (n32 4), vR 9 (a0)]) km86 k86_8 ?_)
        exact (((h.2 c7).2.1 c6).1 c2)
      · refine VL_norm km86 k86_6 (VL_at (al := []) (st := [vR 9 (a0)]) km86 k86_6 ?_)
        refine VL_norm km86 k86_8 (VL_at (al := []) (st := [vI (n32 2), vR 9 (a0)]) km86 k86_8 ?_)
        exact (((h.2 c7).2.1 c6).2 c2)
    · refine VL_norm km86 k86_3 (VL_at (al := [(0, vR 9 (a0))]) (st := []) km86 k86_3 ?_)
      refine And.intro (h.2 c7).1 ?_
      refine And.intro (fun c5 => ?_) (fun c5 => ?_)
      · refine VL_norm km86 k86_5 (VL_at (al := [(0, vR 9 (a0))]) (st := []) km86 k86_5 ?_)
        refine And.intro (fun c3 => ?_) (fun c3 => ?_)
        · refine VL_norm km86 k86_7 (VL_at (al := []) (st := [vR 9 (a0)]) km86 k86_7 ?_)
          refine VL_norm km86 k86_8 (VL_at (al := []) (st := [vI (n32 4), vR 9 (a0)]) km86 k86_8 ?_)
          exact ((((h.2 c7).2.2 c6).1 c5).1 c3)
        · refine VL_norm km86 k86_6 (VL_at (al := []) (st := [vR 9 (a0)]) km86 k86_6 ?_)
          refine VL_norm km86 k86_8 (VL_at (al := []) (st := [vI (n32 2), vR 9 (a0)]) km86 k86_8 ?_)
          exact ((((h.2 c7).2.2 c6).1 c5).2 c3)
      · refine VL_norm km86 k86_4 (VL_at (al := [(0, vR 9 (a0))]) (st := []) km86 k86_4 ?_)
        refine And.intro (h.2 c7).1 ?_
        exact VL_norm km86 k86_1 ((((h.2 c7).2.2 c6).2 c5) (um (um m (a0) 6 ((((m a0 6) * (n32 10)) + (m (a0 + 1) (ix (m a0 4)))) - (n32 48))) (a0) 4 (((um m (a0) 6 ((((m a0 6) * (n32 10)) + (m (a0 + 1) (ix (m a0 4)))) - (n32 48))) a0 4) + (n32 1))) rfl)
/-- BannerParade$Tokens.byteOfToken, label 0 -/
theorem w88_0 {D : Nat} {a0 : Nat} {v1 : Int32} {m : XM} {Q : Int32 → XM → Prop} {E : Nat → XM → Prop}
    (h : ((v1 < (n32 0) → Q (-(n32 1)) m) ∧ (¬ v1 < (n32 0) → ((((m a0 3) + v1) < (n32 0) → Q (-(n32 1)) m) ∧ (¬ ((m a0 3) + v1) < (n32 0) → (((m a0 4) ≤ ((m a0 3) + v1) → Q (-(n32 1)) m) ∧ (¬ (m a0 4) ≤ ((m a0 3) + v1) → (((n32 700) ≤ ((m a0 3) + v1) → Q (-(n32 1)) m) ∧ (¬ (n32 700) ≤ ((m a0 3) + v1) → (xin ((m a0 3) + v1) 700 = true ∧ Q (m (a0 + 1) (ix ((m a0 3) + v1))) m)))))))))) :
    VI D 88 [vR 9 (a0), vI v1] m Q E := by
  refine V_of (VL_at (al := [(0, vR 9 (a0)), (1, vI v1)]) (st := []) km88 k88_0 ?_)
  refine And.intro (fun c4 => ?_) (fun c4 => ?_)
  · refine VL_norm km88 k88_5 (VL_at (al := []) (st := []) km88 k88_5 ?_)
    refine VL_norm km88 k88_6 (VL_at (al := []) (st := [vI (-(n32 1))]) km88 k88_6 ?_)
    exact (h.1 c4)
  · refine VL_norm km88 k88_1 (VL_at (al := [(0, vR 9 (a0)), (2, vI ((m a0 3) + v1))]) (st := []) km88 k88_1 ?_)
    refine And.intro (fun c3 => ?_) (fun c3 => ?_)
    · refine VL_norm km88 k88_5 (VL_at (al := []) (st := []) km88 k88_5 ?_)
      refine VL_norm km88 k88_6 (VL_at (al := []) (st := [vI (-(n32 1))]) km88 k88_6 ?_)
      exact ((h.2 c4).1 c3)
    · refine VL_norm km88 k88_2 (VL_at (al := [(0, vR 9 (a0)), (2, vI ((m a0 3) + v1))]) (st := []) km88 k88_2 ?_)
      refine And.intro (fun c2 => ?_) (fun c2 => ?_)
      · refine VL_norm km88 k88_5 (VL_at (al := []) (st := []) km88 k88_5 ?_)
        refine VL_norm km88 k88_6 (VL_at (al := []) (st := [vI (-(n32 1))]) km88 k88_6 ?_)
        exact (((h.2 c4).2 c3).1 c2)
      · refine VL_norm km88 k88_3 (VL_at (al := [(0, vR 9 (a0)), (2, vI ((m a0 3) + v1))]) (st := []) km88 k88_3 ?_)
        refine And.intro (fun c1 => ?_) (fun c1 => ?_)
        · refine VL_norm km88 k88_5 (VL_at (al := []) (st := []) km88 k88_5 ?_)
          refine VL_norm km88 k88_6 (VL_at (al := []) (st := [vI (-(n32 1))]) km88 k88_6 ?_)
          exact ((((h.2 c4).2 c3).2 c2).1 c1)
        · refine VL_norm km88 k88_4 (VL_at (al := [(0, vR 9 (a0)), (2, vI ((m a0 3) + v1))]) (st := []) km88 k88_4 ?_)
          refine And.intro ((((h.2 c4).2 c3).2 c2).2 c1).1 ?_
          refine VL_norm km88 k88_6 (VL_at (al := []) (st := [vI (m (a0 + 1) (ix ((m a0 3) + v1)))]) km88 k88_6 ?_)
          exact ((((h.2 c4).2 c3).2 c2).2 c1).2
/-- BannerParade$Tokens.isWord, label 0 -/
theorem w89_0 {D : Nat} {a0 : Nat} {a1 : Nat} {m : XM} {Q : Int32 → XM → Prop} {E : Nat → XM → Prop}
    (h : (((m a0 5) = (n32 1) → VI (D + 3) 391 [vR 30 (a1)] m (fun x1 m1 => ((((m a0 4) - (m a0 3)) = x1 → VLI (D + 4) 89 3 [(0, vR 9 (a0)), (1, vR 30 (a1)), (2, vI (n32 0))] [] m1 Q E) ∧ (¬ ((m a0 4) - (m a0 3)) = x1 → Q (n32 0) m1))) E) ∧ (¬ (m a0 5) = (n32 1) → VI (D + 3) 391 [vR 30 (a1)] m (fun x3 m3 => (((n32 0) = x3 → VLI (D + 4) 89 3 [(0, vR 9 (a0)), (1, vR 30 (a1)), (2, vI (n32 0))] [] m3 Q E) ∧ (¬ (n32 0) = x3 → Q (n32 0) m3))) E))) :
    VI (D + 4) 89 [vR 9 (a0), vR 30 (a1)] m Q E := by
  refine V_of (VL_at (al := [(0, vR 9 (a0)), (1, vR 30 (a1))]) (st := []) km89 k89_0 ?_)
  refine V_of ?_
  refine VL_norm km87 k87_0 (VL_at (al := [(0, vR 9 (a0))]) (st := []) km87 k87_0 ?_)
  refine And.intro (fun c5 => ?_) (fun c5 => ?_)
  · refine VL_norm km87 k87_1 (VL_at (al := [(0, vR 9 (a0))]) (st := []) km87 k87_1 ?_)
    refine VL_norm km87 k87_3 (VL_at (al := []) (st := [vI ((m a0 4) - (m a0 3))]) km87 k87_3 ?_)
    refine V_mono (h.1 c5) (fun u1 m1 h1 => ?_) (fun _ _ h => h)
    refine And.intro (fun c2 => ?_) (fun c2 => ?_)
    · refine VL_norm km89 k89_2 (VL_at (al := [(0, vR 9 (a0)), (1, vR 30 (a1))]) (st := []) km89 k89_2 ?_)
      exact VL_norm km89 k89_3 (h1.1 c2)
    · refine VL_norm km89 k89_1 (VL_at (al := []) (st := []) km89 k89_1 ?_)
      refine And.intro xrt20 ?_
      exact (h1.2 c2)
  · refine VL_norm km87 k87_2 (VL_at (al := []) (st := []) km87 k87_2 ?_)
    refine VL_norm km87 k87_3 (VL_at (al := []) (st := [vI (n32 0)]) km87 k87_3 ?_)
    refine V_mono (h.2 c5) (fun u3 m3 h3 => ?_) (fun _ _ h => h)
    refine And.intro (fun c4 => ?_) (fun c4 => ?_)
    · refine VL_norm km89 k89_2 (VL_at (al := [(0, vR 9 (a0)), (1, vR 30 (a1))]) (st := []) km89 k89_2 ?_)
      exact VL_norm km89 k89_3 (h3.1 c4)
    · refine VL_norm km89 k89_1 (VL_at (al := []) (st := []) km89 k89_1 ?_)
      refine And.intro xrt20 ?_
      exact (h3.2 c4)
/-- BannerParade$Tokens.isWord, label 3 -/
theorem w89_3 {D : Nat} {a0 : Nat} {a1 : Nat} {v2 : Int32} {m : XM} {Q : Int32 → XM → Prop} {E : Nat → XM → Prop}
    (h : VI (D + 3) 391 [vR 30 (a1)] m (fun x1 m1 => ((x1 ≤ v2 → Q (n32 1) m1) ∧ (¬ x1 ≤ v2 → VI (D + 3) 88 [vR 9 (a0), vI v2] m1 (fun x2 m2 => VI (D + 3) 392 [vR 30 (a1), vI v2] m2 (fun x3 m3 => ((x2 = x3 → VLI (D + 4) 89 3 [(0, vR 9 (a0)), (1, vR 30 (a1)), (2, vI (v2 + (n32 1)))] [] m3 Q E) ∧ (¬ x2 = x3 → Q (n32 0) m3))) E) E))) E) :
    VLI (D + 4) 89 3 [(0, vR 9 (a0)), (1, vR 30 (a1)), (2, vI v2)] [] m Q E := by
  refine VL_at (al := [(0, vR 9 (a0)), (1, vR 30 (a1)), (2, vI v2)]) (st := []) km89 k89_3 ?_
  refine V_mono h (fun u1 m1 h1 => ?_) (fun _ _ h => h)
  refine And.intro (fun c5 => ?_) (fun c5 => ?_)
  · refine VL_norm km89 k89_7 (VL_at (al := []) (st := []) km89 k89_7 ?_)
    refine And.intro xrt21 ?_
    exact (h1.1 c5)
  · refine VL_norm km89 k89_4 (VL_at (al := [(0, vR 9 (a0)), (1, vR 30 (a1)), (2, vI v2)]) (st := []) km89 k89_4 ?_)
    refine V_mono (h1.2 c5) (fun u2 m2 h2 => ?_) (fun _ _ h => h)
    refine V_mono h2 (fun u3 m3 h3 => ?_) (fun _ _ h => h)
    refine And.intro (fun c4 => ?_) (fun c4 => ?_)
    · refine VL_norm km89 k89_6 (VL_at (al := [(0, vR 9 (a0)), (1, vR 30 (a1)), (2, vI v2)]) (st := []) km89 k89_6 ?_)
      exact VL_norm km89 k89_3 (h3.1 c4)
    · refine VL_norm km89 k89_5 (VL_at (al := []) (st := []) km89 k89_5 ?_)
      refine And.intro xrt20 ?_
      exact (h3.2 c4)
/-- BannerParade.append, label 0 -/
theorem w91_0 {D : Nat} {v1 : Int32} {v2 : Int32} {v3 : Int32} {v4 : Int32} {v5 : Int32} {m : XM} {Q : Int32 → XM → Prop} {E : Nat → XM → Prop}
    (h : VI (D + 1) 81 [vR 9 (1 + 1), vI v1, vI v2, vI v3, vI v4, vI v5] m (fun x1 m1 => Q x1 m1) E) :
    VI (D + 2) 91 [vR 10 (0), vI v1, vI v2, vI v3, vI v4, vI v5] m Q E := by
  refine V_of (VL_at (al := [(0, vR 10 (0)), (1, vI v1), (2, vI v2), (3, vI v3), (4, vI v4), (5, vI v5)]) (st := []) km91 k91_0 ?_)
  refine V_mono h (fun u1 m1 h1 => ?_) (fun _ _ h => h)
  exact h1
/-- BannerParade.load, label 0 -/
theorem w92_0 {D : Nat} {v1 : Int32} {m : XM} {Q : Int32 → XM → Prop} {E : Nat → XM → Prop}
    (h : ((v1 < (n32 0) → E 2 m) ∧ (¬ v1 < (n32 0) → ((v1 ≤ (m (1 + 1) 1) → VI (D + 7) 19 [vR 3 (1), vI v1] m (fun x1 m1 => ((x1 = (n32 0) → E 1 (um m1 (1 + 1) 1 (n32 0))) ∧ (¬ x1 = (n32 0) → VU (D + 7) 68 [vR 8 (29), vR 8 (1 + 3)] (um m1 (1 + 1) 1 (n32 0)) (fun m2 => VU (D + 7) 42 [vR 6 (69), vR 6 (1 + 23)] m2 (fun m3 => VU (D + 7) 12 [vR 2 (74)] (um (um m3 (74) 0 (n32 0)) (74) 1 (n32 0)) (fun m4 => Q ((um m4 (0) 7 (n32 1)) (29 + 3) 0) (um m4 (0) 7 (n32 1))) E) E) E))) E) ∧ (¬ v1 ≤ (m (1 + 1) 1) → E 2 m))))) :
    VI (D + 8) 92 [vR 10 (0), vI v1] m Q E := by
  refine V_of (VL_at (al := [(0, vR 10 (0)), (1, vI v1)]) (st := []) km92 k92_0 ?_)
  refine And.intro (fun c7 => ?_) (fun c7 => ?_)
  · refine VL_norm km92 k92_2 (VL_at (al := []) (st := []) km92 k92_2 ?_)
    exact (h.1 c7)
  · refine VL_norm km92 k92_1 (VL_at (al := [(0, vR 10 (0)), (1, vI v1)]) (st := []) km92 k92_1 ?_)
    refine And.intro (fun c6 => ?_) (fun c6 => ?_)
    · refine VL_norm km92 k92_3 (VL_at (al := [(0, vR 10 (0)), (1, vI v1)]) (st := []) km92 k92_3 ?_)
      refine V_mono ((h.2 c7).1 c6) (fun u1 m1 h1 => ?_) (fun _ _ h => h)
      refine V_of ?_
      refine VL_norm km160 k160_0 (VL_at (al := [(0, vI (xti u1))]) (st := []) km160 k160_0 ?_)
      refine And.intro (fun c5 => ?_) (fun c5 => ?_)
      · refine VL_norm km160 k160_1 (VL_at (al := []) (st := []) km160 k160_1 ?_)
        exact (h1.1 c5)
      · refine VL_norm km160 k160_2 (VL_at (al := []) (st := []) km160 k160_2 ?_)
        refine V_mono (h1.2 c5) (fun u2 m2 h2 => ?_) (fun _ _ h => h)
        refine V_mono h2 (fun u3 m3 h3 => ?_) (fun _ _ h => h)
        refine V_of ?_
        refine VL_norm km11 k11_0 (VL_at (al := [(0, vR 2 (74))]) (st := []) km11 k11_0 ?_)
        refine V_mono h3 (fun u4 m4 h4 => ?_) (fun _ _ h => h)
        refine And.intro (Or.inr rfl) ?_
        exact h4
    · refine VL_norm km92 k92_2 (VL_at (al := []) (st := []) km92 k92_2 ?_)
      exact ((h.2 c7).2 c6)
/-- BannerParade.count, label 0 -/
theorem w96_0 {D : Nat} {v1 : Int32} {m : XM} {Q : Int32 → XM → Prop} {E : Nat → XM → Prop}
    (h : (((m 0 7) = (n32 0) → E 0 m) ∧ (¬ (m 0 7) = (n32 0) → ((v1 < (n32 0) → E 1 m) ∧ (¬ v1 < (n32 0) → (((n32 16) < v1 → E 1 m) ∧ (¬ (n32 16) < v1 → ((v1 = (n32 0) → Q (m (29 + 3) 0) m) ∧ (¬ v1 = (n32 0) → ((v1 = (n32 1) → Q (m 69 0) m) ∧ (¬ v1 = (n32 1) → ((v1 = (n32 2) → Q (m (29 + 16) 0) m) ∧ (¬ v1 = (n32 2) → ((v1 = (n32 3) → Q (m 29 0) m) ∧ (¬ v1 = (n32 3) → ((v1 = (n32 4) → VI (D + 3) 55 [vR 7 (29 + 3)] m (fun x1 m1 => Q x1 m1) E) ∧ (¬ v1 = (n32 4) → ((v1 = (n32 5) → Q (m (29 + 12) 0) m) ∧ (¬ v1 = (n32 5) → ((v1 = (n32 6) → Q (m 29 1) m) ∧ (¬ v1 = (n32 6) → ((v1 = (n32 7) → VI (D + 3) 30 [vR 4 (29 + 16), vI (n32 2)] m (fun x2 m2 => Q x2 m2) E) ∧ (¬ v1 = (n32 7) → ((v1 = (n32 8) → Q (m 29 2) m) ∧ (¬ v1 = (n32 8) → ((v1 = (n32 9) → Q (m 29 3) m) ∧ (¬ v1 = (n32 9) → ((v1 = (n32 10) → VI (D + 3) 166 [vR 10 (0)] m (fun x3 m3 => Q ((((((((x3 - (((x3).toUInt32 >>> (((n32 1)).toUInt32 &&& Int32.toUInt32 31)).toInt32 &&& (n32 1431655765))) &&& (n32 858993459)) + ((((x3 - (((x3).toUInt32 >>> (((n32 1)).toUInt32 &&& Int32.toUInt32 31)).toInt32 &&& (n32 1431655765)))).toUInt32 >>> (((n32 2)).toUInt32 &&& Int32.toUInt32 31)).toInt32 &&& (n32 858993459))) + (((((x3 - (((x3).toUInt32 >>> (((n32 1)).toUInt32 &&& Int32.toUInt32 31)).toInt32 &&& (n32 1431655765))) &&& (n32 858993459)) + ((((x3 - (((x3).toUInt32 >>> (((n32 1)).toUInt32 &&& Int32.toUInt32 31)).toInt32 &&& (n32 1431655765)))).toUInt32 >>> (((n32 2)).toUInt32 &&& Int32.toUInt32 31)).toInt32 &&& (n32 858993459)))).toUInt32 >>> (((n32 4)).toUInt32 &&& Int32.toUInt32 31)).toInt32) &&& (n32 252645135)) + (((((((x3 - (((x3).toUInt32 >>> (((n32 1)).toUInt32 &&& Int32.toUInt32 31)).toInt32 &&& (n32 1431655765))) &&& (n32 858993459)) + ((((x3 - (((x3).toUInt32 >>> (((n32 1)).toUInt32 &&& Int32.toUInt32 31)).toInt32 &&& (n32 1431655765)))).toUInt32 >>> (((n32 2)).toUInt32 &&& Int32.toUInt32 31)).toInt32 &&& (n32 858993459))) + (((((x3 - (((x3).toUInt32 >>> (((n32 1)).toUInt32 &&& Int32.toUInt32 31)).toInt32 &&& (n32 1431655765))) &&& (n32 858993459)) + ((((x3 - (((x3).toUInt32 >>> (((n32 1)).toUInt32 &&& Int32.toUInt32 31)).toInt32 &&& (n32 1431655765)))).toUInt32 >>> (((n32 2)).toUInt32 &&& Int32.toUInt32 31)).toInt32 &&& (n32 858993459)))).toUInt32 >>> (((n32 4)).toUInt32 &&& Int32.toUInt32 31)).toInt32) &&& (n32 252645135))).toUInt32 >>> (((n32 8)).toUInt32 &&& Int32.toUInt32 31)).toInt32) + ((((((((x3 - (((x3).toUInt32 >>> (((n32 1)).toUInt32 &&& Int32.toUInt32 31)).toInt32 &&& (n32 1431655765))) &&& (n32 858993459)) + ((((x3 - (((x3).toUInt32 >>> (((n32 1)).toUInt32 &&& Int32.toUInt32 31)).toInt32 &&& (n32 1431655765)))).toUInt32 >>> (((n32 2)).toUInt32 &&& Int32.toUInt32 31)).toInt32 &&& (n32 858993459))) + (((((x3 - (((x3).toUInt32 >>> (((n32 1)).toUInt32 &&& Int32.toUInt32 31)).toInt32 &&& (n32 1431655765))) &&& (n32 858993459)) + ((((x3 - (((x3).toUInt32 >>> (((n32 1)).toUInt32 &&& Int32.toUInt32 31)).toInt32 &&& (n32 1431655765)))).toUInt32 >>> (((n32 2)).toUInt32 &&& Int32.toUInt32 31)).toInt32 &&& (n32 858993459)))).toUInt32 >>> (((n32 4)).toUInt32 &&& Int32.toUInt32 31)).toInt32) &&& (n32 252645135)) + (((((((x3 - (((x3).toUInt32 >>> (((n32 1)).toUInt32 &&& Int32.toUInt32 31)).toInt32 &&& (n32 1431655765))) &&& (n32 858993459)) + ((((x3 - (((x3).toUInt32 >>> (((n32 1)).toUInt32 &&& Int32.toUInt32 31)).toInt32 &&& (n32 1431655765)))).toUInt32 >>> (((n32 2)).toUInt32 &&& Int32.toUInt32 31)).toInt32 &&& (n32 858993459))) + (((((x3 - (((x3).toUInt32 >>> (((n32 1)).toUInt32 &&& Int32.toUInt32 31)).toInt32 &&& (n32 1431655765))) &&& (n32 858993459)) + ((((x3 - (((x3).toUInt32 >>> (((n32 1)).toUInt32 &&& Int32.toUInt32 31)).toInt32 &&& (n32 1431655765)))).toUInt32 >>> (((n32 2)).toUInt32 &&& Int32.toUInt32 31)).toInt32 &&& (n32 858993459)))).toUInt32 >>> (((n32 4)).toUInt32 &&& Int32.toUInt32 31)).toInt32) &&& (n32 252645135))).toUInt32 >>> (((n32 8)).toUInt32 &&& Int32.toUInt32 31)).toInt32)).toUInt32 >>> (((n32 16)).toUInt32 &&& Int32.toUInt32 31)).toInt32) &&& (n32 63)) m3) E) ∧ (¬ v1 = (n32 10) → ((v1 = (n32 11) → VI (D + 3) 30 [vR 4 (29 + 16), vI (n32 0)] m (fun x4 m4 => Q x4 m4) E) ∧ (¬ v1 = (n32 11) → ((v1 = (n32 12) → VI (D + 3) 62 [vR 7 (29 + 3), vI (n32 0)] m (fun x5 m5 => Q ((((((((x5 - (((x5).toUInt32 >>> (((n32 1)).toUInt32 &&& Int32.toUInt32 31)).toInt32 &&& (n32 1431655765))) &&& (n32 858993459)) + ((((x5 - (((x5).toUInt32 >>> (((n32 1)).toUInt32 &&& Int32.toUInt32 31)).toInt32 &&& (n32 1431655765)))).toUInt32 >>> (((n32 2)).toUInt32 &&& Int32.toUInt32 31)).toInt32 &&& (n32 858993459))) + (((((x5 - (((x5).toUInt32 >>> (((n32 1)).toUInt32 &&& Int32.toUInt32 31)).toInt32 &&& (n32 1431655765))) &&& (n32 858993459)) + ((((x5 - (((x5).toUInt32 >>> (((n32 1)).toUInt32 &&& Int32.toUInt32 31)).toInt32 &&& (n32 1431655765)))).toUInt32 >>> (((n32 2)).toUInt32 &&& Int32.toUInt32 31)).toInt32 &&& (n32 858993459)))).toUInt32 >>> (((n32 4)).toUInt32 &&& Int32.toUInt32 31)).toInt32) &&& (n32 252645135)) + (((((((x5 - (((x5).toUInt32 >>> (((n32 1)).toUInt32 &&& Int32.toUInt32 31)).toInt32 &&& (n32 1431655765))) &&& (n32 858993459)) + ((((x5 - (((x5).toUInt32 >>> (((n32 1)).toUInt32 &&& Int32.toUInt32 31)).toInt32 &&& (n32 1431655765)))).toUInt32 >>> (((n32 2)).toUInt32 &&& Int32.toUInt32 31)).toInt32 &&& (n32 858993459))) + (((((x5 - (((x5).toUInt32 >>> (((n32 1)).toUInt32 &&& Int32.toUInt32 31)).toInt32 &&& (n32 1431655765))) &&& (n32 858993459)) + ((((x5 - (((x5).toUInt32 >>> (((n32 1)).toUInt32 &&& Int32.toUInt32 31)).toInt32 &&& (n32 1431655765)))).toUInt32 >>> (((n32 2)).toUInt32 &&& Int32.toUInt32 31)).toInt32 &&& (n32 858993459)))).toUInt32 >>> (((n32 4)).toUInt32 &&& Int32.toUInt32 31)).toInt32) &&& (n32 252645135))).toUInt32 >>> (((n32 8)).toUInt32 &&& Int32.toUInt32 31)).toInt32) + ((((((((x5 - (((x5).toUInt32 >>> (((n32 1)).toUInt32 &&& Int32.toUInt32 31)).toInt32 &&& (n32 1431655765))) &&& (n32 858993459)) + ((((x5 - (((x5).toUInt32 >>> (((n32 1)).toUInt32 &&& Int32.toUInt32 31)).toInt32 &&& (n32 1431655765)))).toUInt32 >>> (((n32 2)).toUInt32 &&& Int32.toUInt32 31)).toInt32 &&& (n32 858993459))) + (((((x5 - (((x5).toUInt32 >>> (((n32 1)).toUInt32 &&& Int32.toUInt32 31)).toInt32 &&& (n32 1431655765))) &&& (n32 858993459)) + ((((x5 - (((x5).toUInt32 >>> (((n32 1)).toUInt32 &&& Int32.toUInt32 31)).toInt32 &&& (n32 1431655765)))).toUInt32 >>> (((n32 2)).toUInt32 &&& Int32.toUInt32 31)).toInt32 &&& (n32 858993459)))).toUInt32 >>> (((n32 4)).toUInt32 &&& Int32.toUInt32 31)).toInt32) &&& (n32 252645135)) + (((((((x5 - (((x5).toUInt32 >>> (((n32 1)).toUInt32 &&& Int32.toUInt32 31)).toInt32 &&& (n32 1431655765))) &&& (n32 858993459)) + ((((x5 - (((x5).toUInt32 >>> (((n32 1)).toUInt32 &&& Int32.toUInt32 31)).toInt32 &&& (n32 1431655765)))).toUInt32 >>> (((n32 2)).toUInt32 &&& Int32.toUInt32 31)).toInt32 &&& (n32 858993459))) + (((((x5 - (((x5).toUInt32 >>> (((n32 1)).toUInt32 &&& Int32.toUInt32 31)).toInt32 &&& (n32 1431655765))) &&& (n32 858993459)) + ((((x5 - (((x5).toUInt32 >>> (((n32 1)).toUInt32 &&& Int32.toUInt32 31)).toInt32 &&& (n32 1431655765)))).toUInt32 >>> (((n32 2)).toUInt32 &&& Int32.toUInt32 31)).toInt32 &&& (n32 858993459)))).toUInt32 >>> (((n32 4)).toUInt32 &&& Int32.toUInt32 31)).toInt32) &&& (n32 252645135))).toUInt32 >>> (((n32 8)).toUInt32 &&& Int32.toUInt32 31)).toInt32)).toUInt32 >>> (((n32 16)).toUInt32 &&& Int32.toUInt32 31)).toInt32) &&& (n32 63)) m5) E) ∧ (¬ v1 = (n32 12) → ((v1 = (n32 13) → VI (D + 3) 57 [vR 7 (29 + 3)] m (fun x6 m6 => Q x6 m6) E) ∧ (¬ v1 = (n32 13) → ((v1 = (n32 14) → VI (D + 3) 58 [vR 7 (29 + 3), vI (m (29 + 1) (ix (n32 0)))] m (fun x7 m7 => Q x7 m7) E) ∧ (¬ v1 = (n32 14) → ((v1 = (n32 15) → VI (D + 3) 59 [vR 7 (29 + 3)] m (fun x8 m8 => Q x8 m8) E) ∧ (¬ v1 = (n32 15) → VI (D + 3) 167 [vR 10 (0)] m (fun x9 m9 => Q x9 m9) E))))))))))))))))))))))))))))))))))))))) :
    VI (D + 4) 96 [vR 10 (0), vI v1] m Q E := by
  refine V_of (VL_at (al := [(0, vR 10 (0)), (1, vI v1)]) (st := []) km96 k96_0 ?_)
  refine V_of ?_
  refine VL_norm km155 k155_0 (VL_at (al := [(0, vR 10 (0))]) (st := []) km155 k155_0 ?_)
  refine And.intro (fun c28 => ?_) (fun c28 => ?_)
  · refine VL_norm km155 k155_1 (VL_at (al := []) (st := []) km155 k155_1 ?_)
    exact (h.1 c28)
  · refine VL_norm km155 k155_2 (VL_at (al := []) (st := []) km155 k155_2 ?_)
    refine V_of ?_
    refine VL_norm km159 k159_0 (VL_at (al := [(0, vI v1), (1, vI (n32 0)), (2, vI (n32 16))]) (st := []) km159 k159_0 ?_)
    refine And.intro (fun c27 => ?_) (fun c27 => ?_)
    · refine VL_norm km159 k159_3 (VL_at (al := []) (st := []) km159 k159_3 ?_)
      refine VL_norm km159 k159_4 (VL_at (al := []) (st := [vI (n32 0)]) km159 k159_4 ?_)
      refine V_of ?_
      refine VL_norm km160 k160_0 (VL_at (al := [(0, vI (n32 0))]) (st := []) km160 k160_0 ?_)
      refine And.intro (fun _ => ?_) (fun c => absurd (by decide) c)
      refine VL_norm km160 k160_1 (VL_at (al := []) (st := []) km160 k160_1 ?_)
      exact ((h.2 c28).1 c27)
    · refine VL_norm km159 k159_1 (VL_at (al := [(0, vI v1), (2, vI (n32 16))]) (st := []) km159 k159_1 ?_)
      refine And.intro (fun c26 => ?_) (fun c26 => ?_)
      · refine VL_norm km159 k159_3 (VL_at (al := []) (st := []) km159 k159_3 ?_)
        refine VL_norm km159 k159_4 (VL_at (al := []) (st := [vI (n32 0)]) km159 k159_4 ?_)
        refine V_of ?_
        refine VL_norm km160 k160_0 (VL_at (al := [(0, vI (n32 0))]) (st := []) km160 k160_0 ?_)
        refine And.intro (fun _ => ?_) (fun c => absurd (by decide) c)
        refine VL_norm km160 k160_1 (VL_at (al := []) (st := []) km160 k160_1 ?_)
        exact (((h.2 c28).2 c27).1 c26)
      · refine VL_norm km159 k159_2 (VL_at (al := []) (st := []) km159 k159_2 ?_)
        refine VL_norm km159 k159_4 (VL_at (al := []) (st := [vI (n32 1)]) km159 k159_4 ?_)
        refine V_of ?_
        refine VL_norm km160 k160_0 (VL_at (al := [(0, vI (n32 1))]) (st := []) km160 k160_0 ?_)
        refine And.intro (fun c => absurd c (by decide)) (fun _ => ?_)
        refine VL_norm km160 k160_2 (VL_at (al := []) (st := []) km160 k160_2 ?_)
        refine And.intro (fun c25 => ?_) (fun c25 => ?_)
        · refine VL_norm km96 k96_1 (VL_at (al := [(0, vR 10 (0))]) (st := []) km96 k96_1 ?_)
          exact ((((h.2 c28).2 c27).2 c26).1 c25)
        · refine And.intro (fun c24 => ?_) (fun c24 => ?_)
          · refine VL_norm km96 k96_2 (VL_at (al := [(0, vR 10 (0))]) (st := []) km96 k96_2 ?_)
            exact (((((h.2 c28).2 c27).2 c26).2 c25).1 c24)
          · refine And.intro (fun c23 => ?_) (fun c23 => ?_)
            · refine VL_norm km96 k96_3 (VL_at (al := [(0, vR 10 (0))]) (st := []) km96 k96_3 ?_)
              exact ((((((h.2 c28).2 c27).2 c26).2 c25).2 c24).1 c23)
            · refine And.intro (fun c22 => ?_) (fun c22 => ?_)
              · refine VL_norm km96 k96_4 (VL_at (al := [(0, vR 10 (0))]) (st := []) km96 k96_4 ?_)
                exact (((((((h.2 c28).2 c27).2 c26).2 c25).2 c24).2 c23).1 c22)
              · refine And.intro (fun c21 => ?_) (fun c21 => ?_)
                · refine VL_norm km96 k96_5 (VL_at (al := [(0, vR 10 (0))]) (st := []) km96 k96_5 ?_)
                  refine V_mono ((((((((h.2 c28).2 c27).2 c26).2 c25).2 c24).2 c23).2 c22).1 c21) (fun u1 m1 h1 => ?_) (fun _ _ h => h)
                  exact h1
                · refine And.intro (fun c20 => ?_) (fun c20 => ?_)
                  · refine VL_norm km96 k96_6 (VL_at (al := [(0, vR 10 (0))]) (st := []) km96 k96_6 ?_)
                    exact (((((((((h.2 c28).2 c27).2 c26).2 c25).2 c24).2 c23).2 c22).2 c21).1 c20)
                  · refine And.intro (fun c19 => ?_) (fun c19 => ?_)
                    · refine VL_norm km96 k96_7 (VL_at (al := [(0, vR 10 (0))]) (st := []) km96 k96_7 ?_)
                      exact ((((((((((h.2 c28).2 c27).2 c26).2 c25).2 c24).2 c23).2 c22).2 c21).2 c20).1 c19)
                    · refine And.intro (fun c18 => ?_) (fun c18 => ?_)
                      · refine VL_norm km96 k96_8 (VL_at (al := [(0, vR 10 (0))]) (st := []) km96 k96_8 ?_)
                        refine V_mono (((((((((((h.2 c28).2 c27).2 c26).2 c25).2 c24).2 c23).2 c22).2 c21).2 c20).2 c19).1 c18) (fun u2 m2 h2 => ?_) (fun _ _ h => h)
                        exact h2
                      · refine And.intro (fun c17 => ?_) (fun c17 => ?_)
                        · refine VL_norm km96 k96_9 (VL_at (al := [(0, vR 10 (0))]) (st := []) km96 k96_9 ?_)
                          exact ((((((((((((h.2 c28).2 c27).2 c26).2 c25).2 c24).2 c23).2 c22).2 c21).2 c20).2 c19).2 c18).1 c17)
                        · refine And.intro (fun c16 => ?_) (fun c16 => ?_)
                          · refine VL_norm km96 k96_10 (VL_at (al := [(0, vR 10 (0))]) (st := []) km96 k96_10 ?_)
                            exact (((((((((((((h.2 c28).2 c27).2 c26).2 c25).2 c24).2 c23).2 c22).2 c21).2 c20).2 c19).2 c18).2 c17).1 c16)
                          · refine And.intro (fun c15 => ?_) (fun c15 => ?_)
                            · refine VL_norm km96 k96_11 (VL_at (al := [(0, vR 10 (0))]) (st := []) km96 k96_11 ?_)
                              refine V_mono ((((((((((((((h.2 c28).2 c27).2 c26).2 c25).2 c24).2 c23).2 c22).2 c21).2 c20).2 c19).2 c18).2 c17).2 c16).1 c15) (fun u3 m3 h3 => ?_) (fun _ _ h => h)
                              refine V_of ?_
                              refine VL_norm km383 k383_0 (VL_at (al := [(0, vI (xti u3))]) (st := []) km383 k383_0 ?_)
                              exact h3
                            · refine And.intro (fun c14 => ?_) (fun c14 => ?_)
                              · refine VL_norm km96 k96_12 (VL_at (al := [(0, vR 10 (0))]) (st := []) km96 k96_12 ?_)
                                refine V_mono (((((((((((((((h.2 c28).2 c27).2 c26).2 c25).2 c24).2 c23).2 c22).2 c21).2 c20).2 c19).2 c18).2 c17).2 c16).2 c15).1 c14) (fun u4 m4 h4 => ?_) (fun _ _ h => h)
                                exact h4
                              · refine And.intro (fun c13 => ?_) (fun c13 => ?_)
                                · refine VL_norm km96 k96_13 (VL_at (al := [(0, vR 10 (0))]) (st := []) km96 k96_13 ?_)
                                  refine V_mono ((((((((((((((((h.2 c28).2 c27).2 c26).2 c25).2 c24).2 c23).2 c22).2 c21).2 c20).2 c19).2 c18).2 c17).2 c16).2 c15).2 c14).1 c13) (fun u5 m5 h5 => ?_) (fun _ _ h => h)
                                  refine V_of ?_
                                  refine VL_norm km383 k383_0 (VL_at (al := [(0, vI (xti u5))]) (st := []) km383 k383_0 ?_)
                                  exact h5
                                · refine And.intro (fun c12 => ?_) (fun c12 => ?_)
                                  · refine VL_norm km96 k96_14 (VL_at (al := [(0, vR 10 (0))]) (st := []) km96 k96_14 ?_)
                                    refine V_mono (((((((((((((((((h.2 c28).2 c27).2 c26).2 c25).2 c24).2 c23).2 c22).2 c21).2 c20).2 c19).2 c18).2 c17).2 c16).2 c15).2 c14).2 c13).1 c12) (fun u6 m6 h6 => ?_) (fun _ _ h => h)
                                    exact h6
                                  · refine And.intro (fun c11 => ?_) (fun c11 => ?_)
                                    · refine VL_norm km96 k96_15 (VL_at (al := [(0, vR 10 (0))]) (st := []) km96 k96_15 ?_)
                                      refine And.intro (xin_k rfl) ?_
                                      refine V_mono ((((((((((((((((((h.2 c28).2 c27).2 c26).2 c25).2 c24).2 c23).2 c22).2 c21).2 c20).2 c19).2 c18).2 c17).2 c16).2 c15).2 c14).2 c13).2 c12).1 c11) (fun u7 m7 h7 => ?_) (fun _ _ h => h)
                                      exact h7
                                    · refine And.intro (fun c10 => ?_) (fun c10 => ?_)
                                      · refine VL_norm km96 k96_16 (VL_at (al := [(0, vR 10 (0))]) (st := []) km96 k96_16 ?_)
                                        refine V_mono (((((((((((((((((((h.2 c28).2 c27).2 c26).2 c25).2 c24).2 c23).2 c22).2 c21).2 c20).2 c19).2 c18).2 c17).2 c16).2 c15).2 c14).2 c13).2 c12).2 c11).1 c10) (fun u8 m8 h8 => ?_) (fun _ _ h => h)
                                        exact h8
                                      · refine VL_norm km96 k96_17 (VL_at (al := [(0, vR 10 (0))]) (st := []) km96 k96_17 ?_)
                                        refine V_mono (((((((((((((((((((h.2 c28).2 c27).2 c26).2 c25).2 c24).2 c23).2 c22).2 c21).2 c20).2 c19).2 c18).2 c17).2 c16).2 c15).2 c14).2 c13).2 c12).2 c11).2 c10) (fun u9 m9 h9 => ?_) (fun _ _ h => h)
                                        exact h9
/-- BannerParade.setting, label 0 -/
theorem w97_0 {D : Nat} {v1 : Int32} {m : XM} {Q : Int32 → XM → Prop} {E : Nat → XM → Prop}
    (h : (((m 0 7) = (n32 0) → E 0 m) ∧ (¬ (m 0 7) = (n32 0) → ((v1 < (n32 0) → E 1 m) ∧ (¬ v1 < (n32 0) → (((n32 5) < v1 → E 1 m) ∧ (¬ (n32 5) < v1 → (xin v1 6 = true ∧ Q (m (29 + 1) (ix v1)) m)))))))) :
    VI (D + 2) 97 [vR 10 (0), vI v1] m Q E := by
  refine V_of (VL_at (al := [(0, vR 10 (0)), (1, vI v1)]) (st := []) km97 k97_0 ?_)
  refine V_of ?_
  refine VL_norm km155 k155_0 (VL_at (al := [(0, vR 10 (0))]) (st := []) km155 k155_0 ?_)
  refine And.intro (fun c3 => ?_) (fun c3 => ?_)
  · refine VL_norm km155 k155_1 (VL_at (al := []) (st := []) km155 k155_1 ?_)
    exact (h.1 c3)
  · refine VL_norm km155 k155_2 (VL_at (al := []) (st := []) km155 k155_2 ?_)
    refine V_of ?_
    refine VL_norm km159 k159_0 (VL_at (al := [(0, vI v1), (1, vI (n32 0)), (2, vI (n32 5))]) (st := []) km159 k159_0 ?_)
    refine And.intro (fun c2 => ?_) (fun c2 => ?_)
    · refine VL_norm km159 k159_3 (VL_at (al := []) (st := []) km159 k159_3 ?_)
      refine VL_norm km159 k159_4 (VL_at (al := []) (st := [vI (n32 0)]) km159 k159_4 ?_)
      refine V_of ?_
      refine VL_norm km160 k160_0 (VL_at (al := [(0, vI (n32 0))]) (st := []) km160 k160_0 ?_)
      refine And.intro (fun _ => ?_) (fun c => absurd (by decide) c)
      refine VL_norm km160 k160_1 (VL_at (al := []) (st := []) km160 k160_1 ?_)
      exact ((h.2 c3).1 c2)
    · refine VL_norm km159 k159_1 (VL_at (al := [(0, vI v1), (2, vI (n32 5))]) (st := []) km159 k159_1 ?_)
      refine And.intro (fun c1 => ?_) (fun c1 => ?_)
      · refine VL_norm km159 k159_3 (VL_at (al := []) (st := []) km159 k159_3 ?_)
        refine VL_norm km159 k159_4 (VL_at (al := []) (st := [vI (n32 0)]) km159 k159_4 ?_)
        refine V_of ?_
        refine VL_norm km160 k160_0 (VL_at (al := [(0, vI (n32 0))]) (st := []) km160 k160_0 ?_)
        refine And.intro (fun _ => ?_) (fun c => absurd (by decide) c)
        refine VL_norm km160 k160_1 (VL_at (al := []) (st := []) km160 k160_1 ?_)
        exact (((h.2 c3).2 c2).1 c1)
      · refine VL_norm km159 k159_2 (VL_at (al := []) (st := []) km159 k159_2 ?_)
        refine VL_norm km159 k159_4 (VL_at (al := []) (st := [vI (n32 1)]) km159 k159_4 ?_)
        refine V_of ?_
        refine VL_norm km160 k160_0 (VL_at (al := [(0, vI (n32 1))]) (st := []) km160 k160_0 ?_)
        refine And.intro (fun c => absurd c (by decide)) (fun _ => ?_)
        refine VL_norm km160 k160_2 (VL_at (al := []) (st := []) km160 k160_2 ?_)
        refine And.intro (((h.2 c3).2 c2).2 c1).1 ?_
        exact (((h.2 c3).2 c2).2 c1).2
/-- BannerParade.bearer, label 0 -/
theorem w98_0 {D : Nat} {v1 : Int32} {v2 : Int32} {m : XM} {Q : Int32 → XM → Prop} {E : Nat → XM → Prop}
    (h : (((m 0 7) = (n32 0) → E 0 m) ∧ (¬ (m 0 7) = (n32 0) → ((v1 < (n32 0) → E 2 m) ∧ (¬ v1 < (n32 0) → ((v1 < (m (29 + 3) 0) → ((v2 < (n32 0) → E 1 m) ∧ (¬ v2 < (n32 0) → (((n32 12) < v2 → E 1 m) ∧ (¬ (n32 12) < v2 → ((v2 = (n32 0) → (xin v1 12 = true ∧ Q (m (29 + 3 + 5) (ix v1)) m)) ∧ (¬ v2 = (n32 0) → ((v2 = (n32 1) → (xin v1 12 = true ∧ Q (m (29 + 3 + 6) (ix v1)) m)) ∧ (¬ v2 = (n32 1) → ((v2 = (n32 2) → (xin v1 12 = true ∧ Q (m (29 + 3 + 2) (ix v1)) m)) ∧ (¬ v2 = (n32 2) → ((v2 = (n32 3) → (xin v1 12 = true ∧ Q (m (29 + 3 + 3) (ix v1)) m)) ∧ (¬ v2 = (n32 3) → ((v2 = (n32 4) → (xin v1 12 = true ∧ Q (m (29 + 3 + 4) (ix v1)) m)) ∧ (¬ v2 = (n32 4) → ((v2 = (n32 5) → VI (D + 2) 50 [vR 7 (29 + 3), vI v1] m (fun x1 m1 => Q x1 m1) E) ∧ (¬ v2 = (n32 5) → ((v2 = (n32 6) → ((v1 ≤ (n32 0) → Q (-(n32 1)) m) ∧ (¬ v1 ≤ (n32 0) → (xin (v1 - (n32 1)) 12 = true ∧ (xin v1 12 = true ∧ Q ((m (29 + 3 + 6) (ix (v1 - (n32 1)))) - (m (29 + 3 + 6) (ix v1))) m))))) ∧ (¬ v2 = (n32 6) → ((v2 = (n32 7) → (xin v1 12 = true ∧ Q (m (29 + 3 + 8) (ix v1)) m)) ∧ (¬ v2 = (n32 7) → ((v2 = (n32 8) → (xin v1 12 = true ∧ Q (m (29 + 3 + 1) (ix v1)) m)) ∧ (¬ v2 = (n32 8) → ((v2 = (n32 9) → VI (D + 2) 168 [vR 10 (0), vI v1] m (fun x3 m3 => Q x3 m3) E) ∧ (¬ v2 = (n32 9) → ((v2 = (n32 10) → (xin v1 12 = true ∧ Q ((m (29 + 3 + 6) (ix (n32 0))) - (m (29 + 3 + 6) (ix v1))) m)) ∧ (¬ v2 = (n32 10) → ((v2 = (n32 11) → (xin v1 12 = true ∧ VI (D + 2) 63 [vR 7 (29 + 3), vI (m (29 + 3 + 4) (ix v1))] m (fun x4 m4 => Q x4 m4) E)) ∧ (¬ v2 = (n32 11) → (xin v1 12 = true ∧ VI (D + 2) 7 [vR 1 (29 + 12), vI (m (29 + 3 + 6) (ix v1)), vI (m (29 + 3 + 6) (ix v1))] m (fun x5 m5 => ((x5 ≤ (n32 0) → Q (n32 0) m5) ∧ (¬ x5 ≤ (n32 0) → Q (n32 1) m5))) E)))))))))))))))))))))))))))))) ∧ (¬ v1 < (m (29 + 3) 0) → E 2 m))))))) :
    VI (D + 3) 98 [vR 10 (0), vI v1, vI v2] m Q E := by
  refine V_of (VL_at (al := [(0, vR 10 (0)), (1, vI v1), (2, vI v2)]) (st := []) km98 k98_0 ?_)
  refine V_of ?_
  refine VL_norm km155 k155_0 (VL_at (al := [(0, vR 10 (0))]) (st := []) km155 k155_0 ?_)
  refine And.intro (fun c23 => ?_) (fun c23 => ?_)
  · refine VL_norm km155 k155_1 (VL_at (al := []) (st := []) km155 k155_1 ?_)
    exact (h.1 c23)
  · refine VL_norm km155 k155_2 (VL_at (al := []) (st := []) km155 k155_2 ?_)
    refine V_of ?_
    refine VL_norm km156 k156_0 (VL_at (al := [(0, vR 10 (0)), (1, vI v1)]) (st := []) km156 k156_0 ?_)
    refine V_of ?_
    refine VL_norm km158 k158_0 (VL_at (al := [(0, vI v1), (1, vI (m (29 + 3) 0))]) (st := []) km158 k158_0 ?_)
    refine And.intro (fun c22 => ?_) (fun c22 => ?_)
    · refine VL_norm km158 k158_2 (VL_at (al := []) (st := []) km158 k158_2 ?_)
      exact ((h.2 c23).1 c22)
    · refine VL_norm km158 k158_1 (VL_at (al := [(0, vI v1), (1, vI (m (29 + 3) 0))]) (st := []) km158 k158_1 ?_)
      refine And.intro (fun c21 => ?_) (fun c21 => ?_)
      · refine VL_norm km158 k158_3 (VL_at (al := []) (st := []) km158 k158_3 ?_)
        refine V_of ?_
        refine VL_norm km159 k159_0 (VL_at (al := [(0, vI v2), (1, vI (n32 0)), (2, vI (n32 12))]) (st := []) km159 k159_0 ?_)
        refine And.intro (fun c20 => ?_) (fun c20 => ?_)
        · refine VL_norm km159 k159_3 (VL_at (al := []) (st := []) km159 k159_3 ?_)
          refine VL_norm km159 k159_4 (VL_at (al := []) (st := [vI (n32 0)]) km159 k159_4 ?_)
          refine V_of ?_
          refine VL_norm km160 k160_0 (VL_at (al := [(0, vI (n32 0))]) (st := []) km160 k160_0 ?_)
          refine And.intro (fun _ => ?_) (fun c => absurd (by decide) c)
          refine VL_norm km160 k160_1 (VL_at (al := []) (st := []) km160 k160_1 ?_)
          exact ((((h.2 c23).2 c22).1 c21).1 c20)
        · refine VL_norm km159 k159_1 (VL_at (al := [(0, vI v2), (2, vI (n32 12))]) (st := []) km159 k159_1 ?_)
          refine And.intro (fun c19 => ?_) (fun c19 => ?_)
          · refine VL_norm km159 k159_3 (VL_at (al := []) (st := []) km159 k159_3 ?_)
            refine VL_norm km159 k159_4 (VL_at (al := []) (st := [vI (n32 0)]) km159 k159_4 ?_)
            refine V_of ?_
            refine VL_norm km160 k160_0 (VL_at (al := [(0, vI (n32 0))]) (st := []) km160 k160_0 ?_)
            refine And.intro (fun _ => ?_) (fun c => absurd (by decide) c)
            refine VL_norm km160 k160_1 (VL_at (al := []) (st := []) km160 k160_1 ?_)
            exact (((((h.2 c23).2 c22).1 c21).2 c20).1 c19)
          · refine VL_norm km159 k159_2 (VL_at (al := []) (st := []) km159 k159_2 ?_)
            refine VL_norm km159 k159_4 (VL_at (al := []) (st := [vI (n32 1)]) km159 k159_4 ?_)
            refine V_of ?_
            refine VL_norm km160 k160_0 (VL_at (al := [(0, vI (n32 1))]) (st := []) km160 k160_0 ?_)
            refine And.intro (fun c => absurd c (by decide)) (fun _ => ?_)
            refine VL_norm km160 k160_2 (VL_at (al := []) (st := []) km160 k160_2 ?_)
            refine And.intro (fun c18 => ?_) (fun c18 => ?_)
            · refine VL_norm km98 k98_1 (VL_at (al := [(1, vI v1), (3, vR 7 (29 + 3))]) (st := []) km98 k98_1 ?_)
              refine And.intro ((((((h.2 c23).2 c22).1 c21).2 c20).2 c19).1 c18).1 ?_
              exact ((((((h.2 c23).2 c22).1 c21).2 c20).2 c19).1 c18).2
            · refine And.intro (fun c17 => ?_) (fun c17 => ?_)
              · refine VL_norm km98 k98_2 (VL_at (al := [(1, vI v1), (3, vR 7 (29 + 3))]) (st := []) km98 k98_2 ?_)
                refine And.intro (((((((h.2 c23).2 c22).1 c21).2 c20).2 c19).2 c18).1 c17).1 ?_
                exact (((((((h.2 c23).2 c22).1 c21).2 c20).2 c19).2 c18).1 c17).2
              · refine And.intro (fun c16 => ?_) (fun c16 => ?_)
                · refine VL_norm km98 k98_3 (VL_at (al := [(1, vI v1), (3, vR 7 (29 + 3))]) (st := []) km98 k98_3 ?_)
                  refine And.intro ((((((((h.2 c23).2 c22).1 c21).2 c20).2 c19).2 c18).2 c17).1 c16).1 ?_
                  exact ((((((((h.2 c23).2 c22).1 c21).2 c20).2 c19).2 c18).2 c17).1 c16).2
                · refine And.intro (fun c15 => ?_) (fun c15 => ?_)
                  · refine VL_norm km98 k98_4 (VL_at (al := [(1, vI v1), (3, vR 7 (29 + 3))]) (st := []) km98 k98_4 ?_)
                    refine And.intro (((((((((h.2 c23).2 c22).1 c21).2 c20).2 c19).2 c18).2 c17).2 c16).1 c15).1 ?_
                    exact (((((((((h.2 c23).2 c22).1 c21).2 c20).2 c19).2 c18).2 c17).2 c16).1 c15).2
                  · refine And.intro (fun c14 => ?_) (fun c14 => ?_)
                    · refine VL_norm km98 k98_5 (VL_at (al := [(1, vI v1), (3, vR 7 (29 + 3))]) (st := []) km98 k98_5 ?_)
                      refine And.intro ((((((((((h.2 c23).2 c22).1 c21).2 c20).2 c19).2 c18).2 c17).2 c16).2 c15).1 c14).1 ?_
                      exact ((((((((((h.2 c23).2 c22).1 c21).2 c20).2 c19).2 c18).2 c17).2 c16).2 c15).1 c14).2
                    · refine And.intro (fun c13 => ?_) (fun c13 => ?_)
                      · refine VL_norm km98 k98_6 (VL_at (al := [(1, vI v1), (3, vR 7 (29 + 3))]) (st := []) km98 k98_6 ?_)
                        refine V_mono (((((((((((h.2 c23).2 c22).1 c21).2 c20).2 c19).2 c18).2 c17).2 c16).2 c15).2 c14).1 c13) (fun u1 m1 h1 => ?_) (fun _ _ h => h)
                        exact h1
                      · refine And.intro (fun c12 => ?_) (fun c12 => ?_)
                        · refine VL_norm km98 k98_7 (VL_at (al := [(1, vI v1), (3, vR 7 (29 + 3))]) (st := []) km98 k98_7 ?_)
                          refine V_of ?_
                          refine VL_norm km51 k51_0 (VL_at (al := [(0, vR 7 (29 + 3)), (1, vI v1)]) (st := []) km51 k51_0 ?_)
                          refine And.intro (fun c2 => ?_) (fun c2 => ?_)
                          · refine VL_norm km51 k51_2 (VL_at (al := []) (st := []) km51 k51_2 ?_)
                            refine VL_norm km51 k51_3 (VL_at (al := []) (st := [vI (-(n32 1))]) km51 k51_3 ?_)
                            exact (((((((((((((h.2 c23).2 c22).1 c21).2 c20).2 c19).2 c18).2 c17).2 c16).2 c15).2 c14).2 c13).1 c12).1 c2)
                          · refine VL_norm km51 k51_1 (VL_at (al := [(0, vR 7 (29 + 3)), (1, vI v1)]) (st := []) km51 k51_1 ?_)
                            refine And.intro (((((((((((((h.2 c23).2 c22).1 c21).2 c20).2 c19).2 c18).2 c17).2 c16).2 c15).2 c14).2 c13).1 c12).2 c2).1 ?_
                            refine And.intro (((((((((((((h.2 c23).2 c22).1 c21).2 c20).2 c19).2 c18).2 c17).2 c16).2 c15).2 c14).2 c13).1 c12).2 c2).2.1 ?_
                            refine VL_norm km51 k51_3 (VL_at (al := []) (st := [vI ((m (29 + 3 + 6) (ix (v1 - (n32 1)))) - (m (29 + 3 + 6) (ix v1)))]) km51 k51_3 ?_)
                            exact (((((((((((((h.2 c23).2 c22).1 c21).2 c20).2 c19).2 c18).2 c17).2 c16).2 c15).2 c14).2 c13).1 c12).2 c2).2.2
                        · refine And.intro (fun c11 => ?_) (fun c11 => ?_)
                          · refine VL_norm km98 k98_8 (VL_at (al := [(1, vI v1), (3, vR 7 (29 + 3))]) (st := []) km98 k98_8 ?_)
                            refine And.intro (((((((((((((h.2 c23).2 c22).1 c21).2 c20).2 c19).2 c18).2 c17).2 c16).2 c15).2 c14).2 c13).2 c12).1 c11).1 ?_
                            exact (((((((((((((h.2 c23).2 c22).1 c21).2 c20).2 c19).2 c18).2 c17).2 c16).2 c15).2 c14).2 c13).2 c12).1 c11).2
                          · refine And.intro (fun c10 => ?_) (fun c10 => ?_)
                            · refine VL_norm km98 k98_9 (VL_at (al := [(1, vI v1), (3, vR 7 (29 + 3))]) (st := []) km98 k98_9 ?_)
                              refine And.intro ((((((((((((((h.2 c23).2 c22).1 c21).2 c20).2 c19).2 c18).2 c17).2 c16).2 c15).2 c14).2 c13).2 c12).2 c11).1 c10).1 ?_
                              exact ((((((((((((((h.2 c23).2 c22).1 c21).2 c20).2 c19).2 c18).2 c17).2 c16).2 c15).2 c14).2 c13).2 c12).2 c11).1 c10).2
                            · refine And.intro (fun c9 => ?_) (fun c9 => ?_)
                              · refine VL_norm km98 k98_10 (VL_at (al := [(0, vR 10 (0)), (1, vI v1)]) (st := []) km98 k98_10 ?_)
                                refine V_mono (((((((((((((((h.2 c23).2 c22).1 c21).2 c20).2 c19).2 c18).2 c17).2 c16).2 c15).2 c14).2 c13).2 c12).2 c11).2 c10).1 c9) (fun u3 m3 h3 => ?_) (fun _ _ h => h)
                                exact h3
                              · refine And.intro (fun c8 => ?_) (fun c8 => ?_)
                                · refine VL_norm km98 k98_11 (VL_at (al := [(1, vI v1), (3, vR 7 (29 + 3))]) (st := []) km98 k98_11 ?_)
                                  refine And.intro (xin_k rfl) ?_
                                  refine And.intro ((((((((((((((((h.2 c23).2 c22).1 c21).2 c20).2 c19).2 c18).2 c17).2 c16).2 c15).2 c14).2 c13).2 c12).2 c11).2 c10).2 c9).1 c8).1 ?_
                                  exact ((((((((((((((((h.2 c23).2 c22).1 c21).2 c20).2 c19).2 c18).2 c17).2 c16).2 c15).2 c14).2 c13).2 c12).2 c11).2 c10).2 c9).1 c8).2
                                · refine And.intro (fun c7 => ?_) (fun c7 => ?_)
                                  · refine VL_norm km98 k98_12 (VL_at (al := [(1, vI v1), (3, vR 7 (29 + 3))]) (st := []) km98 k98_12 ?_)
                                    refine And.intro (((((((((((((((((h.2 c23).2 c22).1 c21).2 c20).2 c19).2 c18).2 c17).2 c16).2 c15).2 c14).2 c13).2 c12).2 c11).2 c10).2 c9).2 c8).1 c7).1 ?_
                                    refine V_mono (((((((((((((((((h.2 c23).2 c22).1 c21).2 c20).2 c19).2 c18).2 c17).2 c16).2 c15).2 c14).2 c13).2 c12).2 c11).2 c10).2 c9).2 c8).1 c7).2 (fun u4 m4 h4 => ?_) (fun _ _ h => h)
                                    exact h4
                                  · refine VL_norm km98 k98_13 (VL_at (al := [(0, vR 10 (0)), (1, vI v1), (3, vR 7 (29 + 3))]) (st := []) km98 k98_13 ?_)
                                    refine And.intro (((((((((((((((((h.2 c23).2 c22).1 c21).2 c20).2 c19).2 c18).2 c17).2 c16).2 c15).2 c14).2 c13).2 c12).2 c11).2 c10).2 c9).2 c8).2 c7).1 ?_
                                    refine And.intro (((((((((((((((((h.2 c23).2 c22).1 c21).2 c20).2 c19).2 c18).2 c17).2 c16).2 c15).2 c14).2 c13).2 c12).2 c11).2 c10).2 c9).2 c8).2 c7).1 ?_
                                    refine V_mono (((((((((((((((((h.2 c23).2 c22).1 c21).2 c20).2 c19).2 c18).2 c17).2 c16).2 c15).2 c14).2 c13).2 c12).2 c11).2 c10).2 c9).2 c8).2 c7).2 (fun u5 m5 h5 => ?_) (fun _ _ h => h)
                                    refine And.intro (fun c6 => ?_) (fun c6 => ?_)
                                    · refine VL_norm km98 k98_15 (VL_at (al := []) (st := []) km98 k98_15 ?_)
                                      refine VL_norm km98 k98_16 (VL_at (al := []) (st := [vI (n32 0)]) km98 k98_16 ?_)
                                      exact (h5.1 c6)
                                    · refine VL_norm km98 k98_14 (VL_at (al := []) (st := []) km98 k98_14 ?_)
                                      refine VL_norm km98 k98_16 (VL_at (al := []) (st := [vI (n32 1)]) km98 k98_16 ?_)
                                      exact (h5.2 c6)
      · refine VL_norm km158 k158_2 (VL_at (al := []) (st := []) km158 k158_2 ?_)
        exact (((h.2 c23).2 c22).2 c21)
/-- BannerParade.stand, label 0 -/
theorem w99_0 {D : Nat} {v1 : Int32} {v2 : Int32} {m : XM} {Q : Int32 → XM → Prop} {E : Nat → XM → Prop}
    (h : (((m 0 7) = (n32 0) → E 0 m) ∧ (¬ (m 0 7) = (n32 0) → ((v1 < (n32 0) → E 2 m) ∧ (¬ v1 < (n32 0) → ((v1 < (m 69 0) → ((v2 < (n32 0) → E 1 m) ∧ (¬ v2 < (n32 0) → (((n32 8) < v2 → E 1 m) ∧ (¬ (n32 8) < v2 → ((v2 = (n32 0) → (xin v1 6 = true ∧ Q (m (69 + 1) (ix v1)) m)) ∧ (¬ v2 = (n32 0) → ((v2 = (n32 1) → (xin v1 6 = true ∧ Q (m (69 + 2) (ix v1)) m)) ∧ (¬ v2 = (n32 1) → ((v2 = (n32 2) → (xin v1 6 = true ∧ Q (m (69 + 3) (ix v1)) m)) ∧ (¬ v2 = (n32 2) → ((v2 = (n32 3) → (xin v1 6 = true ∧ Q (m (29 + 2) (ix v1)) m)) ∧ (¬ v2 = (n32 3) → ((v2 = (n32 4) → VI (D + 3) 169 [vR 10 (0), vI v1] m (fun x1 m1 => Q ((((((((x1 - (((x1).toUInt32 >>> (((n32 1)).toUInt32 &&& Int32.toUInt32 31)).toInt32 &&& (n32 1431655765))) &&& (n32 858993459)) + ((((x1 - (((x1).toUInt32 >>> (((n32 1)).toUInt32 &&& Int32.toUInt32 31)).toInt32 &&& (n32 1431655765)))).toUInt32 >>> (((n32 2)).toUInt32 &&& Int32.toUInt32 31)).toInt32 &&& (n32 858993459))) + (((((x1 - (((x1).toUInt32 >>> (((n32 1)).toUInt32 &&& Int32.toUInt32 31)).toInt32 &&& (n32 1431655765))) &&& (n32 858993459)) + ((((x1 - (((x1).toUInt32 >>> (((n32 1)).toUInt32 &&& Int32.toUInt32 31)).toInt32 &&& (n32 1431655765)))).toUInt32 >>> (((n32 2)).toUInt32 &&& Int32.toUInt32 31)).toInt32 &&& (n32 858993459)))).toUInt32 >>> (((n32 4)).toUInt32 &&& Int32.toUInt32 31)).toInt32) &&& (n32 252645135)) + (((((((x1 - (((x1).toUInt32 >>> (((n32 1)).toUInt32 &&& Int32.toUInt32 31)).toInt32 &&& (n32 1431655765))) &&& (n32 858993459)) + ((((x1 - (((x1).toUInt32 >>> (((n32 1)).toUInt32 &&& Int32.toUInt32 31)).toInt32 &&& (n32 1431655765)))).toUInt32 >>> (((n32 2)).toUInt32 &&& Int32.toUInt32 31)).toInt32 &&& (n32 858993459))) + (((((x1 - (((x1).toUInt32 >>> (((n32 1)).toUInt32 &&& Int32.toUInt32 31)).toInt32 &&& (n32 1431655765))) &&& (n32 858993459)) + ((((x1 - (((x1).toUInt32 >>> (((n32 1)).toUInt32 &&& Int32.toUInt32 31)).toInt32 &&& (n32 1431655765)))).toUInt32 >>> (((n32 2)).toUInt32 &&& Int32.toUInt32 31)).toInt32 &&& (n32 858993459)))).toUInt32 >>> (((n32 4)).toUInt32 &&& Int32.toUInt32 31)).toInt32) &&& (n32 252645135))).toUInt32 >>> (((n32 8)).toUInt32 &&& Int32.toUInt32 31)).toInt32) + ((((((((x1 - (((x1).toUInt32 >>> (((n32 1)).toUInt32 &&& Int32.toUInt32 31)).toInt32 &&& (n32 1431655765))) &&& (n32 858993459)) + ((((x1 - (((x1).toUInt32 >>> (((n32 1)).toUInt32 &&& Int32.toUInt32 31)).toInt32 &&& (n32 1431655765)))).toUInt32 >>> (((n32 2)).toUInt32 &&& Int32.toUInt32 31)).toInt32 &&& (n32 858993459))) + (((((x1 - (((x1).toUInt32 >>> (((n32 1)).toUInt32 &&& Int32.toUInt32 31)).toInt32 &&& (n32 1431655765))) &&& (n32 858993459)) + ((((x1 - (((x1).toUInt32 >>> (((n32 1)).toUInt32 &&& Int32.toUInt32 31)).toInt32 &&& (n32 1431655765)))).toUInt32 >>> (((n32 2)).toUInt32 &&& Int32.toUInt32 31)).toInt32 &&& (n32 858993459)))).toUInt32 >>> (((n32 4)).toUInt32 &&& Int32.toUInt32 31)).toInt32) &&& (n32 252645135)) + (((((((x1 - (((x1).toUInt32 >>> (((n32 1)).toUInt32 &&& Int32.toUInt32 31)).toInt32 &&& (n32 1431655765))) &&& (n32 858993459)) + ((((x1 - (((x1).toUInt32 >>> (((n32 1)).toUInt32 &&& Int32.toUInt32 31)).toInt32 &&& (n32 1431655765)))).toUInt32 >>> (((n32 2)).toUInt32 &&& Int32.toUInt32 31)).toInt32 &&& (n32 858993459))) + (((((x1 - (((x1).toUInt32 >>> (((n32 1)).toUInt32 &&& Int32.toUInt32 31)).toInt32 &&& (n32 1431655765))) &&& (n32 858993459)) + ((((x1 - (((x1).toUInt32 >>> (((n32 1)).toUInt32 &&& Int32.toUInt32 31)).toInt32 &&& (n32 1431655765)))).toUInt32 >>> (((n32 2)).toUInt32 &&& Int32.toUInt32 31)).toInt32 &&& (n32 858993459)))).toUInt32 >>> (((n32 4)).toUInt32 &&& Int32.toUInt32 31)).toInt32) &&& (n32 252645135))).toUInt32 >>> (((n32 8)).toUInt32 &&& Int32.toUInt32 31)).toInt32)).toUInt32 >>> (((n32 16)).toUInt32 &&& Int32.toUInt32 31)).toInt32) &&& (n32 63)) m1) E) ∧ (¬ v2 = (n32 4) → ((v2 = (n32 5) → VA (D + 3) 161 [vR 10 (0), vI v1] m (fun x2 m2 => Q (m2 x2 0) m2) E) ∧ (¬ v2 = (n32 5) → ((v2 = (n32 6) → (xin v1 6 = true ∧ VI (D + 3) 66 [vR 7 (29 + 3), vI (m (69 + 2) (ix v1))] m (fun x3 m3 => Q x3 m3) E)) ∧ (¬ v2 = (n32 6) → ((v2 = (n32 7) → (xin v1 6 = true ∧ VI (D + 3) 64 [vR 7 (29 + 3), vI ((m (69 + 2) (ix v1)) + (m (29 + 1) (ix (n32 1))))] m (fun x4 m4 => Q x4 m4) E)) ∧ (¬ v2 = (n32 7) → (xin v1 6 = true ∧ VI (D + 3) 65 [vR 7 (29 + 3), vI ((m (69 + 2) (ix v1)) - (m (29 + 1) (ix (n32 1))))] m (fun x5 m5 => Q x5 m5) E)))))))))))))))))))))) ∧ (¬ v1 < (m 69 0) → E 2 m))))))) :
    VI (D + 4) 99 [vR 10 (0), vI v1, vI v2] m Q E := by
  refine V_of (VL_at (al := [(0, vR 10 (0)), (1, vI v1), (2, vI v2)]) (st := []) km99 k99_0 ?_)
  refine V_of ?_
  refine VL_norm km155 k155_0 (VL_at (al := [(0, vR 10 (0))]) (st := []) km155 k155_0 ?_)
  refine And.intro (fun c18 => ?_) (fun c18 => ?_)
  · refine VL_norm km155 k155_1 (VL_at (al := []) (st := []) km155 k155_1 ?_)
    exact (h.1 c18)
  · refine VL_norm km155 k155_2 (VL_at (al := []) (st := []) km155 k155_2 ?_)
    refine V_of ?_
    refine VL_norm km157 k157_0 (VL_at (al := [(0, vR 10 (0)), (1, vI v1)]) (st := []) km157 k157_0 ?_)
    refine V_of ?_
    refine VL_norm km158 k158_0 (VL_at (al := [(0, vI v1), (1, vI (m 69 0))]) (st := []) km158 k158_0 ?_)
    refine And.intro (fun c17 => ?_) (fun c17 => ?_)
    · refine VL_norm km158 k158_2 (VL_at (al := []) (st := []) km158 k158_2 ?_)
      exact ((h.2 c18).1 c17)
    · refine VL_norm km158 k158_1 (VL_at (al := [(0, vI v1), (1, vI (m 69 0))]) (st := []) km158 k158_1 ?_)
      refine And.intro (fun c16 => ?_) (fun c16 => ?_)
      · refine VL_norm km158 k158_3 (VL_at (al := []) (st := []) km158 k158_3 ?_)
        refine V_of ?_
        refine VL_norm km159 k159_0 (VL_at (al := [(0, vI v2), (1, vI (n32 0)), (2, vI (n32 8))]) (st := []) km159 k159_0 ?_)
        refine And.intro (fun c15 => ?_) (fun c15 => ?_)
        · refine VL_norm km159 k159_3 (VL_at (al := []) (st := []) km159 k159_3 ?_)
          refine VL_norm km159 k159_4 (VL_at (al := []) (st := [vI (n32 0)]) km159 k159_4 ?_)
          refine V_of ?_
          refine VL_norm km160 k160_0 (VL_at (al := [(0, vI (n32 0))]) (st := []) km160 k160_0 ?_)
          refine And.intro (fun _ => ?_) (fun c => absurd (by decide) c)
          refine VL_norm km160 k160_1 (VL_at (al := []) (st := []) km160 k160_1 ?_)
          exact ((((h.2 c18).2 c17).1 c16).1 c15)
        · refine VL_norm km159 k159_1 (VL_at (al := [(0, vI v2), (2, vI (n32 8))]) (st := []) km159 k159_1 ?_)
          refine And.intro (fun c14 => ?_) (fun c14 => ?_)
          · refine VL_norm km159 k159_3 (VL_at (al := []) (st := []) km159 k159_3 ?_)
            refine VL_norm km159 k159_4 (VL_at (al := []) (st := [vI (n32 0)]) km159 k159_4 ?_)
            refine V_of ?_
            refine VL_norm km160 k160_0 (VL_at (al := [(0, vI (n32 0))]) (st := []) km160 k160_0 ?_)
            refine And.intro (fun _ => ?_) (fun c => absurd (by decide) c)
            refine VL_norm km160 k160_1 (VL_at (al := []) (st := []) km160 k160_1 ?_)
            exact (((((h.2 c18).2 c17).1 c16).2 c15).1 c14)
          · refine VL_norm km159 k159_2 (VL_at (al := []) (st := []) km159 k159_2 ?_)
            refine VL_norm km159 k159_4 (VL_at (al := []) (st := [vI (n32 1)]) km159 k159_4 ?_)
            refine V_of ?_
            refine VL_norm km160 k160_0 (VL_at (al := [(0, vI (n32 1))]) (st := []) km160 k160_0 ?_)
            refine And.intro (fun c => absurd c (by decide)) (fun _ => ?_)
            refine VL_norm km160 k160_2 (VL_at (al := []) (st := []) km160 k160_2 ?_)
            refine And.intro (xin_k rfl) ?_
            refine And.intro (fun c13 => ?_) (fun c13 => ?_)
            · refine VL_norm km99 k99_1 (VL_at (al := [(0, vR 10 (0)), (1, vI v1)]) (st := []) km99 k99_1 ?_)
              refine And.intro ((((((h.2 c18).2 c17).1 c16).2 c15).2 c14).1 c13).1 ?_
              exact ((((((h.2 c18).2 c17).1 c16).2 c15).2 c14).1 c13).2
            · refine And.intro (fun c12 => ?_) (fun c12 => ?_)
              · refine VL_norm km99 k99_2 (VL_at (al := [(0, vR 10 (0)), (1, vI v1)]) (st := []) km99 k99_2 ?_)
                refine And.intro (((((((h.2 c18).2 c17).1 c16).2 c15).2 c14).2 c13).1 c12).1 ?_
                exact (((((((h.2 c18).2 c17).1 c16).2 c15).2 c14).2 c13).1 c12).2
              · refine And.intro (fun c11 => ?_) (fun c11 => ?_)
                · refine VL_norm km99 k99_3 (VL_at (al := [(0, vR 10 (0)), (1, vI v1)]) (st := []) km99 k99_3 ?_)
                  refine And.intro ((((((((h.2 c18).2 c17).1 c16).2 c15).2 c14).2 c13).2 c12).1 c11).1 ?_
                  exact ((((((((h.2 c18).2 c17).1 c16).2 c15).2 c14).2 c13).2 c12).1 c11).2
                · refine And.intro (fun c10 => ?_) (fun c10 => ?_)
                  · refine VL_norm km99 k99_4 (VL_at (al := [(0, vR 10 (0)), (1, vI v1)]) (st := []) km99 k99_4 ?_)
                    refine And.intro (((((((((h.2 c18).2 c17).1 c16).2 c15).2 c14).2 c13).2 c12).2 c11).1 c10).1 ?_
                    exact (((((((((h.2 c18).2 c17).1 c16).2 c15).2 c14).2 c13).2 c12).2 c11).1 c10).2
                  · refine And.intro (fun c9 => ?_) (fun c9 => ?_)
                    · refine VL_norm km99 k99_5 (VL_at (al := [(0, vR 10 (0)), (1, vI v1)]) (st := []) km99 k99_5 ?_)
                      refine V_mono ((((((((((h.2 c18).2 c17).1 c16).2 c15).2 c14).2 c13).2 c12).2 c11).2 c10).1 c9) (fun u1 m1 h1 => ?_) (fun _ _ h => h)
                      refine V_of ?_
                      refine VL_norm km383 k383_0 (VL_at (al := [(0, vI (xti u1))]) (st := []) km383 k383_0 ?_)
                      exact h1
                    · refine And.intro (fun c8 => ?_) (fun c8 => ?_)
                      · refine VL_norm km99 k99_6 (VL_at (al := [(0, vR 10 (0)), (1, vI v1)]) (st := []) km99 k99_6 ?_)
                        refine V_mono (((((((((((h.2 c18).2 c17).1 c16).2 c15).2 c14).2 c13).2 c12).2 c11).2 c10).2 c9).1 c8) (fun u2 m2 h2 => ?_) (fun _ _ h => h)
                        exact h2
                      · refine And.intro (fun c7 => ?_) (fun c7 => ?_)
                        · refine VL_norm km99 k99_7 (VL_at (al := [(0, vR 10 (0)), (1, vI v1)]) (st := []) km99 k99_7 ?_)
                          refine And.intro ((((((((((((h.2 c18).2 c17).1 c16).2 c15).2 c14).2 c13).2 c12).2 c11).2 c10).2 c9).2 c8).1 c7).1 ?_
                          refine V_mono ((((((((((((h.2 c18).2 c17).1 c16).2 c15).2 c14).2 c13).2 c12).2 c11).2 c10).2 c9).2 c8).1 c7).2 (fun u3 m3 h3 => ?_) (fun _ _ h => h)
                          exact h3
                        · refine And.intro (fun c6 => ?_) (fun c6 => ?_)
                          · refine VL_norm km99 k99_8 (VL_at (al := [(0, vR 10 (0)), (1, vI v1), (3, vI (m (29 + 1) (ix (n32 1))))]) (st := []) km99 k99_8 ?_)
                            refine And.intro (((((((((((((h.2 c18).2 c17).1 c16).2 c15).2 c14).2 c13).2 c12).2 c11).2 c10).2 c9).2 c8).2 c7).1 c6).1 ?_
                            refine V_mono (((((((((((((h.2 c18).2 c17).1 c16).2 c15).2 c14).2 c13).2 c12).2 c11).2 c10).2 c9).2 c8).2 c7).1 c6).2 (fun u4 m4 h4 => ?_) (fun _ _ h => h)
                            exact h4
                          · refine VL_norm km99 k99_9 (VL_at (al := [(0, vR 10 (0)), (1, vI v1), (3, vI (m (29 + 1) (ix (n32 1))))]) (st := []) km99 k99_9 ?_)
                            refine And.intro (((((((((((((h.2 c18).2 c17).1 c16).2 c15).2 c14).2 c13).2 c12).2 c11).2 c10).2 c9).2 c8).2 c7).2 c6).1 ?_
                            refine V_mono (((((((((((((h.2 c18).2 c17).1 c16).2 c15).2 c14).2 c13).2 c12).2 c11).2 c10).2 c9).2 c8).2 c7).2 c6).2 (fun u5 m5 h5 => ?_) (fun _ _ h => h)
                            exact h5
      · refine VL_norm km158 k158_2 (VL_at (al := []) (st := []) km158 k158_2 ?_)
        exact (((h.2 c18).2 c17).2 c16)
