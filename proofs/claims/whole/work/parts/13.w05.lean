/-! Verification conditions (written by program: wip/whole/mkw.py). -/
/-- BannerParadeModel.ticks, label 10 -/
theorem w228_10 {D : Nat} {v1 : Int32} {m : XM} {Q : XM → Prop} {E : Nat → XM → Prop}
    (h : (((m 284 (ix (n32 6))) ≤ v1 → VLU (D + 5) 228 13 [(0, vR 11 (283)), (1, vI (n32 0))] [] m Q E) ∧ (¬ (m 284 (ix (n32 6))) ≤ v1 → VU (D + 4) 227 [vR 11 (283), vI v1] m (fun m1 => VLU (D + 5) 228 10 [(0, vR 11 (283)), (1, vI (v1 + (n32 1)))] [] m1 Q E) E))) :
    VLU (D + 5) 228 10 [(0, vR 11 (283)), (1, vI v1)] [] m Q E := by
  refine VL_at (al := [(0, vR 11 (283)), (1, vI v1)]) (st := []) km228 k228_10 ?_
  refine And.intro (xin_k rfl) ?_
  refine And.intro (fun c2 => ?_) (fun c2 => ?_)
  · refine VL_norm km228 k228_12 (VL_at (al := [(0, vR 11 (283))]) (st := []) km228 k228_12 ?_)
    exact VL_norm km228 k228_13 (h.1 c2)
  · refine VL_norm km228 k228_11 (VL_at (al := [(0, vR 11 (283)), (1, vI v1)]) (st := []) km228 k228_11 ?_)
    refine V_mono (h.2 c2) (fun u1 m1 h1 => ?_) (fun _ _ h => h)
    exact VL_norm km228 k228_10 h1
/-- BannerParadeModel.ticks, label 13 -/
theorem w228_13 {D : Nat} {v1 : Int32} {m : XM} {Q : XM → Prop} {E : Nat → XM → Prop}
    (h : (((m 284 (ix (n32 7))) ≤ v1 → Q m) ∧ (¬ (m 284 (ix (n32 7))) ≤ v1 → (xin (((n32 99) + ((n32 12) * v1)) + (n32 3)) 243 = true ∧ (((m 284 (ix (((n32 99) + ((n32 12) * v1)) + (n32 3)))) = (-(n32 1)) → VI (D + 4) 223 [vR 11 (283), vI v1] m (fun x1 m1 => ((x1 = (n32 0) → VLU (D + 5) 228 13 [(0, vR 11 (283)), (1, vI (v1 + (n32 1)))] [] m1 Q E) ∧ (¬ x1 = (n32 0) → VLU (D + 5) 228 13 [(0, vR 11 (283)), (1, vI (v1 + (n32 1)))] [] (um m1 (284) (ix (((n32 99) + ((n32 12) * v1)) + (n32 3))) (m1 284 (ix (n32 9)))) Q E))) E) ∧ (¬ (m 284 (ix (((n32 99) + ((n32 12) * v1)) + (n32 3)))) = (-(n32 1)) → VLU (D + 5) 228 13 [(0, vR 11 (283)), (1, vI (v1 + (n32 1)))] [] m Q E)))))) :
    VLU (D + 5) 228 13 [(0, vR 11 (283)), (1, vI v1)] [] m Q E := by
  refine VL_at (al := [(0, vR 11 (283)), (1, vI v1)]) (st := []) km228 k228_13 ?_
  refine And.intro (xin_k rfl) ?_
  refine And.intro (fun c4 => ?_) (fun c4 => ?_)
  · refine VL_norm km228 k228_18 (VL_at (al := []) (st := []) km228 k228_18 ?_)
    exact (h.1 c4)
  · refine VL_norm km228 k228_14 (VL_at (al := [(0, vR 11 (283)), (1, vI v1)]) (st := []) km228 k228_14 ?_)
    refine V_of ?_
    refine VL_norm km204 k204_0 (VL_at (al := [(0, vR 11 (283)), (1, vI v1), (2, vI (n32 3))]) (st := []) km204 k204_0 ?_)
    refine And.intro (h.2 c4).1 ?_
    refine And.intro (fun c3 => ?_) (fun c3 => ?_)
    · refine VL_norm km228 k228_15 (VL_at (al := [(0, vR 11 (283)), (1, vI v1)]) (st := []) km228 k228_15 ?_)
      refine V_mono ((h.2 c4).2.1 c3) (fun u1 m1 h1 => ?_) (fun _ _ h => h)
      refine And.intro (fun c2 => ?_) (fun c2 => ?_)
      · refine VL_norm km228 k228_17 (VL_at (al := [(0, vR 11 (283)), (1, vI v1)]) (st := []) km228 k228_17 ?_)
        exact VL_norm km228 k228_13 (h1.1 c2)
      · refine VL_norm km228 k228_16 (VL_at (al := [(0, vR 11 (283)), (1, vI v1)]) (st := []) km228 k228_16 ?_)
        refine And.intro (xin_k rfl) ?_
        refine V_of ?_
        refine VL_norm km205 k205_0 (VL_at (al := [(0, vR 11 (283)), (1, vI v1), (2, vI (n32 3)), (3, vI (m1 284 (ix (n32 9))))]) (st := []) km205 k205_0 ?_)
        refine And.intro (h.2 c4).1 ?_
        refine VL_norm km228 k228_17 (VL_at (al := [(0, vR 11 (283)), (1, vI v1)]) (st := []) km228 k228_17 ?_)
        exact VL_norm km228 k228_13 (h1.2 c2)
    · refine VL_norm km228 k228_17 (VL_at (al := [(0, vR 11 (283)), (1, vI v1)]) (st := []) km228 k228_17 ?_)
      exact VL_norm km228 k228_13 ((h.2 c4).2.2 c3)
/-- BannerParadeModel.passes, label 0 -/
theorem w229_0 {D : Nat} {v1 : Int32} {m : XM} {Q : XM → Prop} {E : Nat → XM → Prop}
    (h : VLU (D + 6) 229 1 [(0, vR 11 (283)), (1, vI v1), (2, vI (n32 0))] [] m Q E) :
    VU (D + 6) 229 [vR 11 (283), vI v1] m Q E := by
  refine V_of (VL_at (al := [(0, vR 11 (283)), (1, vI v1)]) (st := []) km229 k229_0 ?_)
  exact VL_norm km229 k229_1 h
/-- BannerParadeModel.passes, label 1 -/
theorem w229_1 {D : Nat} {v1 : Int32} {v2 : Int32} {m : XM} {Q : XM → Prop} {E : Nat → XM → Prop}
    (h : ((v1 ≤ v2 → Q m) ∧ (¬ v1 ≤ v2 → VU (D + 5) 228 [vR 11 (283)] m (fun m1 => VLU (D + 6) 229 1 [(0, vR 11 (283)), (1, vI v1), (2, vI (v2 + (n32 1)))] [] m1 Q E) E))) :
    VLU (D + 6) 229 1 [(0, vR 11 (283)), (1, vI v1), (2, vI v2)] [] m Q E := by
  refine VL_at (al := [(0, vR 11 (283)), (1, vI v1), (2, vI v2)]) (st := []) km229 k229_1 ?_
  refine And.intro (fun c2 => ?_) (fun c2 => ?_)
  · refine VL_norm km229 k229_3 (VL_at (al := []) (st := []) km229 k229_3 ?_)
    exact (h.1 c2)
  · refine VL_norm km229 k229_2 (VL_at (al := [(0, vR 11 (283)), (1, vI v1), (2, vI v2)]) (st := []) km229 k229_2 ?_)
    refine V_mono (h.2 c2) (fun u1 m1 h1 => ?_) (fun _ _ h => h)
    exact VL_norm km229 k229_1 h1
/-- BannerParadeModel.carried, label 0 -/
theorem w230_0 {D : Nat}  {m : XM} {Q : Int32 → XM → Prop} {E : Nat → XM → Prop}
    (h : VLI (D + 1) 230 1 [(0, vR 11 (283)), (1, vI (n32 0)), (2, vI (n32 0))] [] m Q E) :
    VI (D + 1) 230 [vR 11 (283)] m Q E := by
  refine V_of (VL_at (al := [(0, vR 11 (283))]) (st := []) km230 k230_0 ?_)
  exact VL_norm km230 k230_1 h
/-- BannerParadeModel.carried, label 1 -/
theorem w230_1 {D : Nat} {v1 : Int32} {v2 : Int32} {m : XM} {Q : Int32 → XM → Prop} {E : Nat → XM → Prop}
    (h : (((m 284 (ix (n32 6))) ≤ v2 → Q v1 m) ∧ (¬ (m 284 (ix (n32 6))) ≤ v2 → (xin (((n32 15) + ((n32 7) * v2)) + (n32 0)) 243 = true ∧ (((m 284 (ix (((n32 15) + ((n32 7) * v2)) + (n32 0)))) ≤ (n32 0) → VLI (D + 1) 230 1 [(0, vR 11 (283)), (1, vI (v1 + (n32 0))), (2, vI (v2 + (n32 1)))] [] m Q E) ∧ (¬ (m 284 (ix (((n32 15) + ((n32 7) * v2)) + (n32 0)))) ≤ (n32 0) → VLI (D + 1) 230 1 [(0, vR 11 (283)), (1, vI (v1 + (n32 1))), (2, vI (v2 + (n32 1)))] [] m Q E)))))) :
    VLI (D + 1) 230 1 [(0, vR 11 (283)), (1, vI v1), (2, vI v2)] [] m Q E := by
  refine VL_at (al := [(0, vR 11 (283)), (1, vI v1), (2, vI v2)]) (st := []) km230 k230_1 ?_
  refine And.intro (xin_k rfl) ?_
  refine And.intro (fun c2 => ?_) (fun c2 => ?_)
  · refine VL_norm km230 k230_6 (VL_at (al := [(1, vI v1)]) (st := []) km230 k230_6 ?_)
    exact (h.1 c2)
  · refine VL_norm km230 k230_2 (VL_at (al := [(0, vR 11 (283)), (1, vI v1), (2, vI v2)]) (st := []) km230 k230_2 ?_)
    refine V_of ?_
    refine VL_norm km202 k202_0 (VL_at (al := [(0, vR 11 (283)), (1, vI v2), (2, vI (n32 0))]) (st := []) km202 k202_0 ?_)
    refine And.intro (h.2 c2).1 ?_
    refine And.intro (fun c1 => ?_) (fun c1 => ?_)
    · refine VL_norm km230 k230_4 (VL_at (al := [(0, vR 11 (283)), (2, vI v2)]) (st := [vI v1]) km230 k230_4 ?_)
      refine VL_norm km230 k230_5 (VL_at (al := [(0, vR 11 (283)), (2, vI v2)]) (st := [vI (n32 0), vI v1]) km230 k230_5 ?_)
      exact VL_norm km230 k230_1 ((h.2 c2).2.1 c1)
    · refine VL_norm km230 k230_3 (VL_at (al := [(0, vR 11 (283)), (2, vI v2)]) (st := [vI v1]) km230 k230_3 ?_)
      refine VL_norm km230 k230_5 (VL_at (al := [(0, vR 11 (283)), (2, vI v2)]) (st := [vI (n32 1), vI v1]) km230 k230_5 ?_)
      exact VL_norm km230 k230_1 ((h.2 c2).2.2 c1)
/-- BannerParadeModel.readSet, label 0 -/
theorem w231_0 {D : Nat}  {m : XM} {Q : Int32 → XM → Prop} {E : Nat → XM → Prop}
    (h : VLI (D + 1) 231 1 [(0, vR 11 (283)), (1, vI (n32 0)), (2, vI (n32 0))] [] m Q E) :
    VI (D + 1) 231 [vR 11 (283)] m Q E := by
  refine V_of (VL_at (al := [(0, vR 11 (283))]) (st := []) km231 k231_0 ?_)
  exact VL_norm km231 k231_1 h
/-- BannerParadeModel.readSet, label 1 -/
theorem w231_1 {D : Nat} {v1 : Int32} {v2 : Int32} {m : XM} {Q : Int32 → XM → Prop} {E : Nat → XM → Prop}
    (h : (((m 284 (ix (n32 7))) ≤ v2 → Q v1 m) ∧ (¬ (m 284 (ix (n32 7))) ≤ v2 → (xin (((n32 99) + ((n32 12) * v2)) + (n32 3)) 243 = true ∧ (((m 284 (ix (((n32 99) + ((n32 12) * v2)) + (n32 3)))) = (-(n32 1)) → VLI (D + 1) 231 1 [(0, vR 11 (283)), (1, vI (v1 ||| (n32 0))), (2, vI (v2 + (n32 1)))] [] m Q E) ∧ (¬ (m 284 (ix (((n32 99) + ((n32 12) * v2)) + (n32 3)))) = (-(n32 1)) → VLI (D + 1) 231 1 [(0, vR 11 (283)), (1, vI (v1 ||| ((n32 1) <<< (v2 &&& 31)))), (2, vI (v2 + (n32 1)))] [] m Q E)))))) :
    VLI (D + 1) 231 1 [(0, vR 11 (283)), (1, vI v1), (2, vI v2)] [] m Q E := by
  refine VL_at (al := [(0, vR 11 (283)), (1, vI v1), (2, vI v2)]) (st := []) km231 k231_1 ?_
  refine And.intro (xin_k rfl) ?_
  refine And.intro (fun c2 => ?_) (fun c2 => ?_)
  · refine VL_norm km231 k231_6 (VL_at (al := [(1, vI v1)]) (st := []) km231 k231_6 ?_)
    exact (h.1 c2)
  · refine VL_norm km231 k231_2 (VL_at (al := [(0, vR 11 (283)), (1, vI v1), (2, vI v2)]) (st := []) km231 k231_2 ?_)
    refine V_of ?_
    refine VL_norm km204 k204_0 (VL_at (al := [(0, vR 11 (283)), (1, vI v2), (2, vI (n32 3))]) (st := []) km204 k204_0 ?_)
    refine And.intro (h.2 c2).1 ?_
    refine And.intro (fun c1 => ?_) (fun c1 => ?_)
    · refine VL_norm km231 k231_4 (VL_at (al := [(0, vR 11 (283)), (2, vI v2)]) (st := [vI v1]) km231 k231_4 ?_)
      refine VL_norm km231 k231_5 (VL_at (al := [(0, vR 11 (283)), (2, vI v2)]) (st := [vI (n32 0), vI v1]) km231 k231_5 ?_)
      exact VL_norm km231 k231_1 ((h.2 c2).2.1 c1)
    · refine VL_norm km231 k231_3 (VL_at (al := [(0, vR 11 (283)), (2, vI v2)]) (st := [vI v1]) km231 k231_3 ?_)
      refine VL_norm km231 k231_5 (VL_at (al := [(0, vR 11 (283)), (2, vI v2)]) (st := [vI ((n32 1) <<< (v2 &&& 31)), vI v1]) km231 k231_5 ?_)
      exact VL_norm km231 k231_1 ((h.2 c2).2.2 c1)
/-- BannerParadeModel.readMany, label 0 -/
theorem w232_0 {D : Nat}  {m : XM} {Q : Int32 → XM → Prop} {E : Nat → XM → Prop}
    (h : VLI (D + 1) 232 1 [(0, vR 11 (283)), (1, vI (n32 0)), (2, vI (n32 0))] [] m Q E) :
    VI (D + 1) 232 [vR 11 (283)] m Q E := by
  refine V_of (VL_at (al := [(0, vR 11 (283))]) (st := []) km232 k232_0 ?_)
  exact VL_norm km232 k232_1 h
/-- BannerParadeModel.readMany, label 1 -/
theorem w232_1 {D : Nat} {v1 : Int32} {v2 : Int32} {m : XM} {Q : Int32 → XM → Prop} {E : Nat → XM → Prop}
    (h : (((m 284 (ix (n32 7))) ≤ v2 → Q v1 m) ∧ (¬ (m 284 (ix (n32 7))) ≤ v2 → (xin (((n32 99) + ((n32 12) * v2)) + (n32 3)) 243 = true ∧ (((m 284 (ix (((n32 99) + ((n32 12) * v2)) + (n32 3)))) = (-(n32 1)) → VLI (D + 1) 232 1 [(0, vR 11 (283)), (1, vI (v1 + (n32 0))), (2, vI (v2 + (n32 1)))] [] m Q E) ∧ (¬ (m 284 (ix (((n32 99) + ((n32 12) * v2)) + (n32 3)))) = (-(n32 1)) → VLI (D + 1) 232 1 [(0, vR 11 (283)), (1, vI (v1 + (n32 1))), (2, vI (v2 + (n32 1)))] [] m Q E)))))) :
    VLI (D + 1) 232 1 [(0, vR 11 (283)), (1, vI v1), (2, vI v2)] [] m Q E := by
  refine VL_at (al := [(0, vR 11 (283)), (1, vI v1), (2, vI v2)]) (st := []) km232 k232_1 ?_
  refine And.intro (xin_k rfl) ?_
  refine And.intro (fun c2 => ?_) (fun c2 => ?_)
  · refine VL_norm km232 k232_6 (VL_at (al := [(1, vI v1)]) (st := []) km232 k232_6 ?_)
    exact (h.1 c2)
  · refine VL_norm km232 k232_2 (VL_at (al := [(0, vR 11 (283)), (1, vI v1), (2, vI v2)]) (st := []) km232 k232_2 ?_)
    refine V_of ?_
    refine VL_norm km204 k204_0 (VL_at (al := [(0, vR 11 (283)), (1, vI v2), (2, vI (n32 3))]) (st := []) km204 k204_0 ?_)
    refine And.intro (h.2 c2).1 ?_
    refine And.intro (fun c1 => ?_) (fun c1 => ?_)
    · refine VL_norm km232 k232_4 (VL_at (al := [(0, vR 11 (283)), (2, vI v2)]) (st := [vI v1]) km232 k232_4 ?_)
      refine VL_norm km232 k232_5 (VL_at (al := [(0, vR 11 (283)), (2, vI v2)]) (st := [vI (n32 0), vI v1]) km232 k232_5 ?_)
      exact VL_norm km232 k232_1 ((h.2 c2).2.1 c1)
    · refine VL_norm km232 k232_3 (VL_at (al := [(0, vR 11 (283)), (2, vI v2)]) (st := [vI v1]) km232 k232_3 ?_)
      refine VL_norm km232 k232_5 (VL_at (al := [(0, vR 11 (283)), (2, vI v2)]) (st := [vI (n32 1), vI v1]) km232 k232_5 ?_)
      exact VL_norm km232 k232_1 ((h.2 c2).2.2 c1)
/-- BannerParadeModel.coming, label 0 -/
theorem w233_0 {D : Nat}  {m : XM} {Q : Int32 → XM → Prop} {E : Nat → XM → Prop}
    (h : VLI (D + 1) 233 1 [(0, vR 11 (283)), (1, vI (n32 0)), (2, vI (n32 0))] [] m Q E) :
    VI (D + 1) 233 [vR 11 (283)] m Q E := by
  refine V_of (VL_at (al := [(0, vR 11 (283))]) (st := []) km233 k233_0 ?_)
  exact VL_norm km233 k233_1 h
/-- BannerParadeModel.coming, label 1 -/
theorem w233_1 {D : Nat} {v1 : Int32} {v2 : Int32} {m : XM} {Q : Int32 → XM → Prop} {E : Nat → XM → Prop}
    (h : (((m 284 (ix (n32 8))) ≤ v2 → Q v1 m) ∧ (¬ (m 284 (ix (n32 8))) ≤ v2 → (xin (((n32 171) + ((n32 3) * v2)) + (n32 2)) 243 = true ∧ (((m 284 (ix (((n32 171) + ((n32 3) * v2)) + (n32 2)))) = (n32 0) → VLI (D + 1) 233 1 [(0, vR 11 (283)), (1, vI (v1 + (n32 1))), (2, vI (v2 + (n32 1)))] [] m Q E) ∧ (¬ (m 284 (ix (((n32 171) + ((n32 3) * v2)) + (n32 2)))) = (n32 0) → VLI (D + 1) 233 1 [(0, vR 11 (283)), (1, vI (v1 + (n32 0))), (2, vI (v2 + (n32 1)))] [] m Q E)))))) :
    VLI (D + 1) 233 1 [(0, vR 11 (283)), (1, vI v1), (2, vI v2)] [] m Q E := by
  refine VL_at (al := [(0, vR 11 (283)), (1, vI v1), (2, vI v2)]) (st := []) km233 k233_1 ?_
  refine And.intro (xin_k rfl) ?_
  refine And.intro (fun c2 => ?_) (fun c2 => ?_)
  · refine VL_norm km233 k233_6 (VL_at (al := [(1, vI v1)]) (st := []) km233 k233_6 ?_)
    exact (h.1 c2)
  · refine VL_norm km233 k233_2 (VL_at (al := [(0, vR 11 (283)), (1, vI v1), (2, vI v2)]) (st := []) km233 k233_2 ?_)
    refine V_of ?_
    refine VL_norm km206 k206_0 (VL_at (al := [(0, vR 11 (283)), (1, vI v2), (2, vI (n32 2))]) (st := []) km206 k206_0 ?_)
    refine And.intro (h.2 c2).1 ?_
    refine And.intro (fun c1 => ?_) (fun c1 => ?_)
    · refine VL_norm km233 k233_3 (VL_at (al := [(0, vR 11 (283)), (2, vI v2)]) (st := [vI v1]) km233 k233_3 ?_)
      refine VL_norm km233 k233_5 (VL_at (al := [(0, vR 11 (283)), (2, vI v2)]) (st := [vI (n32 1), vI v1]) km233 k233_5 ?_)
      exact VL_norm km233 k233_1 ((h.2 c2).2.1 c1)
    · refine VL_norm km233 k233_4 (VL_at (al := [(0, vR 11 (283)), (2, vI v2)]) (st := [vI v1]) km233 k233_4 ?_)
      refine VL_norm km233 k233_5 (VL_at (al := [(0, vR 11 (283)), (2, vI v2)]) (st := [vI (n32 0), vI v1]) km233 k233_5 ?_)
      exact VL_norm km233 k233_1 ((h.2 c2).2.2 c1)
/-- BannerParadeModel.withoutStrength, label 0 -/
theorem w234_0 {D : Nat}  {m : XM} {Q : Int32 → XM → Prop} {E : Nat → XM → Prop}
    (h : VLI (D + 1) 234 1 [(0, vR 11 (283)), (1, vI (n32 0)), (2, vI (n32 0))] [] m Q E) :
    VI (D + 1) 234 [vR 11 (283)] m Q E := by
  refine V_of (VL_at (al := [(0, vR 11 (283))]) (st := []) km234 k234_0 ?_)
  exact VL_norm km234 k234_1 h
/-- BannerParadeModel.withoutStrength, label 1 -/
theorem w234_1 {D : Nat} {v1 : Int32} {v2 : Int32} {m : XM} {Q : Int32 → XM → Prop} {E : Nat → XM → Prop}
    (h : (((m 284 (ix (n32 6))) ≤ v2 → Q v1 m) ∧ (¬ (m 284 (ix (n32 6))) ≤ v2 → (xin (((n32 15) + ((n32 7) * v2)) + (n32 4)) 243 = true ∧ (((m 284 (ix (((n32 15) + ((n32 7) * v2)) + (n32 4)))) = (n32 0) → VLI (D + 1) 234 1 [(0, vR 11 (283)), (1, vI (v1 + (n32 1))), (2, vI (v2 + (n32 1)))] [] m Q E) ∧ (¬ (m 284 (ix (((n32 15) + ((n32 7) * v2)) + (n32 4)))) = (n32 0) → VLI (D + 1) 234 1 [(0, vR 11 (283)), (1, vI (v1 + (n32 0))), (2, vI (v2 + (n32 1)))] [] m Q E)))))) :
    VLI (D + 1) 234 1 [(0, vR 11 (283)), (1, vI v1), (2, vI v2)] [] m Q E := by
  refine VL_at (al := [(0, vR 11 (283)), (1, vI v1), (2, vI v2)]) (st := []) km234 k234_1 ?_
  refine And.intro (xin_k rfl) ?_
  refine And.intro (fun c2 => ?_) (fun c2 => ?_)
  · refine VL_norm km234 k234_6 (VL_at (al := [(1, vI v1)]) (st := []) km234 k234_6 ?_)
    exact (h.1 c2)
  · refine VL_norm km234 k234_2 (VL_at (al := [(0, vR 11 (283)), (1, vI v1), (2, vI v2)]) (st := []) km234 k234_2 ?_)
    refine V_of ?_
    refine VL_norm km202 k202_0 (VL_at (al := [(0, vR 11 (283)), (1, vI v2), (2, vI (n32 4))]) (st := []) km202 k202_0 ?_)
    refine And.intro (h.2 c2).1 ?_
    refine And.intro (fun c1 => ?_) (fun c1 => ?_)
    · refine VL_norm km234 k234_3 (VL_at (al := [(0, vR 11 (283)), (2, vI v2)]) (st := [vI v1]) km234 k234_3 ?_)
      refine VL_norm km234 k234_5 (VL_at (al := [(0, vR 11 (283)), (2, vI v2)]) (st := [vI (n32 1), vI v1]) km234 k234_5 ?_)
      exact VL_norm km234 k234_1 ((h.2 c2).2.1 c1)
    · refine VL_norm km234 k234_4 (VL_at (al := [(0, vR 11 (283)), (2, vI v2)]) (st := [vI v1]) km234 k234_4 ?_)
      refine VL_norm km234 k234_5 (VL_at (al := [(0, vR 11 (283)), (2, vI v2)]) (st := [vI (n32 0), vI v1]) km234 k234_5 ?_)
      exact VL_norm km234 k234_1 ((h.2 c2).2.2 c1)
/-- BannerParadeModel.withOwn, label 0 -/
theorem w235_0 {D : Nat}  {m : XM} {Q : Int32 → XM → Prop} {E : Nat → XM → Prop}
    (h : VLI (D + 1) 235 1 [(0, vR 11 (283)), (1, vI (n32 0)), (2, vI (n32 0))] [] m Q E) :
    VI (D + 1) 235 [vR 11 (283)] m Q E := by
  refine V_of (VL_at (al := [(0, vR 11 (283))]) (st := []) km235 k235_0 ?_)
  exact VL_norm km235 k235_1 h
/-- BannerParadeModel.withOwn, label 1 -/
theorem w235_1 {D : Nat} {v1 : Int32} {v2 : Int32} {m : XM} {Q : Int32 → XM → Prop} {E : Nat → XM → Prop}
    (h : (((m 284 (ix (n32 6))) ≤ v2 → Q v1 m) ∧ (¬ (m 284 (ix (n32 6))) ≤ v2 → (xin (((n32 15) + ((n32 7) * v2)) + (n32 0)) 243 = true ∧ (xin (((n32 15) + ((n32 7) * v2)) + (n32 6)) 243 = true ∧ (((m 284 (ix (((n32 15) + ((n32 7) * v2)) + (n32 0)))) = (m 284 (ix (((n32 15) + ((n32 7) * v2)) + (n32 6)))) → VLI (D + 1) 235 1 [(0, vR 11 (283)), (1, vI (v1 + (n32 1))), (2, vI (v2 + (n32 1)))] [] m Q E) ∧ (¬ (m 284 (ix (((n32 15) + ((n32 7) * v2)) + (n32 0)))) = (m 284 (ix (((n32 15) + ((n32 7) * v2)) + (n32 6)))) → VLI (D + 1) 235 1 [(0, vR 11 (283)), (1, vI (v1 + (n32 0))), (2, vI (v2 + (n32 1)))] [] m Q E))))))) :
    VLI (D + 1) 235 1 [(0, vR 11 (283)), (1, vI v1), (2, vI v2)] [] m Q E := by
  refine VL_at (al := [(0, vR 11 (283)), (1, vI v1), (2, vI v2)]) (st := []) km235 k235_1 ?_
  refine And.intro (xin_k rfl) ?_
  refine And.intro (fun c2 => ?_) (fun c2 => ?_)
  · refine VL_norm km235 k235_6 (VL_at (al := [(1, vI v1)]) (st := []) km235 k235_6 ?_)
    exact (h.1 c2)
  · refine VL_norm km235 k235_2 (VL_at (al := [(0, vR 11 (283)), (1, vI v1), (2, vI v2)]) (st := []) km235 k235_2 ?_)
    refine V_of ?_
    refine VL_norm km202 k202_0 (VL_at (al := [(0, vR 11 (283)), (1, vI v2), (2, vI (n32 0))]) (st := []) km202 k202_0 ?_)
    refine And.intro (h.2 c2).1 ?_
    refine V_of ?_
    refine VL_norm km202 k202_0 (VL_at (al := [(0, vR 11 (283)), (1, vI v2), (2, vI (n32 6))]) (st := []) km202 k202_0 ?_)
    refine And.intro (h.2 c2).2.1 ?_
    refine And.intro (fun c1 => ?_) (fun c1 => ?_)
    · refine VL_norm km235 k235_3 (VL_at (al := [(0, vR 11 (283)), (2, vI v2)]) (st := [vI v1]) km235 k235_3 ?_)
      refine VL_norm km235 k235_5 (VL_at (al := [(0, vR 11 (283)), (2, vI v2)]) (st := [vI (n32 1), vI v1]) km235 k235_5 ?_)
      exact VL_norm km235 k235_1 ((h.2 c2).2.2.1 c1)
    · refine VL_norm km235 k235_4 (VL_at (al := [(0, vR 11 (283)), (2, vI v2)]) (st := [vI v1]) km235 k235_4 ?_)
      refine VL_norm km235 k235_5 (VL_at (al := [(0, vR 11 (283)), (2, vI v2)]) (st := [vI (n32 0), vI v1]) km235 k235_5 ?_)
      exact VL_norm km235 k235_1 ((h.2 c2).2.2.2 c1)
/-- BannerParadeModel.close, label 0 -/
theorem w236_0 {D : Nat}  {m : XM} {Q : Int32 → XM → Prop} {E : Nat → XM → Prop}
    (h : VLI (D + 2) 236 1 [(0, vR 11 (283)), (1, vI (n32 0)), (2, vI (n32 1))] [] m Q E) :
    VI (D + 2) 236 [vR 11 (283)] m Q E := by
  refine V_of (VL_at (al := [(0, vR 11 (283))]) (st := []) km236 k236_0 ?_)
  exact VL_norm km236 k236_1 h
/-- BannerParadeModel.close, label 1 -/
theorem w236_1 {D : Nat} {v1 : Int32} {v2 : Int32} {m : XM} {Q : Int32 → XM → Prop} {E : Nat → XM → Prop}
    (h : (((m 284 (ix (n32 6))) ≤ v2 → Q v1 m) ∧ (¬ (m 284 (ix (n32 6))) ≤ v2 → (xin (((n32 15) + ((n32 7) * (v2 - (n32 1)))) + (n32 1)) 243 = true ∧ (xin (((n32 15) + ((n32 7) * v2)) + (n32 1)) 243 = true ∧ (((m 284 (ix (n32 0))) < ((m 284 (ix (((n32 15) + ((n32 7) * (v2 - (n32 1)))) + (n32 1)))) - (m 284 (ix (((n32 15) + ((n32 7) * v2)) + (n32 1))))) → VLI (D + 2) 236 1 [(0, vR 11 (283)), (1, vI (v1 + (n32 0))), (2, vI (v2 + (n32 1)))] [] m Q E) ∧ (¬ (m 284 (ix (n32 0))) < ((m 284 (ix (((n32 15) + ((n32 7) * (v2 - (n32 1)))) + (n32 1)))) - (m 284 (ix (((n32 15) + ((n32 7) * v2)) + (n32 1))))) → VLI (D + 2) 236 1 [(0, vR 11 (283)), (1, vI (v1 + (n32 1))), (2, vI (v2 + (n32 1)))] [] m Q E))))))) :
    VLI (D + 2) 236 1 [(0, vR 11 (283)), (1, vI v1), (2, vI v2)] [] m Q E := by
  refine VL_at (al := [(0, vR 11 (283)), (1, vI v1), (2, vI v2)]) (st := []) km236 k236_1 ?_
  refine And.intro (xin_k rfl) ?_
  refine And.intro (fun c2 => ?_) (fun c2 => ?_)
  · refine VL_norm km236 k236_6 (VL_at (al := [(1, vI v1)]) (st := []) km236 k236_6 ?_)
    exact (h.1 c2)
  · refine VL_norm km236 k236_2 (VL_at (al := [(0, vR 11 (283)), (1, vI v1), (2, vI v2)]) (st := []) km236 k236_2 ?_)
    refine V_of ?_
    refine VL_norm km211 k211_0 (VL_at (al := [(0, vR 11 (283)), (1, vI v2)]) (st := []) km211 k211_0 ?_)
    refine V_of ?_
    refine VL_norm km202 k202_0 (VL_at (al := [(0, vR 11 (283)), (1, vI (v2 - (n32 1))), (2, vI (n32 1))]) (st := []) km202 k202_0 ?_)
    refine And.intro (h.2 c2).1 ?_
    refine V_of ?_
    refine VL_norm km202 k202_0 (VL_at (al := [(0, vR 11 (283)), (1, vI v2), (2, vI (n32 1))]) (st := []) km202 k202_0 ?_)
    refine And.intro (h.2 c2).2.1 ?_
    refine And.intro (xin_k rfl) ?_
    refine And.intro (fun c1 => ?_) (fun c1 => ?_)
    · refine VL_norm km236 k236_4 (VL_at (al := [(0, vR 11 (283)), (2, vI v2)]) (st := [vI v1]) km236 k236_4 ?_)
      refine VL_norm km236 k236_5 (VL_at (al := [(0, vR 11 (283)), (2, vI v2)]) (st := [vI (n32 0), vI v1]) km236 k236_5 ?_)
      exact VL_norm km236 k236_1 ((h.2 c2).2.2.1 c1)
    · refine VL_norm km236 k236_3 (VL_at (al := [(0, vR 11 (283)), (2, vI v2)]) (st := [vI v1]) km236 k236_3 ?_)
      refine VL_norm km236 k236_5 (VL_at (al := [(0, vR 11 (283)), (2, vI v2)]) (st := [vI (n32 1), vI v1]) km236 k236_5 ?_)
      exact VL_norm km236 k236_1 ((h.2 c2).2.2.2 c1)
/-- BannerParadeModel.strides, label 0 -/
theorem w237_0 {D : Nat}  {m : XM} {Q : Int32 → XM → Prop} {E : Nat → XM → Prop}
    (h : VLI (D + 2) 237 1 [(0, vR 11 (283)), (1, vI (n32 0)), (2, vI (n32 0))] [] m Q E) :
    VI (D + 2) 237 [vR 11 (283)] m Q E := by
  refine V_of (VL_at (al := [(0, vR 11 (283))]) (st := []) km237 k237_0 ?_)
  exact VL_norm km237 k237_1 h
/-- BannerParadeModel.strides, label 1 -/
theorem w237_1 {D : Nat} {v1 : Int32} {v2 : Int32} {m : XM} {Q : Int32 → XM → Prop} {E : Nat → XM → Prop}
    (h : (((m 284 (ix (n32 6))) ≤ v2 → Q v1 m) ∧ (¬ (m 284 (ix (n32 6))) ≤ v2 → VI (D + 1) 210 [vR 11 (283), vI v2] m (fun x1 m1 => VLI (D + 2) 237 1 [(0, vR 11 (283)), (1, vI (v1 + x1)), (2, vI (v2 + (n32 1)))] [] m1 Q E) E))) :
    VLI (D + 2) 237 1 [(0, vR 11 (283)), (1, vI v1), (2, vI v2)] [] m Q E := by
  refine VL_at (al := [(0, vR 11 (283)), (1, vI v1), (2, vI v2)]) (st := []) km237 k237_1 ?_
  refine And.intro (xin_k rfl) ?_
  refine And.intro (fun c2 => ?_) (fun c2 => ?_)
  · refine VL_norm km237 k237_3 (VL_at (al := [(1, vI v1)]) (st := []) km237 k237_3 ?_)
    exact (h.1 c2)
  · refine VL_norm km237 k237_2 (VL_at (al := [(0, vR 11 (283)), (1, vI v1), (2, vI v2)]) (st := []) km237 k237_2 ?_)
    refine V_mono (h.2 c2) (fun u1 m1 h1 => ?_) (fun _ _ h => h)
    exact VL_norm km237 k237_1 h1
/-- BannerParadeModel.seeing, label 0 -/
theorem w238_0 {D : Nat}  {m : XM} {Q : Int32 → XM → Prop} {E : Nat → XM → Prop}
    (h : VLI (D + 3) 238 1 [(0, vR 11 (283)), (1, vI (n32 0)), (2, vI (n32 0))] [] m Q E) :
    VI (D + 3) 238 [vR 11 (283)] m Q E := by
  refine V_of (VL_at (al := [(0, vR 11 (283))]) (st := []) km238 k238_0 ?_)
  exact VL_norm km238 k238_1 h
/-- BannerParadeModel.seeing, label 1 -/
theorem w238_1 {D : Nat} {v1 : Int32} {v2 : Int32} {m : XM} {Q : Int32 → XM → Prop} {E : Nat → XM → Prop}
    (h : (((m 284 (ix (n32 7))) ≤ v2 → Q v1 m) ∧ (¬ (m 284 (ix (n32 7))) ≤ v2 → VI (D + 2) 247 [vR 11 (283), vI v2] m (fun x1 m1 => ((x1 = (n32 0) → VLI (D + 3) 238 1 [(0, vR 11 (283)), (1, vI (v1 + (n32 0))), (2, vI (v2 + (n32 1)))] [] m1 Q E) ∧ (¬ x1 = (n32 0) → VLI (D + 3) 238 1 [(0, vR 11 (283)), (1, vI (v1 + (n32 1))), (2, vI (v2 + (n32 1)))] [] m1 Q E))) E))) :
    VLI (D + 3) 238 1 [(0, vR 11 (283)), (1, vI v1), (2, vI v2)] [] m Q E := by
  refine VL_at (al := [(0, vR 11 (283)), (1, vI v1), (2, vI v2)]) (st := []) km238 k238_1 ?_
  refine And.intro (xin_k rfl) ?_
  refine And.intro (fun c3 => ?_) (fun c3 => ?_)
  · refine VL_norm km238 k238_6 (VL_at (al := [(1, vI v1)]) (st := []) km238 k238_6 ?_)
    exact (h.1 c3)
  · refine VL_norm km238 k238_2 (VL_at (al := [(0, vR 11 (283)), (1, vI v1), (2, vI v2)]) (st := []) km238 k238_2 ?_)
    refine V_mono (h.2 c3) (fun u1 m1 h1 => ?_) (fun _ _ h => h)
    refine And.intro (fun c2 => ?_) (fun c2 => ?_)
    · refine VL_norm km238 k238_4 (VL_at (al := [(0, vR 11 (283)), (2, vI v2)]) (st := [vI v1]) km238 k238_4 ?_)
      refine VL_norm km238 k238_5 (VL_at (al := [(0, vR 11 (283)), (2, vI v2)]) (st := [vI (n32 0), vI v1]) km238 k238_5 ?_)
      exact VL_norm km238 k238_1 (h1.1 c2)
    · refine VL_norm km238 k238_3 (VL_at (al := [(0, vR 11 (283)), (2, vI v2)]) (st := [vI v1]) km238 k238_3 ?_)
      refine VL_norm km238 k238_5 (VL_at (al := [(0, vR 11 (283)), (2, vI v2)]) (st := [vI (n32 1), vI v1]) km238 k238_5 ?_)
      exact VL_norm km238 k238_1 (h1.2 c2)
/-- BannerParadeModel.count, label 0 -/
theorem w239_0 {D : Nat} {v1 : Int32} {m : XM} {Q : Int32 → XM → Prop} {E : Nat → XM → Prop}
    (h : ((v1 < (n32 0) → VI (D + 3) 177 [vR 11 (283), vI (m 283 6), vI (n32 0)] m (fun x1 m1 => ((x1 = (n32 0) → Q (n32 0) m1) ∧ (¬ x1 = (n32 0) → ((v1 = (n32 0) → Q (m1 284 (ix (n32 6))) m1) ∧ (¬ v1 = (n32 0) → ((v1 = (n32 1) → Q (m1 284 (ix (n32 7))) m1) ∧ (¬ v1 = (n32 1) → ((v1 = (n32 2) → Q (m1 284 (ix (n32 8))) m1) ∧ (¬ v1 = (n32 2) → ((v1 = (n32 3) → Q (m1 284 (ix (n32 9))) m1) ∧ (¬ v1 = (n32 3) → ((v1 = (n32 4) → VI (D + 3) 230 [vR 11 (283)] m1 (fun x2 m2 => Q x2 m2) E) ∧ (¬ v1 = (n32 4) → ((v1 = (n32 5) → Q (m1 284 (ix (n32 10))) m1) ∧ (¬ v1 = (n32 5) → ((v1 = (n32 6) → Q (m1 284 (ix (n32 11))) m1) ∧ (¬ v1 = (n32 6) → ((v1 = (n32 7) → Q (m1 284 (ix (n32 12))) m1) ∧ (¬ v1 = (n32 7) → ((v1 = (n32 8) → Q (m1 284 (ix (n32 13))) m1) ∧ (¬ v1 = (n32 8) → ((v1 = (n32 9) → Q (m1 284 (ix (n32 14))) m1) ∧ (¬ v1 = (n32 9) → ((v1 = (n32 10) → VI (D + 3) 232 [vR 11 (283)] m1 (fun x3 m3 => Q x3 m3) E) ∧ (¬ v1 = (n32 10) → ((v1 = (n32 11) → VI (D + 3) 233 [vR 11 (283)] m1 (fun x4 m4 => Q x4 m4) E) ∧ (¬ v1 = (n32 11) → ((v1 = (n32 12) → VI (D + 3) 234 [vR 11 (283)] m1 (fun x5 m5 => Q x5 m5) E) ∧ (¬ v1 = (n32 12) → ((v1 = (n32 13) → VI (D + 3) 235 [vR 11 (283)] m1 (fun x6 m6 => Q x6 m6) E) ∧ (¬ v1 = (n32 13) → ((v1 = (n32 14) → VI (D + 3) 236 [vR 11 (283)] m1 (fun x7 m7 => Q x7 m7) E) ∧ (¬ v1 = (n32 14) → ((v1 = (n32 15) → VI (D + 3) 237 [vR 11 (283)] m1 (fun x8 m8 => Q x8 m8) E) ∧ (¬ v1 = (n32 15) → VI (D + 3) 238 [vR 11 (283)] m1 (fun x9 m9 => Q x9 m9) E))))))))))))))))))))))))))))))))))) E) ∧ (¬ v1 < (n32 0) → (((n32 16) < v1 → VI (D + 3) 177 [vR 11 (283), vI (m 283 6), vI (n32 0)] m (fun x27 m27 => ((x27 = (n32 0) → Q (n32 0) m27) ∧ (¬ x27 = (n32 0) → ((v1 = (n32 0) → Q (m27 284 (ix (n32 6))) m27) ∧ (¬ v1 = (n32 0) → ((v1 = (n32 1) → Q (m27 284 (ix (n32 7))) m27) ∧ (¬ v1 = (n32 1) → ((v1 = (n32 2) → Q (m27 284 (ix (n32 8))) m27) ∧ (¬ v1 = (n32 2) → ((v1 = (n32 3) → Q (m27 284 (ix (n32 9))) m27) ∧ (¬ v1 = (n32 3) → ((v1 = (n32 4) → VI (D + 3) 230 [vR 11 (283)] m27 (fun x28 m28 => Q x28 m28) E) ∧ (¬ v1 = (n32 4) → ((v1 = (n32 5) → Q (m27 284 (ix (n32 10))) m27) ∧ (¬ v1 = (n32 5) → ((v1 = (n32 6) → Q (m27 284 (ix (n32 11))) m27) ∧ (¬ v1 = (n32 6) → ((v1 = (n32 7) → Q (m27 284 (ix (n32 12))) m27) ∧ (¬ v1 = (n32 7) → ((v1 = (n32 8) → Q (m27 284 (ix (n32 13))) m27) ∧ (¬ v1 = (n32 8) → ((v1 = (n32 9) → Q (m27 284 (ix (n32 14))) m27) ∧ (¬ v1 = (n32 9) → ((v1 = (n32 10) → VI (D + 3) 232 [vR 11 (283)] m27 (fun x29 m29 => Q x29 m29) E) ∧ (¬ v1 = (n32 10) → ((v1 = (n32 11) → VI (D + 3) 233 [vR 11 (283)] m27 (fun x30 m30 => Q x30 m30) E) ∧ (¬ v1 = (n32 11) → ((v1 = (n32 12) → VI (D + 3) 234 [vR 11 (283)] m27 (fun x31 m31 => Q x31 m31) E) ∧ (¬ v1 = (n32 12) → ((v1 = (n32 13) → VI (D + 3) 235 [vR 11 (283)] m27 (fun x32 m32 => Q x32 m32) E) ∧ (¬ v1 = (n32 13) → ((v1 = (n32 14) → VI (D + 3) 236 [vR 11 (283)] m27 (fun x33 m33 => Q x33 m33) E) ∧ (¬ v1 = (n32 14) → ((v1 = (n32 15) → VI (D + 3) 237 [vR 11 (283)] m27 (fun x34 m34 => Q x34 m34) E) ∧ (¬ v1 = (n32 15) → VI (D + 3) 238 [vR 11 (283)] m27 (fun x35 m35 => Q x35 m35) E))))))))))))))))))))))))))))))))))) E) ∧ (¬ (n32 16) < v1 → VI (D + 3) 177 [vR 11 (283), vI (m 283 6), vI (n32 1)] m (fun x53 m53 => ((x53 = (n32 0) → Q (n32 0) m53) ∧ (¬ x53 = (n32 0) → ((v1 = (n32 0) → Q (m53 284 (ix (n32 6))) m53) ∧ (¬ v1 = (n32 0) → ((v1 = (n32 1) → Q (m53 284 (ix (n32 7))) m53) ∧ (¬ v1 = (n32 1) → ((v1 = (n32 2) → Q (m53 284 (ix (n32 8))) m53) ∧ (¬ v1 = (n32 2) → ((v1 = (n32 3) → Q (m53 284 (ix (n32 9))) m53) ∧ (¬ v1 = (n32 3) → ((v1 = (n32 4) → VI (D + 3) 230 [vR 11 (283)] m53 (fun x54 m54 => Q x54 m54) E) ∧ (¬ v1 = (n32 4) → ((v1 = (n32 5) → Q (m53 284 (ix (n32 10))) m53) ∧ (¬ v1 = (n32 5) → ((v1 = (n32 6) → Q (m53 284 (ix (n32 11))) m53) ∧ (¬ v1 = (n32 6) → ((v1 = (n32 7) → Q (m53 284 (ix (n32 12))) m53) ∧ (¬ v1 = (n32 7) → ((v1 = (n32 8) → Q (m53 284 (ix (n32 13))) m53) ∧ (¬ v1 = (n32 8) → ((v1 = (n32 9) → Q (m53 284 (ix (n32 14))) m53) ∧ (¬ v1 = (n32 9) → ((v1 = (n32 10) → VI (D + 3) 232 [vR 11 (283)] m53 (fun x55 m55 => Q x55 m55) E) ∧ (¬ v1 = (n32 10) → ((v1 = (n32 11) → VI (D + 3) 233 [vR 11 (283)] m53 (fun x56 m56 => Q x56 m56) E) ∧ (¬ v1 = (n32 11) → ((v1 = (n32 12) → VI (D + 3) 234 [vR 11 (283)] m53 (fun x57 m57 => Q x57 m57) E) ∧ (¬ v1 = (n32 12) → ((v1 = (n32 13) → VI (D + 3) 235 [vR 11 (283)] m53 (fun x58 m58 => Q x58 m58) E) ∧ (¬ v1 = (n32 13) → ((v1 = (n32 14) → VI (D + 3) 236 [vR 11 (283)] m53 (fun x59 m59 => Q x59 m59) E) ∧ (¬ v1 = (n32 14) → ((v1 = (n32 15) → VI (D + 3) 237 [vR 11 (283)] m53 (fun x60 m60 => Q x60 m60) E) ∧ (¬ v1 = (n32 15) → VI (D + 3) 238 [vR 11 (283)] m53 (fun x61 m61 => Q x61 m61) E))))))))))))))))))))))))))))))))))) E))))) :
    VI (D + 4) 239 [vR 11 (283), vI v1] m Q E := by
  refine V_of (VL_at (al := [(0, vR 11 (283)), (1, vI v1)]) (st := []) km239 k239_0 ?_)
  refine V_of ?_
  refine VL_norm km175 k175_0 (VL_at (al := [(0, vI v1), (1, vI (n32 0)), (2, vI (n32 16))]) (st := []) km175 k175_0 ?_)
  refine And.intro (fun c80 => ?_) (fun c80 => ?_)
  · refine VL_norm km175 k175_3 (VL_at (al := []) (st := []) km175 k175_3 ?_)
    refine VL_norm km175 k175_4 (VL_at (al := []) (st := [vI (n32 0)]) km175 k175_4 ?_)
    refine And.intro xrt20 ?_
    refine V_mono (h.1 c80) (fun u1 m1 h1 => ?_) (fun _ _ h => h)
    refine And.intro (fun c26 => ?_) (fun c26 => ?_)
    · refine VL_norm km239 k239_1 (VL_at (al := []) (st := []) km239 k239_1 ?_)
      exact (h1.1 c26)
    · refine VL_norm km239 k239_2 (VL_at (al := [(0, vR 11 (283)), (1, vI v1)]) (st := []) km239 k239_2 ?_)
      refine And.intro (fun c25 => ?_) (fun c25 => ?_)
      · refine VL_norm km239 k239_3 (VL_at (al := [(0, vR 11 (283))]) (st := []) km239 k239_3 ?_)
        refine And.intro (xin_k rfl) ?_
        exact ((h1.2 c26).1 c25)
      · refine And.intro (fun c24 => ?_) (fun c24 => ?_)
        · refine VL_norm km239 k239_4 (VL_at (al := [(0, vR 11 (283))]) (st := []) km239 k239_4 ?_)
          refine And.intro (xin_k rfl) ?_
          exact (((h1.2 c26).2 c25).1 c24)
        · refine And.intro (fun c23 => ?_) (fun c23 => ?_)
          · refine VL_norm km239 k239_5 (VL_at (al := [(0, vR 11 (283))]) (st := []) km239 k239_5 ?_)
            refine And.intro (xin_k rfl) ?_
            exact ((((h1.2 c26).2 c25).2 c24).1 c23)
          · refine And.intro (fun c22 => ?_) (fun c22 => ?_)
            · refine VL_norm km239 k239_6 (VL_at (al := [(0, vR 11 (283))]) (st := []) km239 k239_6 ?_)
              refine And.intro (xin_k rfl) ?_
              exact (((((h1.2 c26).2 c25).2 c24).2 c23).1 c22)
            · refine And.intro (fun c21 => ?_) (fun c21 => ?_)
              · refine VL_norm km239 k239_7 (VL_at (al := [(0, vR 11 (283))]) (st := []) km239 k239_7 ?_)
                refine V_mono ((((((h1.2 c26).2 c25).2 c24).2 c23).2 c22).1 c21) (fun u2 m2 h2 => ?_) (fun _ _ h => h)
                exact h2
              · refine And.intro (fun c20 => ?_) (fun c20 => ?_)
                · refine VL_norm km239 k239_8 (VL_at (al := [(0, vR 11 (283))]) (st := []) km239 k239_8 ?_)
                  refine And.intro (xin_k rfl) ?_
                  exact (((((((h1.2 c26).2 c25).2 c24).2 c23).2 c22).2 c21).1 c20)
                · refine And.intro (fun c19 => ?_) (fun c19 => ?_)
                  · refine VL_norm km239 k239_9 (VL_at (al := [(0, vR 11 (283))]) (st := []) km239 k239_9 ?_)
                    refine And.intro (xin_k rfl) ?_
                    exact ((((((((h1.2 c26).2 c25).2 c24).2 c23).2 c22).2 c21).2 c20).1 c19)
                  · refine And.intro (fun c18 => ?_) (fun c18 => ?_)
                    · refine VL_norm km239 k239_10 (VL_at (al := [(0, vR 11 (283))]) (st := []) km239 k239_10 ?_)
                      refine And.intro (xin_k rfl) ?_
                      exact (((((((((h1.2 c26).2 c25).2 c24).2 c23).2 c22).2 c21).2 c20).2 c19).1 c18)
                    · refine And.intro (fun c17 => ?_) (fun c17 => ?_)
                      · refine VL_norm km239 k239_11 (VL_at (al := [(0, vR 11 (283))]) (st := []) km239 k239_11 ?_)
                        refine And.intro (xin_k rfl) ?_
                        exact ((((((((((h1.2 c26).2 c25).2 c24).2 c23).2 c22).2 c21).2 c20).2 c19).2 c18).1 c17)
                      · refine And.intro (fun c16 => ?_) (fun c16 => ?_)
                        · refine VL_norm km239 k239_12 (VL_at (al := [(0, vR 11 (283))]) (st := []) km239 k239_12 ?_)
                          refine And.intro (xin_k rfl) ?_
                          exact (((((((((((h1.2 c26).2 c25).2 c24).2 c23).2 c22).2 c21).2 c20).2 c19).2 c18).2 c17).1 c16)
                        · refine And.intro (fun c15 => ?_) (fun c15 => ?_)
                          · refine VL_norm km239 k239_13 (VL_at (al := [(0, vR 11 (283))]) (st := []) km239 k239_13 ?_)
                            refine V_mono ((((((((((((h1.2 c26).2 c25).2 c24).2 c23).2 c22).2 c21).2 c20).2 c19).2 c18).2 c17).2 c16).1 c15) (fun u3 m3 h3 => ?_) (fun _ _ h => h)
                            exact h3
                          · refine And.intro (fun c14 => ?_) (fun c14 => ?_)
                            · refine VL_norm km239 k239_14 (VL_at (al := [(0, vR 11 (283))]) (st := []) km239 k239_14 ?_)
                              refine V_mono (((((((((((((h1.2 c26).2 c25).2 c24).2 c23).2 c22).2 c21).2 c20).2 c19).2 c18).2 c17).2 c16).2 c15).1 c14) (fun u4 m4 h4 => ?_) (fun _ _ h => h)
                              exact h4
                            · refine And.intro (fun c13 => ?_) (fun c13 => ?_)
                              · refine VL_norm km239 k239_15 (VL_at (al := [(0, vR 11 (283))]) (st := []) km239 k239_15 ?_)
                                refine V_mono ((((((((((((((h1.2 c26).2 c25).2 c24).2 c23).2 c22).2 c21).2 c20).2 c19).2 c18).2 c17).2 c16).2 c15).2 c14).1 c13) (fun u5 m5 h5 => ?_) (fun _ _ h => h)
                                exact h5
                              · refine And.intro (fun c12 => ?_) (fun c12 => ?_)
                                · refine VL_norm km239 k239_16 (VL_at (al := [(0, vR 11 (283))]) (st := []) km239 k239_16 ?_)
                                  refine V_mono (((((((((((((((h1.2 c26).2 c25).2 c24).2 c23).2 c22).2 c21).2 c20).2 c19).2 c18).2 c17).2 c16).2 c15).2 c14).2 c13).1 c12) (fun u6 m6 h6 => ?_) (fun _ _ h => h)
                                  exact h6
                                · refine And.intro (fun c11 => ?_) (fun c11 => ?_)
                                  · refine VL_norm km239 k239_17 (VL_at (al := [(0, vR 11 (283))]) (st := []) km239 k239_17 ?_)
                                    refine V_mono ((((((((((((((((h1.2 c26).2 c25).2 c24).2 c23).2 c22).2 c21).2 c20).2 c19).2 c18).2 c17).2 c16).2 c15).2 c14).2 c13).2 c12).1 c11) (fun u7 m7 h7 => ?_) (fun _ _ h => h)
                                    exact h7
                                  · refine And.intro (fun c10 => ?_) (fun c10 => ?_)
                                    · refine VL_norm km239 k239_18 (VL_at (al := [(0, vR 11 (283))]) (st := []) km239 k239_18 ?_)
                                      refine V_mono (((((((((((((((((h1.2 c26).2 c25).2 c24).2 c23).2 c22).2 c21).2 c20).2 c19).2 c18).2 c17).2 c16).2 c15).2 c14).2 c13).2 c12).2 c11).1 c10) (fun u8 m8 h8 => ?_) (fun _ _ h => h)
                                      exact h8
                                    · refine VL_norm km239 k239_19 (VL_at (al := [(0, vR 11 (283))]) (st := []) km239 k239_19 ?_)
                                      refine V_mono (((((((((((((((((h1.2 c26).2 c25).2 c24).2 c23).2 c22).2 c21).2 c20).2 c19).2 c18).2 c17).2 c16).2 c15).2 c14).2 c13).2 c12).2 c11).2 c10) (fun u9 m9 h9 => ?_) (fun _ _ h => h)
                                      exact h9
  · refine VL_norm km175 k175_1 (VL_at (al := [(0, vI v1), (2, vI (n32 16))]) (st := []) km175 k175_1 ?_)
    refine And.intro (fun c79 => ?_) (fun c79 => ?_)
    · refine VL_norm km175 k175_3 (VL_at (al := []) (st := []) km175 k175_3 ?_)
      refine VL_norm km175 k175_4 (VL_at (al := []) (st := [vI (n32 0)]) km175 k175_4 ?_)
      refine And.intro xrt20 ?_
      refine V_mono ((h.2 c80).1 c79) (fun u27 m27 h27 => ?_) (fun _ _ h => h)
      refine And.intro (fun c52 => ?_) (fun c52 => ?_)
      · refine VL_norm km239 k239_1 (VL_at (al := []) (st := []) km239 k239_1 ?_)
        exact (h27.1 c52)
      · refine VL_norm km239 k239_2 (VL_at (al := [(0, vR 11 (283)), (1, vI v1)]) (st := []) km239 k239_2 ?_)
        refine And.intro (fun c51 => ?_) (fun c51 => ?_)
        · refine VL_norm km239 k239_3 (VL_at (al := [(0, vR 11 (283))]) (st := []) km239 k239_3 ?_)
          refine And.intro (xin_k rfl) ?_
          exact ((h27.2 c52).1 c51)
        · refine And.intro (fun c50 => ?_) (fun c50 => ?_)
          · refine VL_norm km239 k239_4 (VL_at (al := [(0, vR 11 (283))]) (st := []) km239 k239_4 ?_)
            refine And.intro (xin_k rfl) ?_
            exact (((h27.2 c52).2 c51).1 c50)
          · refine And.intro (fun c49 => ?_) (fun c49 => ?_)
            · refine VL_norm km239 k239_5 (VL_at (al := [(0, vR 11 (283))]) (st := []) km239 k239_5 ?_)
              refine And.intro (xin_k rfl) ?_
              exact ((((h27.2 c52).2 c51).2 c50).1 c49)
            · refine And.intro (fun c48 => ?_) (fun c48 => ?_)
              · refine VL_norm km239 k239_6 (VL_at (al := [(0, vR 11 (283))]) (st := []) km239 k239_6 ?_)
                refine And.intro (xin_k rfl) ?_
                exact (((((h27.2 c52).2 c51).2 c50).2 c49).1 c48)
              · refine And.intro (fun c47 => ?_) (fun c47 => ?_)
                · refine VL_norm km239 k239_7 (VL_at (al := [(0, vR 11 (283))]) (st := []) km239 k239_7 ?_)
                  refine V_mono ((((((h27.2 c52).2 c51).2 c50).2 c49).2 c48).1 c47) (fun u28 m28 h28 => ?_) (fun _ _ h => h)
                  exact h28
                · refine And.intro (fun c46 => ?_) (fun c46 => ?_)
                  · refine VL_norm km239 k239_8 (VL_at (al := [(0, vR 11 (283))]) (st := []) km239 k239_8 ?_)
                    refine And.intro (xin_k rfl) ?_
                    exact (((((((h27.2 c52).2 c51).2 c50).2 c49).2 c48).2 c47).1 c46)
                  · refine And.intro (fun c45 => ?_) (fun c45 => ?_)
                    · refine VL_norm km239 k239_9 (VL_at (al := [(0, vR 11 (283))]) (st := []) km239 k239_9 ?_)
                      refine And.intro (xin_k rfl) ?_
                      exact ((((((((h27.2 c52).2 c51).2 c50).2 c49).2 c48).2 c47).2 c46).1 c45)
                    · refine And.intro (fun c44 => ?_) (fun c44 => ?_)
                      · refine VL_norm km239 k239_10 (VL_at (al := [(0, vR 11 (283))]) (st := []) km239 k239_10 ?_)
                        refine And.intro (xin_k rfl) ?_
                        exact (((((((((h27.2 c52).2 c51).2 c50).2 c49).2 c48).2 c47).2 c46).2 c45).1 c44)
                      · refine And.intro (fun c43 => ?_) (fun c43 => ?_)
                        · refine VL_norm km239 k239_11 (VL_at (al := [(0, vR 11 (283))]) (st := []) km239 k239_11 ?_)
                          refine And.intro (xin_k rfl) ?_
                          exact ((((((((((h27.2 c52).2 c51).2 c50).2 c49).2 c48).2 c47).2 c46).2 c45).2 c44).1 c43)
                        · refine And.intro (fun c42 => ?_) (fun c42 => ?_)
                          · refine VL_norm km239 k239_12 (VL_at (al := [(0, vR 11 (283))]) (st := []) km239 k239_12 ?_)
                            refine And.intro (xin_k rfl) ?_
                            exact (((((((((((h27.2 c52).2 c51).2 c50).2 c49).2 c48).2 c47).2 c46).2 c45).2 c44).2 c43).1 c42)
                          · refine And.intro (fun c41 => ?_) (fun c41 => ?_)
                            · refine VL_norm km239 k239_13 (VL_at (al := [(0, vR 11 (283))]) (st := []) km239 k239_13 ?_)
                              refine V_mono ((((((((((((h27.2 c52).2 c51).2 c50).2 c49).2 c48).2 c47).2 c46).2 c45).2 c44).2 c43).2 c42).1 c41) (fun u29 m29 h29 => ?_) (fun _ _ h => h)
                              exact h29
                            · refine And.intro (fun c40 => ?_) (fun c40 => ?_)
                              · refine VL_norm km239 k239_14 (VL_at (al := [(0, vR 11 (283))]) (st := []) km239 k239_14 ?_)
                                refine V_mono (((((((((((((h27.2 c52).2 c51).2 c50).2 c49).2 c48).2 c47).2 c46).2 c45).2 c44).2 c43).2 c42).2 c41).1 c40) (fun u30 m30 h30 => ?_) (fun _ _ h => h)
                                exact h30
                              · refine And.intro (fun c39 => ?_) (fun c39 => ?_)
                                · refine VL_norm km239 k239_15 (VL_at (al := [(0, vR 11 (283))]) (st := []) km239 k239_15 ?_)
                                  refine V_mono ((((((((((((((h27.2 c52).2 c51).2 c50).2 c49).2 c48).2 c47).2 c46).2 c45).2 c44).2 c43).2 c42).2 c41).2 c40).1 c39) (fun u31 m31 h31 => ?_) (fun _ _ h => h)
                                  exact h31
                                · refine And.intro (fun c38 => ?_) (fun c38 => ?_)
                                  · refine VL_norm km239 k239_16 (VL_at (al := [(0, vR 11 (283))]) (st := []) km239 k239_16 ?_)
                                    refine V_mono (((((((((((((((h27.2 c52).2 c51).2 c50).2 c49).2 c48).2 c47).2 c46).2 c45).2 c44).2 c43).2 c42).2 c41).2 c40).2 c39).1 c38) (fun u32 m32 h32 => ?_) (fun _ _ h => h)
                                    exact h32
                                  · refine And.intro (fun c37 => ?_) (fun c37 => ?_)
                                    · refine VL_norm km239 k239_17 (VL_at (al := [(0, vR 11 (283))]) (st := []) km239 k239_17 ?_)
                                      refine V_mono ((((((((((((((((h27.2 c52).2 c51).2 c50).2 c49).2 c48).2 c47).2 c46).2 c45).2 c44).2 c43).2 c42).2 c41).2 c40).2 c39).2 c38).1 c37) (fun u33 m33 h33 => ?_) (fun _ _ h => h)
                                      exact h33
                                    · refine And.intro (fun c36 => ?_) (fun c36 => ?_)
                                      · refine VL_norm km239 k239_18 (VL_at (al := [(0, vR 11 (283))]) (st := []) km239 k239_18 ?_)
                                        refine V_mono (((((((((((((((((h27.2 c52).2 c51).2 c50).2 c49).2 c48).2 c47).2 c46).2 c45).2 c44).2 c43).2 c42).2 c41).2 c40).2 c39).2 c38).2 c37).1 c36) (fun u34 m34 h34 => ?_) (fun _ _ h => h)
                                        exact h34
                                      · refine VL_norm km239 k239_19 (VL_at (al := [(0, vR 11 (283))]) (st := []) km239 k239_19 ?_)
                                        refine V_mono (((((((((((((((((h27.2 c52).2 c51).2 c50).2 c49).2 c48).2 c47).2 c46).2 c45).2 c44).2 c43).2 c42).2 c41).2 c40).2 c39).2 c38).2 c37).2 c36) (fun u35 m35 h35 => ?_) (fun _ _ h => h)
                                        exact h35
    · refine VL_norm km175 k175_2 (VL_at (al := []) (st := []) km175 k175_2 ?_)
      refine VL_norm km175 k175_4 (VL_at (al := []) (st := [vI (n32 1)]) km175 k175_4 ?_)
      refine And.intro xrt21 ?_
      refine V_mono ((h.2 c80).2 c79) (fun u53 m53 h53 => ?_) (fun _ _ h => h)
      refine And.intro (fun c78 => ?_) (fun c78 => ?_)
      · refine VL_norm km239 k239_1 (VL_at (al := []) (st := []) km239 k239_1 ?_)
        exact (h53.1 c78)
      · refine VL_norm km239 k239_2 (VL_at (al := [(0, vR 11 (283)), (1, vI v1)]) (st := []) km239 k239_2 ?_)
        refine And.intro (fun c77 => ?_) (fun c77 => ?_)
        · refine VL_norm km239 k239_3 (VL_at (al := [(0, vR 11 (283))]) (st := []) km239 k239_3 ?_)
          refine And.intro (xin_k rfl) ?_
          exact ((h53.2 c78).1 c77)
        · refine And.intro (fun c76 => ?_) (fun c76 => ?_)
          · refine VL_norm km239 k239_4 (VL_at (al := [(0, vR 11 (283))]) (st := []) km239 k239_4 ?_)
            refine And.intro (xin_k rfl) ?_
            exact (((h53.2 c78).2 c77).1 c76)
          · refine And.intro (fun c75 => ?_) (fun c75 => ?_)
            · refine VL_norm km239 k239_5 (VL_at (al := [(0, vR 11 (283))]) (st := []) km239 k239_5 ?_)
              refine And.intro (xin_k rfl) ?_
              exact ((((h53.2 c78).2 c77).2 c76).1 c75)
            · refine And.intro (fun c74 => ?_) (fun c74 => ?_)
              · refine VL_norm km239 k239_6 (VL_at (al := [(0, vR 11 (283))]) (st := []) km239 k239_6 ?_)
                refine And.intro (xin_k rfl) ?_
                exact (((((h53.2 c78).2 c77).2 c76).2 c75).1 c74)
              · refine And.intro (fun c73 => ?_) (fun c73 => ?_)
                · refine VL_norm km239 k239_7 (VL_at (al := [(0, vR 11 (283))]) (st := []) km239 k239_7 ?_)
                  refine V_mono ((((((h53.2 c78).2 c77).2 c76).2 c75).2 c74).1 c73) (fun u54 m54 h54 => ?_) (fun _ _ h => h)
                  exact h54
                · refine And.intro (fun c72 => ?_) (fun c72 => ?_)
                  · refine VL_norm km239 k239_8 (VL_at (al := [(0, vR 11 (283))]) (st := []) km239 k239_8 ?_)
                    refine And.intro (xin_k rfl) ?_
                    exact (((((((h53.2 c78).2 c77).2 c76).2 c75).2 c74).2 c73).1 c72)
                  · refine And.intro (fun c71 => ?_) (fun c71 => ?_)
                    · refine VL_norm km239 k239_9 (VL_at (al := [(0, vR 11 (283))]) (st := []) km239 k239_9 ?_)
                      refine And.intro (xin_k rfl) ?_
                      exact ((((((((h53.2 c78).2 c77).2 c76).2 c75).2 c74).2 c73).2 c72).1 c71)
                    · refine And.intro (fun c70 => ?_) (fun c70 => ?_)
                      · refine VL_norm km239 k239_10 (VL_at (al := [(0, vR 11 (283))]) (st := []) km239 k239_10 ?_)
                        refine And.intro (xin_k rfl) ?_
                        exact (((((((((h53.2 c78).2 c77).2 c76).2 c75).2 c74).2 c73).2 c72).2 c71).1 c70)
                      · refine And.intro (fun c69 => ?_) (fun c69 => ?_)
                        · refine VL_norm km239 k239_11 (VL_at (al := [(0, vR 11 (283))]) (st := []) km239 k239_11 ?_)
                          refine And.intro (xin_k rfl) ?_
                          exact ((((((((((h53.2 c78).2 c77).2 c76).2 c75).2 c74).2 c73).2 c72).2 c71).2 c70).1 c69)
                        · refine And.intro (fun c68 => ?_) (fun c68 => ?_)
                          · refine VL_norm km239 k239_12 (VL_at (al := [(0, vR 11 (283))]) (st := []) km239 k239_12 ?_)
                            refine And.intro (xin_k rfl) ?_
                            exact (((((((((((h53.2 c78).2 c77).2 c76).2 c75).2 c74).2 c73).2 c72).2 c71).2 c70).2 c69).1 c68)
                          · refine And.intro (fun c67 => ?_) (fun c67 => ?_)
                            · refine VL_norm km239 k239_13 (VL_at (al := [(0, vR 11 (283))]) (st := []) km239 k239_13 ?_)
                              refine V_mono ((((((((((((h53.2 c78).2 c77).2 c76).2 c75).2 c74).2 c73).2 c72).2 c71).2 c70).2 c69).2 c68).1 c67) (fun u55 m55 h55 => ?_) (fun _ _ h => h)
                              exact h55
                            · refine And.intro (fun c66 => ?_) (fun c66 => ?_)
                              · refine VL_norm km239 k239_14 (VL_at (al := [(0, vR 11 (283))]) (st := []) km239 k239_14 ?_)
                                refine V_mono (((((((((((((h53.2 c78).2 c77).2 c76).2 c75).2 c74).2 c73).2 c72).2 c71).2 c70).2 c69).2 c68).2 c67).1 c66) (fun u56 m56 h56 => ?_) (fun _ _ h => h)
                                exact h56
                              · refine And.intro (fun c65 => ?_) (fun c65 => ?_)
                                · refine VL_norm km239 k239_15 (VL_at (al := [(0, vR 11 (283))]) (st := []) km239 k239_15 ?_)
                                  refine V_mono ((((((((((((((h53.2 c78).2 c77).2 c76).2 c75).2 c74).2 c73).2 c72).2 c71).2 c70).2 c69).2 c68).2 c67).2 c66).1 c65) (fun u57 m57 h57 => ?_) (fun _ _ h => h)
                                  exact h57
                                · refine And.intro (fun c64 => ?_) (fun c64 => ?_)
                                  · refine VL_norm km239 k239_16 (VL_at (al := [(0, vR 11 (283))]) (st := []) km239 k239_16 ?_)
                                    refine V_mono (((((((((((((((h53.2 c78).2 c77).2 c76).2 c75).2 c74).2 c73).2 c72).2 c71).2 c70).2 c69).2 c68).2 c67).2 c66).2 c65).1 c64) (fun u58 m58 h58 => ?_) (fun _ _ h => h)
                                    exact h58
                                  · refine And.intro (fun c63 => ?_) (fun c63 => ?_)
                                    · refine VL_norm km239 k239_17 (VL_at (al := [(0, vR 11 (283))]) (st := []) km239 k239_17 ?_)
                                      refine V_mono ((((((((((((((((h53.2 c78).2 c77).2 c76).2 c75).2 c74).2 c73).2 c72).2 c71).2 c70).2 c69).2 c68).2 c67).2 c66).2 c65).2 c64).1 c63) (fun u59 m59 h59 => ?_) (fun _ _ h => h)
                                      exact h59
                                    · refine And.intro (fun c62 => ?_) (fun c62 => ?_)
                                      · refine VL_norm km239 k239_18 (VL_at (al := [(0, vR 11 (283))]) (st := []) km239 k239_18 ?_)
                                        refine V_mono (((((((((((((((((h53.2 c78).2 c77).2 c76).2 c75).2 c74).2 c73).2 c72).2 c71).2 c70).2 c69).2 c68).2 c67).2 c66).2 c65).2 c64).2 c63).1 c62) (fun u60 m60 h60 => ?_) (fun _ _ h => h)
                                        exact h60
                                      · refine VL_norm km239 k239_19 (VL_at (al := [(0, vR 11 (283))]) (st := []) km239 k239_19 ?_)
                                        refine V_mono (((((((((((((((((h53.2 c78).2 c77).2 c76).2 c75).2 c74).2 c73).2 c72).2 c71).2 c70).2 c69).2 c68).2 c67).2 c66).2 c65).2 c64).2 c63).2 c62) (fun u61 m61 h61 => ?_) (fun _ _ h => h)
                                        exact h61
/-- BannerParadeModel.setting, label 0 -/
theorem w240_0 {D : Nat} {v1 : Int32} {m : XM} {Q : Int32 → XM → Prop} {E : Nat → XM → Prop}
    (h : ((v1 < (n32 0) → VI (D + 1) 177 [vR 11 (283), vI (m 283 6), vI (n32 0)] m (fun x1 m1 => ((x1 = (n32 0) → Q (n32 0) m1) ∧ (¬ x1 = (n32 0) → (xin v1 243 = true ∧ Q (m1 284 (ix v1)) m1)))) E) ∧ (¬ v1 < (n32 0) → (((n32 5) < v1 → VI (D + 1) 177 [vR 11 (283), vI (m 283 6), vI (n32 0)] m (fun x3 m3 => ((x3 = (n32 0) → Q (n32 0) m3) ∧ (¬ x3 = (n32 0) → (xin v1 243 = true ∧ Q (m3 284 (ix v1)) m3)))) E) ∧ (¬ (n32 5) < v1 → VI (D + 1) 177 [vR 11 (283), vI (m 283 6), vI (n32 1)] m (fun x5 m5 => ((x5 = (n32 0) → Q (n32 0) m5) ∧ (¬ x5 = (n32 0) → (xin v1 243 = true ∧ Q (m5 284 (ix v1)) m5)))) E))))) :
    VI (D + 2) 240 [vR 11 (283), vI v1] m Q E := by
  refine V_of (VL_at (al := [(0, vR 11 (283)), (1, vI v1)]) (st := []) km240 k240_0 ?_)
  refine V_of ?_
  refine VL_norm km175 k175_0 (VL_at (al := [(0, vI v1), (1, vI (n32 0)), (2, vI (n32 5))]) (st := []) km175 k175_0 ?_)
  refine And.intro (fun c8 => ?_) (fun c8 => ?_)
  · refine VL_norm km175 k175_3 (VL_at (al := []) (st := []) km175 k175_3 ?_)
    refine VL_norm km175 k175_4 (VL_at (al := []) (st := [vI (n32 0)]) km175 k175_4 ?_)
    refine And.intro xrt20 ?_
    refine V_mono (h.1 c8) (fun u1 m1 h1 => ?_) (fun _ _ h => h)
    refine And.intro (fun c2 => ?_) (fun c2 => ?_)
    · refine VL_norm km240 k240_2 (VL_at (al := []) (st := []) km240 k240_2 ?_)
      refine VL_norm km240 k240_3 (VL_at (al := []) (st := [vI (n32 0)]) km240 k240_3 ?_)
      exact (h1.1 c2)
    · refine VL_norm km240 k240_1 (VL_at (al := [(0, vR 11 (283)), (1, vI v1)]) (st := []) km240 k240_1 ?_)
      refine And.intro (h1.2 c2).1 ?_
      refine VL_norm km240 k240_3 (VL_at (al := []) (st := [vI (m1 284 (ix v1))]) km240 k240_3 ?_)
      exact (h1.2 c2).2
  · refine VL_norm km175 k175_1 (VL_at (al := [(0, vI v1), (2, vI (n32 5))]) (st := []) km175 k175_1 ?_)
    refine And.intro (fun c7 => ?_) (fun c7 => ?_)
    · refine VL_norm km175 k175_3 (VL_at (al := []) (st := []) km175 k175_3 ?_)
      refine VL_norm km175 k175_4 (VL_at (al := []) (st := [vI (n32 0)]) km175 k175_4 ?_)
      refine And.intro xrt20 ?_
      refine V_mono ((h.2 c8).1 c7) (fun u3 m3 h3 => ?_) (fun _ _ h => h)
      refine And.intro (fun c4 => ?_) (fun c4 => ?_)
      · refine VL_norm km240 k240_2 (VL_at (al := []) (st := []) km240 k240_2 ?_)
        refine VL_norm km240 k240_3 (VL_at (al := []) (st := [vI (n32 0)]) km240 k240_3 ?_)
        exact (h3.1 c4)
      · refine VL_norm km240 k240_1 (VL_at (al := [(0, vR 11 (283)), (1, vI v1)]) (st := []) km240 k240_1 ?_)
        refine And.intro (h3.2 c4).1 ?_
        refine VL_norm km240 k240_3 (VL_at (al := []) (st := [vI (m3 284 (ix v1))]) km240 k240_3 ?_)
        exact (h3.2 c4).2
    · refine VL_norm km175 k175_2 (VL_at (al := []) (st := []) km175 k175_2 ?_)
      refine VL_norm km175 k175_4 (VL_at (al := []) (st := [vI (n32 1)]) km175 k175_4 ?_)
      refine And.intro xrt21 ?_
      refine V_mono ((h.2 c8).2 c7) (fun u5 m5 h5 => ?_) (fun _ _ h => h)
      refine And.intro (fun c6 => ?_) (fun c6 => ?_)
      · refine VL_norm km240 k240_2 (VL_at (al := []) (st := []) km240 k240_2 ?_)
        refine VL_norm km240 k240_3 (VL_at (al := []) (st := [vI (n32 0)]) km240 k240_3 ?_)
        exact (h5.1 c6)
      · refine VL_norm km240 k240_1 (VL_at (al := [(0, vR 11 (283)), (1, vI v1)]) (st := []) km240 k240_1 ?_)
        refine And.intro (h5.2 c6).1 ?_
        refine VL_norm km240 k240_3 (VL_at (al := []) (st := [vI (m5 284 (ix v1))]) km240 k240_3 ?_)
        exact (h5.2 c6).2
/-- BannerParadeModel.mayBearer, label 0 -/
theorem w241_0 {D : Nat} {v1 : Int32} {m : XM} {Q : Int32 → XM → Prop} {E : Nat → XM → Prop}
    (h : ((v1 < (n32 0) → VI (D + 1) 177 [vR 11 (283), vI (m 283 6), vI (n32 0)] m (fun x1 m1 => (xrt 2 x1 = true ∧ Q x1 m1)) E) ∧ (¬ v1 < (n32 0) → ((((m 284 (ix (n32 6))) - (n32 1)) < v1 → VI (D + 1) 177 [vR 11 (283), vI (m 283 6), vI (n32 0)] m (fun x2 m2 => (xrt 2 x2 = true ∧ Q x2 m2)) E) ∧ (¬ ((m 284 (ix (n32 6))) - (n32 1)) < v1 → VI (D + 1) 177 [vR 11 (283), vI (m 283 6), vI (n32 1)] m (fun x3 m3 => (xrt 2 x3 = true ∧ Q x3 m3)) E))))) :
    VI (D + 2) 241 [vR 11 (283), vI v1] m Q E := by
  refine V_of (VL_at (al := [(0, vR 11 (283)), (1, vI v1)]) (st := []) km241 k241_0 ?_)
  refine V_of ?_
  refine VL_norm km208 k208_0 (VL_at (al := [(0, vR 11 (283)), (1, vI v1)]) (st := []) km208 k208_0 ?_)
  refine And.intro (xin_k rfl) ?_
  refine V_of ?_
  refine VL_norm km175 k175_0 (VL_at (al := [(0, vI v1), (1, vI (n32 0)), (2, vI ((m 284 (ix (n32 6))) - (n32 1)))]) (st := []) km175 k175_0 ?_)
  refine And.intro (fun c5 => ?_) (fun c5 => ?_)
  · refine VL_norm km175 k175_3 (VL_at (al := []) (st := []) km175 k175_3 ?_)
    refine VL_norm km175 k175_4 (VL_at (al := []) (st := [vI (n32 0)]) km175 k175_4 ?_)
    refine And.intro xrt20 ?_
    refine And.intro xrt20 ?_
    refine V_mono (h.1 c5) (fun u1 m1 h1 => ?_) (fun _ _ h => h)
    refine And.intro h1.1 ?_
    exact h1.2
  · refine VL_norm km175 k175_1 (VL_at (al := [(0, vI v1), (2, vI ((m 284 (ix (n32 6))) - (n32 1)))]) (st := []) km175 k175_1 ?_)
    refine And.intro (fun c4 => ?_) (fun c4 => ?_)
    · refine VL_norm km175 k175_3 (VL_at (al := []) (st := []) km175 k175_3 ?_)
      refine VL_norm km175 k175_4 (VL_at (al := []) (st := [vI (n32 0)]) km175 k175_4 ?_)
      refine And.intro xrt20 ?_
      refine And.intro xrt20 ?_
      refine V_mono ((h.2 c5).1 c4) (fun u2 m2 h2 => ?_) (fun _ _ h => h)
      refine And.intro h2.1 ?_
      exact h2.2
    · refine VL_norm km175 k175_2 (VL_at (al := []) (st := []) km175 k175_2 ?_)
      refine VL_norm km175 k175_4 (VL_at (al := []) (st := [vI (n32 1)]) km175 k175_4 ?_)
      refine And.intro xrt21 ?_
      refine And.intro xrt21 ?_
      refine V_mono ((h.2 c5).2 c4) (fun u3 m3 h3 => ?_) (fun _ _ h => h)
      refine And.intro h3.1 ?_
      exact h3.2
/-- BannerParadeModel.mayStand, label 0 -/
theorem w242_0 {D : Nat} {v1 : Int32} {m : XM} {Q : Int32 → XM → Prop} {E : Nat → XM → Prop}
    (h : ((v1 < (n32 0) → VI (D + 1) 177 [vR 11 (283), vI (m 283 6), vI (n32 0)] m (fun x1 m1 => (xrt 2 x1 = true ∧ Q x1 m1)) E) ∧ (¬ v1 < (n32 0) → ((((m 284 (ix (n32 7))) - (n32 1)) < v1 → VI (D + 1) 177 [vR 11 (283), vI (m 283 6), vI (n32 0)] m (fun x2 m2 => (xrt 2 x2 = true ∧ Q x2 m2)) E) ∧ (¬ ((m 284 (ix (n32 7))) - (n32 1)) < v1 → VI (D + 1) 177 [vR 11 (283), vI (m 283 6), vI (n32 1)] m (fun x3 m3 => (xrt 2 x3 = true ∧ Q x3 m3)) E))))) :
    VI (D + 2) 242 [vR 11 (283), vI v1] m Q E := by
  refine V_of (VL_at (al := [(0, vR 11 (283)), (1, vI v1)]) (st := []) km242 k242_0 ?_)
  refine V_of ?_
  refine VL_norm km209 k209_0 (VL_at (al := [(0, vR 11 (283)), (1, vI v1)]) (st := []) km209 k209_0 ?_)
  refine And.intro (xin_k rfl) ?_
  refine V_of ?_
  refine VL_norm km175 k175_0 (VL_at (al := [(0, vI v1), (1, vI (n32 0)), (2, vI ((m 284 (ix (n32 7))) - (n32 1)))]) (st := []) km175 k175_0 ?_)
  refine And.intro (fun c5 => ?_) (fun c5 => ?_)
  · refine VL_norm km175 k175_3 (VL_at (al := []) (st := []) km175 k175_3 ?_)
    refine VL_norm km175 k175_4 (VL_at (al := []) (st := [vI (n32 0)]) km175 k175_4 ?_)
    refine And.intro xrt20 ?_
    refine And.intro xrt20 ?_
    refine V_mono (h.1 c5) (fun u1 m1 h1 => ?_) (fun _ _ h => h)
    refine And.intro h1.1 ?_
    exact h1.2
  · refine VL_norm km175 k175_1 (VL_at (al := [(0, vI v1), (2, vI ((m 284 (ix (n32 7))) - (n32 1)))]) (st := []) km175 k175_1 ?_)
    refine And.intro (fun c4 => ?_) (fun c4 => ?_)
    · refine VL_norm km175 k175_3 (VL_at (al := []) (st := []) km175 k175_3 ?_)
      refine VL_norm km175 k175_4 (VL_at (al := []) (st := [vI (n32 0)]) km175 k175_4 ?_)
      refine And.intro xrt20 ?_
      refine And.intro xrt20 ?_
      refine V_mono ((h.2 c5).1 c4) (fun u2 m2 h2 => ?_) (fun _ _ h => h)
      refine And.intro h2.1 ?_
      exact h2.2
    · refine VL_norm km175 k175_2 (VL_at (al := []) (st := []) km175 k175_2 ?_)
      refine VL_norm km175 k175_4 (VL_at (al := []) (st := [vI (n32 1)]) km175 k175_4 ?_)
      refine And.intro xrt21 ?_
      refine And.intro xrt21 ?_
      refine V_mono ((h.2 c5).2 c4) (fun u3 m3 h3 => ?_) (fun _ _ h => h)
      refine And.intro h3.1 ?_
      exact h3.2
/-- BannerParadeModel.mayWith, label 0 -/
theorem w243_0 {D : Nat} {v1 : Int32} {v2 : Int32} {m : XM} {Q : Int32 → XM → Prop} {E : Nat → XM → Prop}
    (h : ((v1 < (n32 0) → VI (D + 1) 176 [vR 11 (283), vI (m 283 6), vI (n32 0), vI v2] m (fun x1 m1 => (xrt 2 x1 = true ∧ Q x1 m1)) E) ∧ (¬ v1 < (n32 0) → ((((m 284 (ix (n32 6))) - (n32 1)) < v1 → VI (D + 1) 176 [vR 11 (283), vI (m 283 6), vI (n32 0), vI v2] m (fun x2 m2 => (xrt 2 x2 = true ∧ Q x2 m2)) E) ∧ (¬ ((m 284 (ix (n32 6))) - (n32 1)) < v1 → VI (D + 1) 176 [vR 11 (283), vI (m 283 6), vI (n32 1), vI v2] m (fun x3 m3 => (xrt 2 x3 = true ∧ Q x3 m3)) E))))) :
    VI (D + 2) 243 [vR 11 (283), vI v1, vI v2] m Q E := by
  refine V_of (VL_at (al := [(0, vR 11 (283)), (1, vI v1), (2, vI v2)]) (st := []) km243 k243_0 ?_)
  refine V_of ?_
  refine VL_norm km208 k208_0 (VL_at (al := [(0, vR 11 (283)), (1, vI v1)]) (st := []) km208 k208_0 ?_)
  refine And.intro (xin_k rfl) ?_
  refine V_of ?_
  refine VL_norm km175 k175_0 (VL_at (al := [(0, vI v1), (1, vI (n32 0)), (2, vI ((m 284 (ix (n32 6))) - (n32 1)))]) (st := []) km175 k175_0 ?_)
  refine And.intro (fun c5 => ?_) (fun c5 => ?_)
  · refine VL_norm km175 k175_3 (VL_at (al := []) (st := []) km175 k175_3 ?_)
    refine VL_norm km175 k175_4 (VL_at (al := []) (st := [vI (n32 0)]) km175 k175_4 ?_)
    refine And.intro xrt20 ?_
    refine And.intro xrt20 ?_
    refine V_mono (h.1 c5) (fun u1 m1 h1 => ?_) (fun _ _ h => h)
    refine And.intro h1.1 ?_
    exact h1.2
  · refine VL_norm km175 k175_1 (VL_at (al := [(0, vI v1), (2, vI ((m 284 (ix (n32 6))) - (n32 1)))]) (st := []) km175 k175_1 ?_)
    refine And.intro (fun c4 => ?_) (fun c4 => ?_)
    · refine VL_norm km175 k175_3 (VL_at (al := []) (st := []) km175 k175_3 ?_)
      refine VL_norm km175 k175_4 (VL_at (al := []) (st := [vI (n32 0)]) km175 k175_4 ?_)
      refine And.intro xrt20 ?_
      refine And.intro xrt20 ?_
      refine V_mono ((h.2 c5).1 c4) (fun u2 m2 h2 => ?_) (fun _ _ h => h)
      refine And.intro h2.1 ?_
      exact h2.2
    · refine VL_norm km175 k175_2 (VL_at (al := []) (st := []) km175 k175_2 ?_)
      refine VL_norm km175 k175_4 (VL_at (al := []) (st := [vI (n32 1)]) km175 k175_4 ?_)
      refine And.intro xrt21 ?_
      refine And.intro xrt21 ?_
      refine V_mono ((h.2 c5).2 c4) (fun u3 m3 h3 => ?_) (fun _ _ h => h)
      refine And.intro h3.1 ?_
      exact h3.2
/-- BannerParadeModel.seersOf, label 0 -/
theorem w244_0 {D : Nat} {v1 : Int32} {m : XM} {Q : Int32 → XM → Prop} {E : Nat → XM → Prop}
    (h : VLI (D + 2) 244 1 [(0, vR 11 (283)), (1, vI v1), (2, vI (n32 0)), (3, vI (n32 0))] [] m Q E) :
    VI (D + 2) 244 [vR 11 (283), vI v1] m Q E := by
  refine V_of (VL_at (al := [(0, vR 11 (283)), (1, vI v1)]) (st := []) km244 k244_0 ?_)
  exact VL_norm km244 k244_1 h
/-- BannerParadeModel.seersOf, label 1 -/
theorem w244_1 {D : Nat} {v1 : Int32} {v2 : Int32} {v3 : Int32} {m : XM} {Q : Int32 → XM → Prop} {E : Nat → XM → Prop}
    (h : (((m 284 (ix (n32 7))) ≤ v3 → Q v2 m) ∧ (¬ (m 284 (ix (n32 7))) ≤ v3 → VI (D + 1) 219 [vR 11 (283), vI v3, vI v1] m (fun x1 m1 => ((x1 = (n32 0) → VLI (D + 2) 244 1 [(0, vR 11 (283)), (1, vI v1), (2, vI (v2 + (n32 0))), (3, vI (v3 + (n32 1)))] [] m1 Q E) ∧ (¬ x1 = (n32 0) → VLI (D + 2) 244 1 [(0, vR 11 (283)), (1, vI v1), (2, vI (v2 + (n32 1))), (3, vI (v3 + (n32 1)))] [] m1 Q E))) E))) :
    VLI (D + 2) 244 1 [(0, vR 11 (283)), (1, vI v1), (2, vI v2), (3, vI v3)] [] m Q E := by
  refine VL_at (al := [(0, vR 11 (283)), (1, vI v1), (2, vI v2), (3, vI v3)]) (st := []) km244 k244_1 ?_
  refine And.intro (xin_k rfl) ?_
  refine And.intro (fun c3 => ?_) (fun c3 => ?_)
  · refine VL_norm km244 k244_6 (VL_at (al := [(2, vI v2)]) (st := []) km244 k244_6 ?_)
    exact (h.1 c3)
  · refine VL_norm km244 k244_2 (VL_at (al := [(0, vR 11 (283)), (1, vI v1), (2, vI v2), (3, vI v3)]) (st := []) km244 k244_2 ?_)
    refine V_mono (h.2 c3) (fun u1 m1 h1 => ?_) (fun _ _ h => h)
    refine And.intro (fun c2 => ?_) (fun c2 => ?_)
    · refine VL_norm km244 k244_4 (VL_at (al := [(0, vR 11 (283)), (1, vI v1), (3, vI v3)]) (st := [vI v2]) km244 k244_4 ?_)
      refine VL_norm km244 k244_5 (VL_at (al := [(0, vR 11 (283)), (1, vI v1), (3, vI v3)]) (st := [vI (n32 0), vI v2]) km244 k244_5 ?_)
      exact VL_norm km244 k244_1 (h1.1 c2)
    · refine VL_norm km244 k244_3 (VL_at (al := [(0, vR 11 (283)), (1, vI v1), (3, vI v3)]) (st := [vI v2]) km244 k244_3 ?_)
      refine VL_norm km244 k244_5 (VL_at (al := [(0, vR 11 (283)), (1, vI v1), (3, vI v3)]) (st := [vI (n32 1), vI v2]) km244 k244_5 ?_)
      exact VL_norm km244 k244_1 (h1.2 c2)
/-- BannerParadeModel.weaker, label 0 -/
theorem w245_0 {D : Nat} {v1 : Int32} {m : XM} {Q : Int32 → XM → Prop} {E : Nat → XM → Prop}
    (h : VLI (D + 1) 245 1 [(0, vR 11 (283)), (1, vI v1), (2, vI (n32 0)), (3, vI (n32 0))] [] m Q E) :
    VI (D + 1) 245 [vR 11 (283), vI v1] m Q E := by
  refine V_of (VL_at (al := [(0, vR 11 (283)), (1, vI v1)]) (st := []) km245 k245_0 ?_)
  exact VL_norm km245 k245_1 h
/-- BannerParadeModel.weaker, label 1 -/
theorem w245_1 {D : Nat} {v1 : Int32} {v2 : Int32} {v3 : Int32} {m : XM} {Q : Int32 → XM → Prop} {E : Nat → XM → Prop}
    (h : (((m 284 (ix (n32 6))) ≤ v3 → Q v2 m) ∧ (¬ (m 284 (ix (n32 6))) ≤ v3 → (xin (((n32 15) + ((n32 7) * v3)) + (n32 4)) 243 = true ∧ (xin (((n32 15) + ((n32 7) * v1)) + (n32 4)) 243 = true ∧ (((m 284 (ix (((n32 15) + ((n32 7) * v1)) + (n32 4)))) ≤ (m 284 (ix (((n32 15) + ((n32 7) * v3)) + (n32 4)))) → VLI (D + 1) 245 1 [(0, vR 11 (283)), (1, vI v1), (2, vI (v2 + (n32 0))), (3, vI (v3 + (n32 1)))] [] m Q E) ∧ (¬ (m 284 (ix (((n32 15) + ((n32 7) * v1)) + (n32 4)))) ≤ (m 284 (ix (((n32 15) + ((n32 7) * v3)) + (n32 4)))) → VLI (D + 1) 245 1 [(0, vR 11 (283)), (1, vI v1), (2, vI (v2 + (n32 1))), (3, vI (v3 + (n32 1)))] [] m Q E))))))) :
    VLI (D + 1) 245 1 [(0, vR 11 (283)), (1, vI v1), (2, vI v2), (3, vI v3)] [] m Q E := by
  refine VL_at (al := [(0, vR 11 (283)), (1, vI v1), (2, vI v2), (3, vI v3)]) (st := []) km245 k245_1 ?_
  refine And.intro (xin_k rfl) ?_
  refine And.intro (fun c2 => ?_) (fun c2 => ?_)
  · refine VL_norm km245 k245_6 (VL_at (al := [(2, vI v2)]) (st := []) km245 k245_6 ?_)
    exact (h.1 c2)
  · refine VL_norm km245 k245_2 (VL_at (al := [(0, vR 11 (283)), (1, vI v1), (2, vI v2), (3, vI v3)]) (st := []) km245 k245_2 ?_)
    refine V_of ?_
    refine VL_norm km202 k202_0 (VL_at (al := [(0, vR 11 (283)), (1, vI v3), (2, vI (n32 4))]) (st := []) km202 k202_0 ?_)
    refine And.intro (h.2 c2).1 ?_
    refine V_of ?_
    refine VL_norm km202 k202_0 (VL_at (al := [(0, vR 11 (283)), (1, vI v1), (2, vI (n32 4))]) (st := []) km202 k202_0 ?_)
    refine And.intro (h.2 c2).2.1 ?_
    refine And.intro (fun c1 => ?_) (fun c1 => ?_)
    · refine VL_norm km245 k245_4 (VL_at (al := [(0, vR 11 (283)), (1, vI v1), (3, vI v3)]) (st := [vI v2]) km245 k245_4 ?_)
      refine VL_norm km245 k245_5 (VL_at (al := [(0, vR 11 (283)), (1, vI v1), (3, vI v3)]) (st := [vI (n32 0), vI v2]) km245 k245_5 ?_)
      exact VL_norm km245 k245_1 ((h.2 c2).2.2.1 c1)
    · refine VL_norm km245 k245_3 (VL_at (al := [(0, vR 11 (283)), (1, vI v1), (3, vI v3)]) (st := [vI v2]) km245 k245_3 ?_)
      refine VL_norm km245 k245_5 (VL_at (al := [(0, vR 11 (283)), (1, vI v1), (3, vI v3)]) (st := [vI (n32 1), vI v2]) km245 k245_5 ?_)
      exact VL_norm km245 k245_1 ((h.2 c2).2.2.2 c1)
/-- BannerParadeModel.bearer, label 0 -/
theorem w246_0 {D : Nat} {v1 : Int32} {v2 : Int32} {m : XM} {Q : Int32 → XM → Prop} {E : Nat → XM → Prop}
    (h : ((v2 < (n32 0) → VI (D + 2) 243 [vR 11 (283), vI v1, vI (n32 0)] m (fun x1 m1 => ((x1 = (n32 0) → Q (n32 0) m1) ∧ (¬ x1 = (n32 0) → ((v2 = (n32 5) → VI (D + 2) 210 [vR 11 (283), vI v1] m1 (fun x2 m2 => Q x2 m2) E) ∧ (¬ v2 = (n32 5) → ((v2 = (n32 6) → ((v1 = (n32 0) → Q (-(n32 1)) m1) ∧ (¬ v1 = (n32 0) → (xin (((n32 15) + ((n32 7) * (v1 - (n32 1)))) + (n32 1)) 243 = true ∧ (xin (((n32 15) + ((n32 7) * v1)) + (n32 1)) 243 = true ∧ Q ((m1 284 (ix (((n32 15) + ((n32 7) * (v1 - (n32 1)))) + (n32 1)))) - (m1 284 (ix (((n32 15) + ((n32 7) * v1)) + (n32 1))))) m1))))) ∧ (¬ v2 = (n32 6) → ((v2 = (n32 7) → (xin (((n32 15) + ((n32 7) * v1)) + (n32 5)) 243 = true ∧ Q (m1 284 (ix (((n32 15) + ((n32 7) * v1)) + (n32 5)))) m1)) ∧ (¬ v2 = (n32 7) → ((v2 = (n32 8) → (xin (((n32 15) + ((n32 7) * v1)) + (n32 6)) 243 = true ∧ Q (m1 284 (ix (((n32 15) + ((n32 7) * v1)) + (n32 6)))) m1)) ∧ (¬ v2 = (n32 8) → ((v2 = (n32 9) → VI (D + 2) 244 [vR 11 (283), vI v1] m1 (fun x4 m4 => Q x4 m4) E) ∧ (¬ v2 = (n32 9) → ((v2 = (n32 10) → (xin (((n32 15) + ((n32 7) * (n32 0))) + (n32 1)) 243 = true ∧ (xin (((n32 15) + ((n32 7) * v1)) + (n32 1)) 243 = true ∧ Q ((m1 284 (ix (((n32 15) + ((n32 7) * (n32 0))) + (n32 1)))) - (m1 284 (ix (((n32 15) + ((n32 7) * v1)) + (n32 1))))) m1))) ∧ (¬ v2 = (n32 10) → ((v2 = (n32 11) → VI (D + 2) 245 [vR 11 (283), vI v1] m1 (fun x5 m5 => Q x5 m5) E) ∧ (¬ v2 = (n32 11) → ((v2 = (n32 12) → (xin (((n32 15) + ((n32 7) * v1)) + (n32 1)) 243 = true ∧ VI (D + 2) 215 [vR 11 (283), vI (m1 284 (ix (((n32 15) + ((n32 7) * v1)) + (n32 1)))), vI (m1 284 (ix (((n32 15) + ((n32 7) * v1)) + (n32 1))))] m1 (fun x6 m6 => ((x6 = (-(n32 1)) → Q (n32 0) m6) ∧ (¬ x6 = (-(n32 1)) → Q (n32 1) m6))) E)) ∧ (¬ v2 = (n32 12) → (xin (((n32 15) + ((n32 7) * v1)) + v2) 243 = true ∧ Q (m1 284 (ix (((n32 15) + ((n32 7) * v1)) + v2))) m1)))))))))))))))))))) E) ∧ (¬ v2 < (n32 0) → (((n32 12) < v2 → VI (D + 2) 243 [vR 11 (283), vI v1, vI (n32 0)] m (fun x17 m17 => ((x17 = (n32 0) → Q (n32 0) m17) ∧ (¬ x17 = (n32 0) → ((v2 = (n32 5) → VI (D + 2) 210 [vR 11 (283), vI v1] m17 (fun x18 m18 => Q x18 m18) E) ∧ (¬ v2 = (n32 5) → ((v2 = (n32 6) → ((v1 = (n32 0) → Q (-(n32 1)) m17) ∧ (¬ v1 = (n32 0) → (xin (((n32 15) + ((n32 7) * (v1 - (n32 1)))) + (n32 1)) 243 = true ∧ (xin (((n32 15) + ((n32 7) * v1)) + (n32 1)) 243 = true ∧ Q ((m17 284 (ix (((n32 15) + ((n32 7) * (v1 - (n32 1)))) + (n32 1)))) - (m17 284 (ix (((n32 15) + ((n32 7) * v1)) + (n32 1))))) m17))))) ∧ (¬ v2 = (n32 6) → ((v2 = (n32 7) → (xin (((n32 15) + ((n32 7) * v1)) + (n32 5)) 243 = true ∧ Q (m17 284 (ix (((n32 15) + ((n32 7) * v1)) + (n32 5)))) m17)) ∧ (¬ v2 = (n32 7) → ((v2 = (n32 8) → (xin (((n32 15) + ((n32 7) * v1)) + (n32 6)) 243 = true ∧ Q (m17 284 (ix (((n32 15) + ((n32 7) * v1)) + (n32 6)))) m17)) ∧ (¬ v2 = (n32 8) → ((v2 = (n32 9) → VI (D + 2) 244 [vR 11 (283), vI v1] m17 (fun x20 m20 => Q x20 m20) E) ∧ (¬ v2 = (n32 9) → ((v2 = (n32 10) → (xin (((n32 15) + ((n32 7) * (n32 0))) + (n32 1)) 243 = true ∧ (xin (((n32 15) + ((n32 7) * v1)) + (n32 1)) 243 = true ∧ Q ((m17 284 (ix (((n32 15) + ((n32 7) * (n32 0))) + (n32 1)))) - (m17 284 (ix (((n32 15) + ((n32 7) * v1)) + (n32 1))))) m17))) ∧ (¬ v2 = (n32 10) → ((v2 = (n32 11) → VI (D + 2) 245 [vR 11 (283), vI v1] m17 (fun x21 m21 => Q x21 m21) E) ∧ (¬ v2 = (n32 11) → ((v2 = (n32 12) → (xin (((n32 15) + ((n32 7) * v1)) + (n32 1)) 243 = true ∧ VI (D + 2) 215 [vR 11 (283), vI (m17 284 (ix (((n32 15) + ((n32 7) * v1)) + (n32 1)))), vI (m17 284 (ix (((n32 15) + ((n32 7) * v1)) + (n32 1))))] m17 (fun x22 m22 => ((x22 = (-(n32 1)) → Q (n32 0) m22) ∧ (¬ x22 = (-(n32 1)) → Q (n32 1) m22))) E)) ∧ (¬ v2 = (n32 12) → (xin (((n32 15) + ((n32 7) * v1)) + v2) 243 = true ∧ Q (m17 284 (ix (((n32 15) + ((n32 7) * v1)) + v2))) m17)))))))))))))))))))) E) ∧ (¬ (n32 12) < v2 → VI (D + 2) 243 [vR 11 (283), vI v1, vI (n32 1)] m (fun x33 m33 => ((x33 = (n32 0) → Q (n32 0) m33) ∧ (¬ x33 = (n32 0) → ((v2 = (n32 5) → VI (D + 2) 210 [vR 11 (283), vI v1] m33 (fun x34 m34 => Q x34 m34) E) ∧ (¬ v2 = (n32 5) → ((v2 = (n32 6) → ((v1 = (n32 0) → Q (-(n32 1)) m33) ∧ (¬ v1 = (n32 0) → (xin (((n32 15) + ((n32 7) * (v1 - (n32 1)))) + (n32 1)) 243 = true ∧ (xin (((n32 15) + ((n32 7) * v1)) + (n32 1)) 243 = true ∧ Q ((m33 284 (ix (((n32 15) + ((n32 7) * (v1 - (n32 1)))) + (n32 1)))) - (m33 284 (ix (((n32 15) + ((n32 7) * v1)) + (n32 1))))) m33))))) ∧ (¬ v2 = (n32 6) → ((v2 = (n32 7) → (xin (((n32 15) + ((n32 7) * v1)) + (n32 5)) 243 = true ∧ Q (m33 284 (ix (((n32 15) + ((n32 7) * v1)) + (n32 5)))) m33)) ∧ (¬ v2 = (n32 7) → ((v2 = (n32 8) → (xin (((n32 15) + ((n32 7) * v1)) + (n32 6)) 243 = true ∧ Q (m33 284 (ix (((n32 15) + ((n32 7) * v1)) + (n32 6)))) m33)) ∧ (¬ v2 = (n32 8) → ((v2 = (n32 9) → VI (D + 2) 244 [vR 11 (283), vI v1] m33 (fun x36 m36 => Q x36 m36) E) ∧ (¬ v2 = (n32 9) → ((v2 = (n32 10) → (xin (((n32 15) + ((n32 7) * (n32 0))) + (n32 1)) 243 = true ∧ (xin (((n32 15) + ((n32 7) * v1)) + (n32 1)) 243 = true ∧ Q ((m33 284 (ix (((n32 15) + ((n32 7) * (n32 0))) + (n32 1)))) - (m33 284 (ix (((n32 15) + ((n32 7) * v1)) + (n32 1))))) m33))) ∧ (¬ v2 = (n32 10) → ((v2 = (n32 11) → VI (D + 2) 245 [vR 11 (283), vI v1] m33 (fun x37 m37 => Q x37 m37) E) ∧ (¬ v2 = (n32 11) → ((v2 = (n32 12) → (xin (((n32 15) + ((n32 7) * v1)) + (n32 1)) 243 = true ∧ VI (D + 2) 215 [vR 11 (283), vI (m33 284 (ix (((n32 15) + ((n32 7) * v1)) + (n32 1)))), vI (m33 284 (ix (((n32 15) + ((n32 7) * v1)) + (n32 1))))] m33 (fun x38 m38 => ((x38 = (-(n32 1)) → Q (n32 0) m38) ∧ (¬ x38 = (-(n32 1)) → Q (n32 1) m38))) E)) ∧ (¬ v2 = (n32 12) → (xin (((n32 15) + ((n32 7) * v1)) + v2) 243 = true ∧ Q (m33 284 (ix (((n32 15) + ((n32 7) * v1)) + v2))) m33)))))))))))))))))))) E))))) :
    VI (D + 3) 246 [vR 11 (283), vI v1, vI v2] m Q E := by
  refine V_of (VL_at (al := [(0, vR 11 (283)), (1, vI v1), (2, vI v2)]) (st := []) km246 k246_0 ?_)
  refine V_of ?_
  refine VL_norm km175 k175_0 (VL_at (al := [(0, vI v2), (1, vI (n32 0)), (2, vI (n32 12))]) (st := []) km175 k175_0 ?_)
  refine And.intro (fun c50 => ?_) (fun c50 => ?_)
  · refine VL_norm km175 k175_3 (VL_at (al := []) (st := []) km175 k175_3 ?_)
    refine VL_norm km175 k175_4 (VL_at (al := []) (st := [vI (n32 0)]) km175 k175_4 ?_)
    refine And.intro xrt20 ?_
    refine V_mono (h.1 c50) (fun u1 m1 h1 => ?_) (fun _ _ h => h)
    refine And.intro (fun c16 => ?_) (fun c16 => ?_)
    · refine VL_norm km246 k246_1 (VL_at (al := []) (st := []) km246 k246_1 ?_)
      exact (h1.1 c16)
    · refine VL_norm km246 k246_2 (VL_at (al := [(0, vR 11 (283)), (1, vI v1), (2, vI v2)]) (st := []) km246 k246_2 ?_)
      refine And.intro (fun c15 => ?_) (fun c15 => ?_)
      · refine VL_norm km246 k246_3 (VL_at (al := [(0, vR 11 (283)), (1, vI v1)]) (st := []) km246 k246_3 ?_)
        refine V_mono ((h1.2 c16).1 c15) (fun u2 m2 h2 => ?_) (fun _ _ h => h)
        exact h2
      · refine And.intro (fun c14 => ?_) (fun c14 => ?_)
        · refine VL_norm km246 k246_4 (VL_at (al := [(0, vR 11 (283)), (1, vI v1)]) (st := []) km246 k246_4 ?_)
          refine And.intro (fun c3 => ?_) (fun c3 => ?_)
          · refine VL_norm km246 k246_5 (VL_at (al := []) (st := []) km246 k246_5 ?_)
            refine VL_norm km246 k246_7 (VL_at (al := []) (st := [vI (-(n32 1))]) km246 k246_7 ?_)
            exact ((((h1.2 c16).2 c15).1 c14).1 c3)
          · refine VL_norm km246 k246_6 (VL_at (al := [(0, vR 11 (283)), (1, vI v1)]) (st := []) km246 k246_6 ?_)
            refine V_of ?_
            refine VL_norm km211 k211_0 (VL_at (al := [(0, vR 11 (283)), (1, vI v1)]) (st := []) km211 k211_0 ?_)
            refine V_of ?_
            refine VL_norm km202 k202_0 (VL_at (al := [(0, vR 11 (283)), (1, vI (v1 - (n32 1))), (2, vI (n32 1))]) (st := []) km202 k202_0 ?_)
            refine And.intro ((((h1.2 c16).2 c15).1 c14).2 c3).1 ?_
            refine V_of ?_
            refine VL_norm km202 k202_0 (VL_at (al := [(0, vR 11 (283)), (1, vI v1), (2, vI (n32 1))]) (st := []) km202 k202_0 ?_)
            refine And.intro ((((h1.2 c16).2 c15).1 c14).2 c3).2.1 ?_
            refine VL_norm km246 k246_7 (VL_at (al := []) (st := [vI ((m1 284 (ix (((n32 15) + ((n32 7) * (v1 - (n32 1)))) + (n32 1)))) - (m1 284 (ix (((n32 15) + ((n32 7) * v1)) + (n32 1)))))]) km246 k246_7 ?_)
            exact ((((h1.2 c16).2 c15).1 c14).2 c3).2.2
        · refine And.intro (fun c13 => ?_) (fun c13 => ?_)
          · refine VL_norm km246 k246_8 (VL_at (al := [(0, vR 11 (283)), (1, vI v1)]) (st := []) km246 k246_8 ?_)
            refine V_of ?_
            refine VL_norm km202 k202_0 (VL_at (al := [(0, vR 11 (283)), (1, vI v1), (2, vI (n32 5))]) (st := []) km202 k202_0 ?_)
            refine And.intro ((((h1.2 c16).2 c15).2 c14).1 c13).1 ?_
            exact ((((h1.2 c16).2 c15).2 c14).1 c13).2
          · refine And.intro (fun c12 => ?_) (fun c12 => ?_)
            · refine VL_norm km246 k246_9 (VL_at (al := [(0, vR 11 (283)), (1, vI v1)]) (st := []) km246 k246_9 ?_)
              refine V_of ?_
              refine VL_norm km202 k202_0 (VL_at (al := [(0, vR 11 (283)), (1, vI v1), (2, vI (n32 6))]) (st := []) km202 k202_0 ?_)
              refine And.intro (((((h1.2 c16).2 c15).2 c14).2 c13).1 c12).1 ?_
              exact (((((h1.2 c16).2 c15).2 c14).2 c13).1 c12).2
            · refine And.intro (fun c11 => ?_) (fun c11 => ?_)
              · refine VL_norm km246 k246_10 (VL_at (al := [(0, vR 11 (283)), (1, vI v1)]) (st := []) km246 k246_10 ?_)
                refine V_mono ((((((h1.2 c16).2 c15).2 c14).2 c13).2 c12).1 c11) (fun u4 m4 h4 => ?_) (fun _ _ h => h)
                exact h4
              · refine And.intro (fun c10 => ?_) (fun c10 => ?_)
                · refine VL_norm km246 k246_11 (VL_at (al := [(0, vR 11 (283)), (1, vI v1)]) (st := []) km246 k246_11 ?_)
                  refine V_of ?_
                  refine VL_norm km202 k202_0 (VL_at (al := [(0, vR 11 (283)), (1, vI (n32 0)), (2, vI (n32 1))]) (st := []) km202 k202_0 ?_)
                  refine And.intro (((((((h1.2 c16).2 c15).2 c14).2 c13).2 c12).2 c11).1 c10).1 ?_
                  refine V_of ?_
                  refine VL_norm km202 k202_0 (VL_at (al := [(0, vR 11 (283)), (1, vI v1), (2, vI (n32 1))]) (st := []) km202 k202_0 ?_)
                  refine And.intro (((((((h1.2 c16).2 c15).2 c14).2 c13).2 c12).2 c11).1 c10).2.1 ?_
                  exact (((((((h1.2 c16).2 c15).2 c14).2 c13).2 c12).2 c11).1 c10).2.2
                · refine And.intro (fun c9 => ?_) (fun c9 => ?_)
                  · refine VL_norm km246 k246_12 (VL_at (al := [(0, vR 11 (283)), (1, vI v1)]) (st := []) km246 k246_12 ?_)
                    refine V_mono ((((((((h1.2 c16).2 c15).2 c14).2 c13).2 c12).2 c11).2 c10).1 c9) (fun u5 m5 h5 => ?_) (fun _ _ h => h)
                    exact h5
                  · refine And.intro (fun c8 => ?_) (fun c8 => ?_)
                    · refine VL_norm km246 k246_13 (VL_at (al := [(0, vR 11 (283)), (1, vI v1)]) (st := []) km246 k246_13 ?_)
                      refine V_of ?_
                      refine VL_norm km202 k202_0 (VL_at (al := [(0, vR 11 (283)), (1, vI v1), (2, vI (n32 1))]) (st := []) km202 k202_0 ?_)
                      refine And.intro (((((((((h1.2 c16).2 c15).2 c14).2 c13).2 c12).2 c11).2 c10).2 c9).1 c8).1 ?_
                      refine V_of ?_
                      refine VL_norm km202 k202_0 (VL_at (al := [(0, vR 11 (283)), (1, vI v1), (2, vI (n32 1))]) (st := []) km202 k202_0 ?_)
                      refine And.intro (((((((((h1.2 c16).2 c15).2 c14).2 c13).2 c12).2 c11).2 c10).2 c9).1 c8).1 ?_
                      refine V_mono (((((((((h1.2 c16).2 c15).2 c14).2 c13).2 c12).2 c11).2 c10).2 c9).1 c8).2 (fun u6 m6 h6 => ?_) (fun _ _ h => h)
                      refine And.intro (fun c7 => ?_) (fun c7 => ?_)
                      · refine VL_norm km246 k246_14 (VL_at (al := []) (st := []) km246 k246_14 ?_)
                        refine VL_norm km246 k246_16 (VL_at (al := []) (st := [vI (n32 0)]) km246 k246_16 ?_)
                        exact (h6.1 c7)
                      · refine VL_norm km246 k246_15 (VL_at (al := []) (st := []) km246 k246_15 ?_)
                        refine VL_norm km246 k246_16 (VL_at (al := []) (st := [vI (n32 1)]) km246 k246_16 ?_)
                        exact (h6.2 c7)
                    · refine VL_norm km246 k246_17 (VL_at (al := [(0, vR 11 (283)), (1, vI v1), (2, vI v2)]) (st := []) km246 k246_17 ?_)
                      refine V_of ?_
                      refine VL_norm km202 k202_0 (VL_at (al := [(0, vR 11 (283)), (1, vI v1), (2, vI v2)]) (st := []) km202 k202_0 ?_)
                      refine And.intro (((((((((h1.2 c16).2 c15).2 c14).2 c13).2 c12).2 c11).2 c10).2 c9).2 c8).1 ?_
                      exact (((((((((h1.2 c16).2 c15).2 c14).2 c13).2 c12).2 c11).2 c10).2 c9).2 c8).2
  · refine VL_norm km175 k175_1 (VL_at (al := [(0, vI v2), (2, vI (n32 12))]) (st := []) km175 k175_1 ?_)
    refine And.intro (fun c49 => ?_) (fun c49 => ?_)
    · refine VL_norm km175 k175_3 (VL_at (al := []) (st := []) km175 k175_3 ?_)
      refine VL_norm km175 k175_4 (VL_at (al := []) (st := [vI (n32 0)]) km175 k175_4 ?_)
      refine And.intro xrt20 ?_
      refine V_mono ((h.2 c50).1 c49) (fun u17 m17 h17 => ?_) (fun _ _ h => h)
      refine And.intro (fun c32 => ?_) (fun c32 => ?_)
      · refine VL_norm km246 k246_1 (VL_at (al := []) (st := []) km246 k246_1 ?_)
        exact (h17.1 c32)
      · refine VL_norm km246 k246_2 (VL_at (al := [(0, vR 11 (283)), (1, vI v1), (2, vI v2)]) (st := []) km246 k246_2 ?_)
        refine And.intro (fun c31 => ?_) (fun c31 => ?_)
        · refine VL_norm km246 k246_3 (VL_at (al := [(0, vR 11 (283)), (1, vI v1)]) (st := []) km246 k246_3 ?_)
          refine V_mono ((h17.2 c32).1 c31) (fun u18 m18 h18 => ?_) (fun _ _ h => h)
          exact h18
        · refine And.intro (fun c30 => ?_) (fun c30 => ?_)
          · refine VL_norm km246 k246_4 (VL_at (al := [(0, vR 11 (283)), (1, vI v1)]) (st := []) km246 k246_4 ?_)
            refine And.intro (fun c19 => ?_) (fun c19 => ?_)
            · refine VL_norm km246 k246_5 (VL_at (al := []) (st := []) km246 k246_5 ?_)
              refine VL_norm km246 k246_7 (VL_at (al := []) (st := [vI (-(n32 1))]) km246 k246_7 ?_)
              exact ((((h17.2 c32).2 c31).1 c30).1 c19)
            · refine VL_norm km246 k246_6 (VL_at (al := [(0, vR 11 (283)), (1, vI v1)]) (st := []) km246 k246_6 ?_)
              refine V_of ?_
              refine VL_norm km211 k211_0 (VL_at (al := [(0, vR 11 (283)), (1, vI v1)]) (st := []) km211 k211_0 ?_)
              refine V_of ?_
              refine VL_norm km202 k202_0 (VL_at (al := [(0, vR 11 (283)), (1, vI (v1 - (n32 1))), (2, vI (n32 1))]) (st := []) km202 k202_0 ?_)
              refine And.intro ((((h17.2 c32).2 c31).1 c30).2 c19).1 ?_
              refine V_of ?_
              refine VL_norm km202 k202_0 (VL_at (al := [(0, vR 11 (283)), (1, vI v1), (2, vI (n32 1))]) (st := []) km202 k202_0 ?_)
              refine And.intro ((((h17.2 c32).2 c31).1 c30).2 c19).2.1 ?_
              refine VL_norm km246 k246_7 (VL_at (al := []) (st := [vI ((m17 284 (ix (((n32 15) + ((n32 7) * (v1 - (n32 1)))) + (n32 1)))) - (m17 284 (ix (((n32 15) + ((n32 7) * v1)) + (n32 1)))))]) km246 k246_7 ?_)
              exact ((((h17.2 c32).2 c31).1 c30).2 c19).2.2
          · refine And.intro (fun c29 => ?_) (fun c29 => ?_)
            · refine VL_norm km246 k246_8 (VL_at (al := [(0, vR 11 (283)), (1, vI v1)]) (st := []) km246 k246_8 ?_)
              refine V_of ?_
              refine VL_norm km202 k202_0 (VL_at (al := [(0, vR 11 (283)), (1, vI v1), (2, vI (n32 5))]) (st := []) km202 k202_0 ?_)
              refine And.intro ((((h17.2 c32).2 c31).2 c30).1 c29).1 ?_
              exact ((((h17.2 c32).2 c31).2 c30).1 c29).2
            · refine And.intro (fun c28 => ?_) (fun c28 => ?_)
              · refine VL_norm km246 k246_9 (VL_at (al := [(0, vR 11 (283)), (1, vI v1)]) (st := []) km246 k246_9 ?_)
                refine V_of ?_
                refine VL_norm km202 k202_0 (VL_at (al := [(0, vR 11 (283)), (1, vI v1), (2, vI (n32 6))]) (st := []) km202 k202_0 ?_)
                refine And.intro (((((h17.2 c32).2 c31).2 c30).2 c29).1 c28).1 ?_
                exact (((((h17.2 c32).2 c31).2 c30).2 c29).1 c28).2
              · refine And.intro (fun c27 => ?_) (fun c27 => ?_)
                · refine VL_norm km246 k246_10 (VL_at (al := [(0, vR 11 (283)), (1, vI v1)]) (st := []) km246 k246_10 ?_)
                  refine V_mono ((((((h17.2 c32).2 c31).2 c30).2 c29).2 c28).1 c27) (fun u20 m20 h20 => ?_) (fun _ _ h => h)
                  exact h20
                · refine And.intro (fun c26 => ?_) (fun c26 => ?_)
                  · refine VL_norm km246 k246_11 (VL_at (al := [(0, vR 11 (283)), (1, vI v1)]) (st := []) km246 k246_11 ?_)
                    refine V_of ?_
                    refine VL_norm km202 k202_0 (VL_at (al := [(0, vR 11 (283)), (1, vI (n32 0)), (2, vI (n32 1))]) (st := []) km202 k202_0 ?_)
                    refine And.intro (((((((h17.2 c32).2 c31).2 c30).2 c29).2 c28).2 c27).1 c26).1 ?_
                    refine V_of ?_
                    refine VL_norm km202 k202_0 (VL_at (al := [(0, vR 11 (283)), (1, vI v1), (2, vI (n32 1))]) (st := []) km202 k202_0 ?_)
                    refine And.intro (((((((h17.2 c32).2 c31).2 c30).2 c29).2 c28).2 c27).1 c26).2.1 ?_
                    exact (((((((h17.2 c32).2 c31).2 c30).2 c29).2 c28).2 c27).1 c26).2.2
                  · refine And.intro (fun c25 => ?_) (fun c25 => ?_)
                    · refine VL_norm km246 k246_12 (VL_at (al := [(0, vR 11 (283)), (1, vI v1)]) (st := []) km246 k246_12 ?_)
                      refine V_mono ((((((((h17.2 c32).2 c31).2 c30).2 c29).2 c28).2 c27).2 c26).1 c25) (fun u21 m21 h21 => ?_) (fun _ _ h => h)
                      exact h21
                    · refine And.intro (fun c24 => ?_) (fun c24 => ?_)
                      · refine VL_norm km246 k246_13 (VL_at (al := [(0, vR 11 (283)), (1, vI v1)]) (st := []) km246 k246_13 ?_)
                        refine V_of ?_
                        refine VL_norm km202 k202_0 (VL_at (al := [(0, vR 11 (283)), (1, vI v1), (2, vI (n32 1))]) (st := []) km202 k202_0 ?_)
                        refine And.intro (((((((((h17.2 c32).2 c31).2 c30).2 c29).2 c28).2 c27).2 c26).2 c25).1 c24).1 ?_
                        refine V_of ?_
                        refine VL_norm km202 k202_0 (VL_at (al := [(0, vR 11 (283)), (1, vI v1), (2, vI (n32 1))]) (st := []) km202 k202_0 ?_)
                        refine And.intro (((((((((h17.2 c32).2 c31).2 c30).2 c29).2 c28).2 c27).2 c26).2 c25).1 c24).1 ?_
                        refine V_mono (((((((((h17.2 c32).2 c31).2 c30).2 c29).2 c28).2 c27).2 c26).2 c25).1 c24).2 (fun u22 m22 h22 => ?_) (fun _ _ h => h)
                        refine And.intro (fun c23 => ?_) (fun c23 => ?_)
                        · refine VL_norm km246 k246_14 (VL_at (al := []) (st := []) km246 k246_14 ?_)
                          refine VL_norm km246 k246_16 (VL_at (al := []) (st := [vI (n32 0)]) km246 k246_16 ?_)
                          exact (h22.1 c23)
                        · refine VL_norm km246 k246_15 (VL_at (al := []) (st := []) km246 k246_15 ?_)
                          refine VL_norm km246 k246_16 (VL_at (al := []) (st := [vI (n32 1)]) km246 k246_16 ?_)
                          exact (h22.2 c23)
                      · refine VL_norm km246 k246_17 (VL_at (al := [(0, vR 11 (283)), (1, vI v1), (2, vI v2)]) (st := []) km246 k246_17 ?_)
                        refine V_of ?_
                        refine VL_norm km202 k202_0 (VL_at (al := [(0, vR 11 (283)), (1, vI v1), (2, vI v2)]) (st := []) km202 k202_0 ?_)
                        refine And.intro (((((((((h17.2 c32).2 c31).2 c30).2 c29).2 c28).2 c27).2 c26).2 c25).2 c24).1 ?_
                        exact (((((((((h17.2 c32).2 c31).2 c30).2 c29).2 c28).2 c27).2 c26).2 c25).2 c24).2
    · refine VL_norm km175 k175_2 (VL_at (al := []) (st := []) km175 k175_2 ?_)
      refine VL_norm km175 k175_4 (VL_at (al := []) (st := [vI (n32 1)]) km175 k175_4 ?_)
      refine And.intro xrt21 ?_
      refine V_mono ((h.2 c50).2 c49) (fun u33 m33 h33 => ?_) (fun _ _ h => h)
      refine And.intro (fun c48 => ?_) (fun c48 => ?_)
      · refine VL_norm km246 k246_1 (VL_at (al := []) (st := []) km246 k246_1 ?_)
        exact (h33.1 c48)
      · refine VL_norm km246 k246_2 (VL_at (al := [(0, vR 11 (283)), (1, vI v1), (2, vI v2)]) (st := []) km246 k246_2 ?_)
        refine And.intro (fun c47 => ?_) (fun c47 => ?_)
        · refine VL_norm km246 k246_3 (VL_at (al := [(0, vR 11 (283)), (1, vI v1)]) (st := []) km246 k246_3 ?_)
          refine V_mono ((h33.2 c48).1 c47) (fun u34 m34 h34 => ?_) (fun _ _ h => h)
          exact h34
        · refine And.intro (fun c46 => ?_) (fun c46 => ?_)
          · refine VL_norm km246 k246_4 (VL_at (al := [(0, vR 11 (283)), (1, vI v1)]) (st := []) km246 k246_4 ?_)
            refine And.intro (fun c35 => ?_) (fun c35 => ?_)
            · refine VL_norm km246 k246_5 (VL_at (al := []) (st := []) km246 k246_5 ?_)
              refine VL_norm km246 k246_7 (VL_at (al := []) (st := [vI (-(n32 1))]) km246 k246_7 ?_)
              exact ((((h33.2 c48).2 c47).1 c46).1 c35)
            · refine VL_norm km246 k246_6 (VL_at (al := [(0, vR 11 (283)), (1, vI v1)]) (st := []) km246 k246_6 ?_)
              refine V_of ?_
              refine VL_norm km211 k211_0 (VL_at (al := [(0, vR 11 (283)), (1, vI v1)]) (st := []) km211 k211_0 ?_)
              refine V_of ?_
              refine VL_norm km202 k202_0 (VL_at (al := [(0, vR 11 (283)), (1, vI (v1 - (n32 1))), (2, vI (n32 1))]) (st := []) km202 k202_0 ?_)
              refine And.intro ((((h33.2 c48).2 c47).1 c46).2 c35).1 ?_
              refine V_of ?_
              refine VL_norm km202 k202_0 (VL_at (al := [(0, vR 11 (283)), (1, vI v1), (2, vI (n32 1))]) (st := []) km202 k202_0 ?_)
              refine And.intro ((((h33.2 c48).2 c47).1 c46).2 c35).2.1 ?_
              refine VL_norm km246 k246_7 (VL_at (al := []) (st := [vI ((m33 284 (ix (((n32 15) + ((n32 7) * (v1 - (n32 1)))) + (n32 1)))) - (m33 284 (ix (((n32 15) + ((n32 7) * v1)) + (n32 1)))))]) km246 k246_7 ?_)
              exact ((((h33.2 c48).2 c47).1 c46).2 c35).2.2
          · refine And.intro (fun c45 => ?_) (fun c45 => ?_)
            · refine VL_norm km246 k246_8 (VL_at (al := [(0, vR 11 (283)), (1, vI v1)]) (st := []) km246 k246_8 ?_)
              refine V_of ?_
              refine VL_norm km202 k202_0 (VL_at (al := [(0, vR 11 (283)), (1, vI v1), (2, vI (n32 5))]) (st := []) km202 k202_0 ?_)
              refine And.intro ((((h33.2 c48).2 c47).2 c46).1 c45).1 ?_
              exact ((((h33.2 c48).2 c47).2 c46).1 c45).2
            · refine And.intro (fun c44 => ?_) (fun c44 => ?_)
              · refine VL_norm km246 k246_9 (VL_at (al := [(0, vR 11 (283)), (1, vI v1)]) (st := []) km246 k246_9 ?_)
                refine V_of ?_
                refine VL_norm km202 k202_0 (VL_at (al := [(0, vR 11 (283)), (1, vI v1), (2, vI (n32 6))]) (st := []) km202 k202_0 ?_)
                refine And.intro (((((h33.2 c48).2 c47).2 c46).2 c45).1 c44).1 ?_
                exact (((((h33.2 c48).2 c47).2 c46).2 c45).1 c44).2
              · refine And.intro (fun c43 => ?_) (fun c43 => ?_)
                · refine VL_norm km246 k246_10 (VL_at (al := [(0, vR 11 (283)), (1, vI v1)]) (st := []) km246 k246_10 ?_)
                  refine V_mono ((((((h33.2 c48).2 c47).2 c46).2 c45).2 c44).1 c43) (fun u36 m36 h36 => ?_) (fun _ _ h => h)
                  exact h36
                · refine And.intro (fun c42 => ?_) (fun c42 => ?_)
                  · refine VL_norm km246 k246_11 (VL_at (al := [(0, vR 11 (283)), (1, vI v1)]) (st := []) km246 k246_11 ?_)
                    refine V_of ?_
                    refine VL_norm km202 k202_0 (VL_at (al := [(0, vR 11 (283)), (1, vI (n32 0)), (2, vI (n32 1))]) (st := []) km202 k202_0 ?_)
                    refine And.intro (((((((h33.2 c48).2 c47).2 c46).2 c45).2 c44).2 c43).1 c42).1 ?_
                    refine V_of ?_
                    refine VL_norm km202 k202_0 (VL_at (al := [(0, vR 11 (283)), (1, vI v1), (2, vI (n32 1))]) (st := []) km202 k202_0 ?_)
                    refine And.intro (((((((h33.2 c48).2 c47).2 c46).2 c45).2 c44).2 c43).1 c42).2.1 ?_
                    exact (((((((h33.2 c48).2 c47).2 c46).2 c45).2 c44).2 c43).1 c42).2.2
                  · refine And.intro (fun c41 => ?_) (fun c41 => ?_)
                    · refine VL_norm km246 k246_12 (VL_at (al := [(0, vR 11 (283)), (1, vI v1)]) (st := []) km246 k246_12 ?_)
                      refine V_mono ((((((((h33.2 c48).2 c47).2 c46).2 c45).2 c44).2 c43).2 c42).1 c41) (fun u37 m37 h37 => ?_) (fun _ _ h => h)
                      exact h37
                    · refine And.intro (fun c40 => ?_) (fun c40 => ?_)
                      · refine VL_norm km246 k246_13 (VL_at (al := [(0, vR 11 (283)), (1, vI v1)]) (st := []) km246 k246_13 ?_)
                        refine V_of ?_
                        refine VL_norm km202 k202_0 (VL_at (al := [(0, vR 11 (283)), (1, vI v1), (2, vI (n32 1))]) (st := []) km202 k202_0 ?_)
                        refine And.intro (((((((((h33.2 c48).2 c47).2 c46).2 c45).2 c44).2 c43).2 c42).2 c41).1 c40).1 ?_
                        refine V_of ?_
                        refine VL_norm km202 k202_0 (VL_at (al := [(0, vR 11 (283)), (1, vI v1), (2, vI (n32 1))]) (st := []) km202 k202_0 ?_)
                        refine And.intro (((((((((h33.2 c48).2 c47).2 c46).2 c45).2 c44).2 c43).2 c42).2 c41).1 c40).1 ?_
                        refine V_mono (((((((((h33.2 c48).2 c47).2 c46).2 c45).2 c44).2 c43).2 c42).2 c41).1 c40).2 (fun u38 m38 h38 => ?_) (fun _ _ h => h)
                        refine And.intro (fun c39 => ?_) (fun c39 => ?_)
                        · refine VL_norm km246 k246_14 (VL_at (al := []) (st := []) km246 k246_14 ?_)
                          refine VL_norm km246 k246_16 (VL_at (al := []) (st := [vI (n32 0)]) km246 k246_16 ?_)
                          exact (h38.1 c39)
                        · refine VL_norm km246 k246_15 (VL_at (al := []) (st := []) km246 k246_15 ?_)
                          refine VL_norm km246 k246_16 (VL_at (al := []) (st := [vI (n32 1)]) km246 k246_16 ?_)
                          exact (h38.2 c39)
                      · refine VL_norm km246 k246_17 (VL_at (al := [(0, vR 11 (283)), (1, vI v1), (2, vI v2)]) (st := []) km246 k246_17 ?_)
                        refine V_of ?_
                        refine VL_norm km202 k202_0 (VL_at (al := [(0, vR 11 (283)), (1, vI v1), (2, vI v2)]) (st := []) km202 k202_0 ?_)
                        refine And.intro (((((((((h33.2 c48).2 c47).2 c46).2 c45).2 c44).2 c43).2 c42).2 c41).2 c40).1 ?_
                        exact (((((((((h33.2 c48).2 c47).2 c46).2 c45).2 c44).2 c43).2 c42).2 c41).2 c40).2
/-- BannerParadeModel.seenSet, label 0 -/
theorem w247_0 {D : Nat} {v1 : Int32} {m : XM} {Q : Int32 → XM → Prop} {E : Nat → XM → Prop}
    (h : VLI (D + 2) 247 1 [(0, vR 11 (283)), (1, vI v1), (2, vI (n32 0)), (3, vI (n32 0))] [] m Q E) :
    VI (D + 2) 247 [vR 11 (283), vI v1] m Q E := by
  refine V_of (VL_at (al := [(0, vR 11 (283)), (1, vI v1)]) (st := []) km247 k247_0 ?_)
  exact VL_norm km247 k247_1 h
/-- BannerParadeModel.seenSet, label 1 -/
theorem w247_1 {D : Nat} {v1 : Int32} {v2 : Int32} {v3 : Int32} {m : XM} {Q : Int32 → XM → Prop} {E : Nat → XM → Prop}
    (h : (((m 284 (ix (n32 6))) ≤ v3 → Q v2 m) ∧ (¬ (m 284 (ix (n32 6))) ≤ v3 → VI (D + 1) 219 [vR 11 (283), vI v1, vI v3] m (fun x1 m1 => ((x1 = (n32 0) → VLI (D + 2) 247 1 [(0, vR 11 (283)), (1, vI v1), (2, vI (v2 ||| (n32 0))), (3, vI (v3 + (n32 1)))] [] m1 Q E) ∧ (¬ x1 = (n32 0) → VLI (D + 2) 247 1 [(0, vR 11 (283)), (1, vI v1), (2, vI (v2 ||| ((n32 1) <<< (v3 &&& 31)))), (3, vI (v3 + (n32 1)))] [] m1 Q E))) E))) :
    VLI (D + 2) 247 1 [(0, vR 11 (283)), (1, vI v1), (2, vI v2), (3, vI v3)] [] m Q E := by
  refine VL_at (al := [(0, vR 11 (283)), (1, vI v1), (2, vI v2), (3, vI v3)]) (st := []) km247 k247_1 ?_
  refine And.intro (xin_k rfl) ?_
  refine And.intro (fun c3 => ?_) (fun c3 => ?_)
  · refine VL_norm km247 k247_6 (VL_at (al := [(2, vI v2)]) (st := []) km247 k247_6 ?_)
    exact (h.1 c3)
  · refine VL_norm km247 k247_2 (VL_at (al := [(0, vR 11 (283)), (1, vI v1), (2, vI v2), (3, vI v3)]) (st := []) km247 k247_2 ?_)
    refine V_mono (h.2 c3) (fun u1 m1 h1 => ?_) (fun _ _ h => h)
    refine And.intro (fun c2 => ?_) (fun c2 => ?_)
    · refine VL_norm km247 k247_4 (VL_at (al := [(0, vR 11 (283)), (1, vI v1), (3, vI v3)]) (st := [vI v2]) km247 k247_4 ?_)
      refine VL_norm km247 k247_5 (VL_at (al := [(0, vR 11 (283)), (1, vI v1), (3, vI v3)]) (st := [vI (n32 0), vI v2]) km247 k247_5 ?_)
      exact VL_norm km247 k247_1 (h1.1 c2)
    · refine VL_norm km247 k247_3 (VL_at (al := [(0, vR 11 (283)), (1, vI v1), (3, vI v3)]) (st := [vI v2]) km247 k247_3 ?_)
      refine VL_norm km247 k247_5 (VL_at (al := [(0, vR 11 (283)), (1, vI v1), (3, vI v3)]) (st := [vI ((n32 1) <<< (v3 &&& 31)), vI v2]) km247 k247_5 ?_)
      exact VL_norm km247 k247_1 (h1.2 c2)
/-- BannerParadeModel.bits, label 0 -/
theorem w248_0 {D : Nat} {v0 : Int32} {m : XM} {Q : Int32 → XM → Prop} {E : Nat → XM → Prop}
    (h : VLI D 248 1 [(0, vI v0), (1, vI (n32 0)), (2, vI (n32 0))] [] m Q E) :
    VI D 248 [vI v0] m Q E := by
  refine V_of (VL_at (al := [(0, vI v0)]) (st := []) km248 k248_0 ?_)
  exact VL_norm km248 k248_1 h
/-- BannerParadeModel.bits, label 1 -/
theorem w248_1 {D : Nat} {v0 : Int32} {v1 : Int32} {v2 : Int32} {m : XM} {Q : Int32 → XM → Prop} {E : Nat → XM → Prop}
    (h : (((n32 12) ≤ v2 → Q v1 m) ∧ (¬ (n32 12) ≤ v2 → VLI D 248 1 [(0, vI v0), (1, vI (v1 + ((v0 >>> (v2 &&& 31)) &&& (n32 1)))), (2, vI (v2 + (n32 1)))] [] m Q E))) :
    VLI D 248 1 [(0, vI v0), (1, vI v1), (2, vI v2)] [] m Q E := by
  refine VL_at (al := [(0, vI v0), (1, vI v1), (2, vI v2)]) (st := []) km248 k248_1 ?_
  refine And.intro (fun c1 => ?_) (fun c1 => ?_)
  · refine VL_norm km248 k248_3 (VL_at (al := [(1, vI v1)]) (st := []) km248 k248_3 ?_)
    exact (h.1 c1)
  · refine VL_norm km248 k248_2 (VL_at (al := [(0, vI v0), (1, vI v1), (2, vI v2)]) (st := []) km248 k248_2 ?_)
    exact VL_norm km248 k248_1 (h.2 c1)
/-- BannerParadeModel.textLength, label 0 -/
theorem w249_0 {D : Nat} {v1 : Int32} {m : XM} {Q : Int32 → XM → Prop} {E : Nat → XM → Prop}
    (h : VU (D + 2) 220 [vR 11 (283), vI v1] m (fun m1 => Q (m1 283 18) m1) E) :
    VI (D + 3) 249 [vR 11 (283), vI v1] m Q E := by
  refine V_of (VL_at (al := [(0, vR 11 (283)), (1, vI v1)]) (st := []) km249 k249_0 ?_)
  refine V_mono h (fun u1 m1 h1 => ?_) (fun _ _ h => h)
  exact h1
/-- BannerParadeModel.nearest, label 0 -/
theorem w250_0 {D : Nat} {v1 : Int32} {m : XM} {Q : Int32 → XM → Prop} {E : Nat → XM → Prop}
    (h : VLI (D + 1) 250 1 [(0, vR 11 (283)), (1, vI v1), (2, vI (-(n32 1))), (3, vI (n32 0))] [] m Q E) :
    VI (D + 1) 250 [vR 11 (283), vI v1] m Q E := by
  refine V_of (VL_at (al := [(0, vR 11 (283)), (1, vI v1)]) (st := []) km250 k250_0 ?_)
  exact VL_norm km250 k250_1 h
/-- BannerParadeModel.nearest, label 1 -/
theorem w250_1 {D : Nat} {v1 : Int32} {v2 : Int32} {v3 : Int32} {m : XM} {Q : Int32 → XM → Prop} {E : Nat → XM → Prop}
    (h : (((m 284 (ix (n32 6))) ≤ v3 → Q v2 m) ∧ (¬ (m 284 (ix (n32 6))) ≤ v3 → (xin (((n32 15) + ((n32 7) * v3)) + (n32 1)) 243 = true ∧ (xin (((n32 99) + ((n32 12) * v1)) + (n32 1)) 243 = true ∧ VI D 384 [vI ((m 284 (ix (((n32 15) + ((n32 7) * v3)) + (n32 1)))) - (m 284 (ix (((n32 99) + ((n32 12) * v1)) + (n32 1)))))] m (fun x1 m1 => ((v2 = (-(n32 1)) → VLI (D + 1) 250 1 [(0, vR 11 (283)), (1, vI v1), (2, vI x1), (3, vI (v3 + (n32 1)))] [] m1 Q E) ∧ (¬ v2 = (-(n32 1)) → VI D 386 [vI v2, vI x1] m1 (fun x2 m2 => VLI (D + 1) 250 1 [(0, vR 11 (283)), (1, vI v1), (2, vI x2), (3, vI (v3 + (n32 1)))] [] m2 Q E) E))) E))))) :
    VLI (D + 1) 250 1 [(0, vR 11 (283)), (1, vI v1), (2, vI v2), (3, vI v3)] [] m Q E := by
  refine VL_at (al := [(0, vR 11 (283)), (1, vI v1), (2, vI v2), (3, vI v3)]) (st := []) km250 k250_1 ?_
  refine And.intro (xin_k rfl) ?_
  refine And.intro (fun c4 => ?_) (fun c4 => ?_)
  · refine VL_norm km250 k250_6 (VL_at (al := [(2, vI v2)]) (st := []) km250 k250_6 ?_)
    exact (h.1 c4)
  · refine VL_norm km250 k250_2 (VL_at (al := [(0, vR 11 (283)), (1, vI v1), (2, vI v2), (3, vI v3)]) (st := []) km250 k250_2 ?_)
    refine V_of ?_
    refine VL_norm km202 k202_0 (VL_at (al := [(0, vR 11 (283)), (1, vI v3), (2, vI (n32 1))]) (st := []) km202 k202_0 ?_)
    refine And.intro (h.2 c4).1 ?_
    refine V_of ?_
    refine VL_norm km204 k204_0 (VL_at (al := [(0, vR 11 (283)), (1, vI v1), (2, vI (n32 1))]) (st := []) km204 k204_0 ?_)
    refine And.intro (h.2 c4).2.1 ?_
    refine V_mono (h.2 c4).2.2 (fun u1 m1 h1 => ?_) (fun _ _ h => h)
    refine And.intro (fun c3 => ?_) (fun c3 => ?_)
    · refine VL_norm km250 k250_3 (VL_at (al := [(0, vR 11 (283)), (1, vI v1), (3, vI v3), (4, vI (xti u1))]) (st := []) km250 k250_3 ?_)
      refine VL_norm km250 k250_5 (VL_at (al := [(0, vR 11 (283)), (1, vI v1), (3, vI v3)]) (st := [vI (xti u1)]) km250 k250_5 ?_)
      exact VL_norm km250 k250_1 (h1.1 c3)
    · refine VL_norm km250 k250_4 (VL_at (al := [(0, vR 11 (283)), (1, vI v1), (2, vI v2), (3, vI v3), (4, vI (xti u1))]) (st := []) km250 k250_4 ?_)
      refine V_mono (h1.2 c3) (fun u2 m2 h2 => ?_) (fun _ _ h => h)
      refine VL_norm km250 k250_5 (VL_at (al := [(0, vR 11 (283)), (1, vI v1), (3, vI v3)]) (st := [vI (xti u2)]) km250 k250_5 ?_)
      exact VL_norm km250 k250_1 h2
/-- BannerParadeModel.beyond, label 0 -/
theorem w251_0 {D : Nat} {v1 : Int32} {m : XM} {Q : Int32 → XM → Prop} {E : Nat → XM → Prop}
    (h : VLI (D + 1) 251 1 [(0, vR 11 (283)), (1, vI v1), (2, vI (n32 0)), (3, vI (n32 0))] [] m Q E) :
    VI (D + 1) 251 [vR 11 (283), vI v1] m Q E := by
  refine V_of (VL_at (al := [(0, vR 11 (283)), (1, vI v1)]) (st := []) km251 k251_0 ?_)
  exact VL_norm km251 k251_1 h
/-- BannerParadeModel.beyond, label 1 -/
theorem w251_1 {D : Nat} {v1 : Int32} {v2 : Int32} {v3 : Int32} {m : XM} {Q : Int32 → XM → Prop} {E : Nat → XM → Prop}
    (h : (((m 284 (ix (n32 6))) ≤ v3 → Q v2 m) ∧ (¬ (m 284 (ix (n32 6))) ≤ v3 → (xin (((n32 15) + ((n32 7) * v3)) + (n32 1)) 243 = true ∧ (xin (((n32 99) + ((n32 12) * v1)) + (n32 1)) 243 = true ∧ (((m 284 (ix (((n32 15) + ((n32 7) * v3)) + (n32 1)))) ≤ ((m 284 (ix (((n32 99) + ((n32 12) * v1)) + (n32 1)))) + (m 284 (ix (n32 1)))) → VLI (D + 1) 251 1 [(0, vR 11 (283)), (1, vI v1), (2, vI (v2 + (n32 0))), (3, vI (v3 + (n32 1)))] [] m Q E) ∧ (¬ (m 284 (ix (((n32 15) + ((n32 7) * v3)) + (n32 1)))) ≤ ((m 284 (ix (((n32 99) + ((n32 12) * v1)) + (n32 1)))) + (m 284 (ix (n32 1)))) → VLI (D + 1) 251 1 [(0, vR 11 (283)), (1, vI v1), (2, vI (v2 + (n32 1))), (3, vI (v3 + (n32 1)))] [] m Q E))))))) :
    VLI (D + 1) 251 1 [(0, vR 11 (283)), (1, vI v1), (2, vI v2), (3, vI v3)] [] m Q E := by
  refine VL_at (al := [(0, vR 11 (283)), (1, vI v1), (2, vI v2), (3, vI v3)]) (st := []) km251 k251_1 ?_
  refine And.intro (xin_k rfl) ?_
  refine And.intro (fun c2 => ?_) (fun c2 => ?_)
  · refine VL_norm km251 k251_6 (VL_at (al := [(2, vI v2)]) (st := []) km251 k251_6 ?_)
    exact (h.1 c2)
  · refine VL_norm km251 k251_2 (VL_at (al := [(0, vR 11 (283)), (1, vI v1), (2, vI v2), (3, vI v3)]) (st := []) km251 k251_2 ?_)
    refine V_of ?_
    refine VL_norm km202 k202_0 (VL_at (al := [(0, vR 11 (283)), (1, vI v3), (2, vI (n32 1))]) (st := []) km202 k202_0 ?_)
    refine And.intro (h.2 c2).1 ?_
    refine V_of ?_
    refine VL_norm km204 k204_0 (VL_at (al := [(0, vR 11 (283)), (1, vI v1), (2, vI (n32 1))]) (st := []) km204 k204_0 ?_)
    refine And.intro (h.2 c2).2.1 ?_
    refine And.intro (xin_k rfl) ?_
    refine And.intro (fun c1 => ?_) (fun c1 => ?_)
    · refine VL_norm km251 k251_4 (VL_at (al := [(0, vR 11 (283)), (1, vI v1), (3, vI v3)]) (st := [vI v2]) km251 k251_4 ?_)
      refine VL_norm km251 k251_5 (VL_at (al := [(0, vR 11 (283)), (1, vI v1), (3, vI v3)]) (st := [vI (n32 0), vI v2]) km251 k251_5 ?_)
      exact VL_norm km251 k251_1 ((h.2 c2).2.2.1 c1)
    · refine VL_norm km251 k251_3 (VL_at (al := [(0, vR 11 (283)), (1, vI v1), (3, vI v3)]) (st := [vI v2]) km251 k251_3 ?_)
      refine VL_norm km251 k251_5 (VL_at (al := [(0, vR 11 (283)), (1, vI v1), (3, vI v3)]) (st := [vI (n32 1), vI v2]) km251 k251_5 ?_)
      exact VL_norm km251 k251_1 ((h.2 c2).2.2.2 c1)
/-- BannerParadeModel.ahead, label 0 -/
theorem w252_0 {D : Nat} {v1 : Int32} {m : XM} {Q : Int32 → XM → Prop} {E : Nat → XM → Prop}
    (h : VLI (D + 1) 252 1 [(0, vR 11 (283)), (1, vI v1), (2, vI (n32 0)), (3, vI (n32 0))] [] m Q E) :
    VI (D + 1) 252 [vR 11 (283), vI v1] m Q E := by
  refine V_of (VL_at (al := [(0, vR 11 (283)), (1, vI v1)]) (st := []) km252 k252_0 ?_)
  exact VL_norm km252 k252_1 h
/-- BannerParadeModel.ahead, label 1 -/
theorem w252_1 {D : Nat} {v1 : Int32} {v2 : Int32} {v3 : Int32} {m : XM} {Q : Int32 → XM → Prop} {E : Nat → XM → Prop}
    (h : (((m 284 (ix (n32 6))) ≤ v3 → Q v2 m) ∧ (¬ (m 284 (ix (n32 6))) ≤ v3 → (xin (((n32 15) + ((n32 7) * v3)) + (n32 1)) 243 = true ∧ (xin (((n32 99) + ((n32 12) * v1)) + (n32 1)) 243 = true ∧ ((((m 284 (ix (((n32 99) + ((n32 12) * v1)) + (n32 1)))) - (m 284 (ix (n32 1)))) ≤ (m 284 (ix (((n32 15) + ((n32 7) * v3)) + (n32 1)))) → VLI (D + 1) 252 1 [(0, vR 11 (283)), (1, vI v1), (2, vI (v2 + (n32 0))), (3, vI (v3 + (n32 1)))] [] m Q E) ∧ (¬ ((m 284 (ix (((n32 99) + ((n32 12) * v1)) + (n32 1)))) - (m 284 (ix (n32 1)))) ≤ (m 284 (ix (((n32 15) + ((n32 7) * v3)) + (n32 1)))) → VLI (D + 1) 252 1 [(0, vR 11 (283)), (1, vI v1), (2, vI (v2 + (n32 1))), (3, vI (v3 + (n32 1)))] [] m Q E))))))) :
    VLI (D + 1) 252 1 [(0, vR 11 (283)), (1, vI v1), (2, vI v2), (3, vI v3)] [] m Q E := by
  refine VL_at (al := [(0, vR 11 (283)), (1, vI v1), (2, vI v2), (3, vI v3)]) (st := []) km252 k252_1 ?_
  refine And.intro (xin_k rfl) ?_
  refine And.intro (fun c2 => ?_) (fun c2 => ?_)
  · refine VL_norm km252 k252_6 (VL_at (al := [(2, vI v2)]) (st := []) km252 k252_6 ?_)
    exact (h.1 c2)
  · refine VL_norm km252 k252_2 (VL_at (al := [(0, vR 11 (283)), (1, vI v1), (2, vI v2), (3, vI v3)]) (st := []) km252 k252_2 ?_)
    refine V_of ?_
    refine VL_norm km202 k202_0 (VL_at (al := [(0, vR 11 (283)), (1, vI v3), (2, vI (n32 1))]) (st := []) km202 k202_0 ?_)
    refine And.intro (h.2 c2).1 ?_
    refine V_of ?_
    refine VL_norm km204 k204_0 (VL_at (al := [(0, vR 11 (283)), (1, vI v1), (2, vI (n32 1))]) (st := []) km204 k204_0 ?_)
    refine And.intro (h.2 c2).2.1 ?_
    refine And.intro (xin_k rfl) ?_
    refine And.intro (fun c1 => ?_) (fun c1 => ?_)
    · refine VL_norm km252 k252_4 (VL_at (al := [(0, vR 11 (283)), (1, vI v1), (3, vI v3)]) (st := [vI v2]) km252 k252_4 ?_)
      refine VL_norm km252 k252_5 (VL_at (al := [(0, vR 11 (283)), (1, vI v1), (3, vI v3)]) (st := [vI (n32 0), vI v2]) km252 k252_5 ?_)
      exact VL_norm km252 k252_1 ((h.2 c2).2.2.1 c1)
    · refine VL_norm km252 k252_3 (VL_at (al := [(0, vR 11 (283)), (1, vI v1), (3, vI v3)]) (st := [vI v2]) km252 k252_3 ?_)
      refine VL_norm km252 k252_5 (VL_at (al := [(0, vR 11 (283)), (1, vI v1), (3, vI v3)]) (st := [vI (n32 1), vI v2]) km252 k252_5 ?_)
      exact VL_norm km252 k252_1 ((h.2 c2).2.2.2 c1)
/-- BannerParadeModel.stand, label 0 -/
theorem w253_0 {D : Nat} {v1 : Int32} {v2 : Int32} {m : XM} {Q : Int32 → XM → Prop} {E : Nat → XM → Prop}
    (h : ((v1 < (n32 0) → ((v2 < (n32 0) → VI (D + 3) 176 [vR 11 (283), vI (m 283 6), vI (n32 0), vI (n32 0)] m (fun x1 m1 => ((x1 = (n32 0) → Q (n32 0) m1) ∧ (¬ x1 = (n32 0) → ((v2 = (n32 4) → VI (D + 3) 247 [vR 11 (283), vI v1] m1 (fun x2 m2 => VI (D + 3) 248 [vI x2] m2 (fun x3 m3 => Q x3 m3) E) E) ∧ (¬ v2 = (n32 4) → ((v2 = (n32 5) → VI (D + 3) 249 [vR 11 (283), vI v1] m1 (fun x4 m4 => Q x4 m4) E) ∧ (¬ v2 = (n32 5) → ((v2 = (n32 6) → VI (D + 3) 250 [vR 11 (283), vI v1] m1 (fun x5 m5 => Q x5 m5) E) ∧ (¬ v2 = (n32 6) → ((v2 = (n32 7) → VI (D + 3) 251 [vR 11 (283), vI v1] m1 (fun x6 m6 => Q x6 m6) E) ∧ (¬ v2 = (n32 7) → ((v2 = (n32 8) → VI (D + 3) 252 [vR 11 (283), vI v1] m1 (fun x7 m7 => Q x7 m7) E) ∧ (¬ v2 = (n32 8) → (xin (((n32 99) + ((n32 12) * v1)) + v2) 243 = true ∧ Q (m1 284 (ix (((n32 99) + ((n32 12) * v1)) + v2))) m1)))))))))))))) E) ∧ (¬ v2 < (n32 0) → (((n32 8) < v2 → VI (D + 3) 176 [vR 11 (283), vI (m 283 6), vI (n32 0), vI (n32 0)] m (fun x14 m14 => ((x14 = (n32 0) → Q (n32 0) m14) ∧ (¬ x14 = (n32 0) → ((v2 = (n32 4) → VI (D + 3) 247 [vR 11 (283), vI v1] m14 (fun x15 m15 => VI (D + 3) 248 [vI x15] m15 (fun x16 m16 => Q x16 m16) E) E) ∧ (¬ v2 = (n32 4) → ((v2 = (n32 5) → VI (D + 3) 249 [vR 11 (283), vI v1] m14 (fun x17 m17 => Q x17 m17) E) ∧ (¬ v2 = (n32 5) → ((v2 = (n32 6) → VI (D + 3) 250 [vR 11 (283), vI v1] m14 (fun x18 m18 => Q x18 m18) E) ∧ (¬ v2 = (n32 6) → ((v2 = (n32 7) → VI (D + 3) 251 [vR 11 (283), vI v1] m14 (fun x19 m19 => Q x19 m19) E) ∧ (¬ v2 = (n32 7) → ((v2 = (n32 8) → VI (D + 3) 252 [vR 11 (283), vI v1] m14 (fun x20 m20 => Q x20 m20) E) ∧ (¬ v2 = (n32 8) → (xin (((n32 99) + ((n32 12) * v1)) + v2) 243 = true ∧ Q (m14 284 (ix (((n32 99) + ((n32 12) * v1)) + v2))) m14)))))))))))))) E) ∧ (¬ (n32 8) < v2 → VI (D + 3) 176 [vR 11 (283), vI (m 283 6), vI (n32 0), vI (n32 1)] m (fun x27 m27 => ((x27 = (n32 0) → Q (n32 0) m27) ∧ (¬ x27 = (n32 0) → ((v2 = (n32 4) → VI (D + 3) 247 [vR 11 (283), vI v1] m27 (fun x28 m28 => VI (D + 3) 248 [vI x28] m28 (fun x29 m29 => Q x29 m29) E) E) ∧ (¬ v2 = (n32 4) → ((v2 = (n32 5) → VI (D + 3) 249 [vR 11 (283), vI v1] m27 (fun x30 m30 => Q x30 m30) E) ∧ (¬ v2 = (n32 5) → ((v2 = (n32 6) → VI (D + 3) 250 [vR 11 (283), vI v1] m27 (fun x31 m31 => Q x31 m31) E) ∧ (¬ v2 = (n32 6) → ((v2 = (n32 7) → VI (D + 3) 251 [vR 11 (283), vI v1] m27 (fun x32 m32 => Q x32 m32) E) ∧ (¬ v2 = (n32 7) → ((v2 = (n32 8) → VI (D + 3) 252 [vR 11 (283), vI v1] m27 (fun x33 m33 => Q x33 m33) E) ∧ (¬ v2 = (n32 8) → (xin (((n32 99) + ((n32 12) * v1)) + v2) 243 = true ∧ Q (m27 284 (ix (((n32 99) + ((n32 12) * v1)) + v2))) m27)))))))))))))) E))))) ∧ (¬ v1 < (n32 0) → ((((m 284 (ix (n32 7))) - (n32 1)) < v1 → ((v2 < (n32 0) → VI (D + 3) 176 [vR 11 (283), vI (m 283 6), vI (n32 0), vI (n32 0)] m (fun x42 m42 => ((x42 = (n32 0) → Q (n32 0) m42) ∧ (¬ x42 = (n32 0) → ((v2 = (n32 4) → VI (D + 3) 247 [vR 11 (283), vI v1] m42 (fun x43 m43 => VI (D + 3) 248 [vI x43] m43 (fun x44 m44 => Q x44 m44) E) E) ∧ (¬ v2 = (n32 4) → ((v2 = (n32 5) → VI (D + 3) 249 [vR 11 (283), vI v1] m42 (fun x45 m45 => Q x45 m45) E) ∧ (¬ v2 = (n32 5) → ((v2 = (n32 6) → VI (D + 3) 250 [vR 11 (283), vI v1] m42 (fun x46 m46 => Q x46 m46) E) ∧ (¬ v2 = (n32 6) → ((v2 = (n32 7) → VI (D + 3) 251 [vR 11 (283), vI v1] m42 (fun x47 m47 => Q x47 m47) E) ∧ (¬ v2 = (n32 7) → ((v2 = (n32 8) → VI (D + 3) 252 [vR 11 (283), vI v1] m42 (fun x48 m48 => Q x48 m48) E) ∧ (¬ v2 = (n32 8) → (xin (((n32 99) + ((n32 12) * v1)) + v2) 243 = true ∧ Q (m42 284 (ix (((n32 99) + ((n32 12) * v1)) + v2))) m42)))))))))))))) E) ∧ (¬ v2 < (n32 0) → (((n32 8) < v2 → VI (D + 3) 176 [vR 11 (283), vI (m 283 6), vI (n32 0), vI (n32 0)] m (fun x55 m55 => ((x55 = (n32 0) → Q (n32 0) m55) ∧ (¬ x55 = (n32 0) → ((v2 = (n32 4) → VI (D + 3) 247 [vR 11 (283), vI v1] m55 (fun x56 m56 => VI (D + 3) 248 [vI x56] m56 (fun x57 m57 => Q x57 m57) E) E) ∧ (¬ v2 = (n32 4) → ((v2 = (n32 5) → VI (D + 3) 249 [vR 11 (283), vI v1] m55 (fun x58 m58 => Q x58 m58) E) ∧ (¬ v2 = (n32 5) → ((v2 = (n32 6) → VI (D + 3) 250 [vR 11 (283), vI v1] m55 (fun x59 m59 => Q x59 m59) E) ∧ (¬ v2 = (n32 6) → ((v2 = (n32 7) → VI (D + 3) 251 [vR 11 (283), vI v1] m55 (fun x60 m60 => Q x60 m60) E) ∧ (¬ v2 = (n32 7) → ((v2 = (n32 8) → VI (D + 3) 252 [vR 11 (283), vI v1] m55 (fun x61 m61 => Q x61 m61) E) ∧ (¬ v2 = (n32 8) → (xin (((n32 99) + ((n32 12) * v1)) + v2) 243 = true ∧ Q (m55 284 (ix (((n32 99) + ((n32 12) * v1)) + v2))) m55)))))))))))))) E) ∧ (¬ (n32 8) < v2 → VI (D + 3) 176 [vR 11 (283), vI (m 283 6), vI (n32 0), vI (n32 1)] m (fun x68 m68 => ((x68 = (n32 0) → Q (n32 0) m68) ∧ (¬ x68 = (n32 0) → ((v2 = (n32 4) → VI (D + 3) 247 [vR 11 (283), vI v1] m68 (fun x69 m69 => VI (D + 3) 248 [vI x69] m69 (fun x70 m70 => Q x70 m70) E) E) ∧ (¬ v2 = (n32 4) → ((v2 = (n32 5) → VI (D + 3) 249 [vR 11 (283), vI v1] m68 (fun x71 m71 => Q x71 m71) E) ∧ (¬ v2 = (n32 5) → ((v2 = (n32 6) → VI (D + 3) 250 [vR 11 (283), vI v1] m68 (fun x72 m72 => Q x72 m72) E) ∧ (¬ v2 = (n32 6) → ((v2 = (n32 7) → VI (D + 3) 251 [vR 11 (283), vI v1] m68 (fun x73 m73 => Q x73 m73) E) ∧ (¬ v2 = (n32 7) → ((v2 = (n32 8) → VI (D + 3) 252 [vR 11 (283), vI v1] m68 (fun x74 m74 => Q x74 m74) E) ∧ (¬ v2 = (n32 8) → (xin (((n32 99) + ((n32 12) * v1)) + v2) 243 = true ∧ Q (m68 284 (ix (((n32 99) + ((n32 12) * v1)) + v2))) m68)))))))))))))) E))))) ∧ (¬ ((m 284 (ix (n32 7))) - (n32 1)) < v1 → ((v2 < (n32 0) → VI (D + 3) 176 [vR 11 (283), vI (m 283 6), vI (n32 1), vI (n32 0)] m (fun x83 m83 => ((x83 = (n32 0) → Q (n32 0) m83) ∧ (¬ x83 = (n32 0) → ((v2 = (n32 4) → VI (D + 3) 247 [vR 11 (283), vI v1] m83 (fun x84 m84 => VI (D + 3) 248 [vI x84] m84 (fun x85 m85 => Q x85 m85) E) E) ∧ (¬ v2 = (n32 4) → ((v2 = (n32 5) → VI (D + 3) 249 [vR 11 (283), vI v1] m83 (fun x86 m86 => Q x86 m86) E) ∧ (¬ v2 = (n32 5) → ((v2 = (n32 6) → VI (D + 3) 250 [vR 11 (283), vI v1] m83 (fun x87 m87 => Q x87 m87) E) ∧ (¬ v2 = (n32 6) → ((v2 = (n32 7) → VI (D + 3) 251 [vR 11 (283), vI v1] m83 (fun x88 m88 => Q x88 m88) E) ∧ (¬ v2 = (n32 7) → ((v2 = (n32 8) → VI (D + 3) 252 [vR 11 (283), vI v1] m83 (fun x89 m89 => Q x89 m89) E) ∧ (¬ v2 = (n32 8) → (xin (((n32 99) + ((n32 12) * v1)) + v2) 243 = true ∧ Q (m83 284 (ix (((n32 99) + ((n32 12) * v1)) + v2))) m83)))))))))))))) E) ∧ (¬ v2 < (n32 0) → (((n32 8) < v2 → VI (D + 3) 176 [vR 11 (283), vI (m 283 6), vI (n32 1), vI (n32 0)] m (fun x96 m96 => ((x96 = (n32 0) → Q (n32 0) m96) ∧ (¬ x96 = (n32 0) → ((v2 = (n32 4) → VI (D + 3) 247 [vR 11 (283), vI v1] m96 (fun x97 m97 => VI (D + 3) 248 [vI x97] m97 (fun x98 m98 => Q x98 m98) E) E) ∧ (¬ v2 = (n32 4) → ((v2 = (n32 5) → VI (D + 3) 249 [vR 11 (283), vI v1] m96 (fun x99 m99 => Q x99 m99) E) ∧ (¬ v2 = (n32 5) → ((v2 = (n32 6) → VI (D + 3) 250 [vR 11 (283), vI v1] m96 (fun x100 m100 => Q x100 m100) E) ∧ (¬ v2 = (n32 6) → ((v2 = (n32 7) → VI (D + 3) 251 [vR 11 (283), vI v1] m96 (fun x101 m101 => Q x101 m101) E) ∧ (¬ v2 = (n32 7) → ((v2 = (n32 8) → VI (D + 3) 252 [vR 11 (283), vI v1] m96 (fun x102 m102 => Q x102 m102) E) ∧ (¬ v2 = (n32 8) → (xin (((n32 99) + ((n32 12) * v1)) + v2) 243 = true ∧ Q (m96 284 (ix (((n32 99) + ((n32 12) * v1)) + v2))) m96)))))))))))))) E) ∧ (¬ (n32 8) < v2 → VI (D + 3) 176 [vR 11 (283), vI (m 283 6), vI (n32 1), vI (n32 1)] m (fun x109 m109 => ((x109 = (n32 0) → Q (n32 0) m109) ∧ (¬ x109 = (n32 0) → ((v2 = (n32 4) → VI (D + 3) 247 [vR 11 (283), vI v1] m109 (fun x110 m110 => VI (D + 3) 248 [vI x110] m110 (fun x111 m111 => Q x111 m111) E) E) ∧ (¬ v2 = (n32 4) → ((v2 = (n32 5) → VI (D + 3) 249 [vR 11 (283), vI v1] m109 (fun x112 m112 => Q x112 m112) E) ∧ (¬ v2 = (n32 5) → ((v2 = (n32 6) → VI (D + 3) 250 [vR 11 (283), vI v1] m109 (fun x113 m113 => Q x113 m113) E) ∧ (¬ v2 = (n32 6) → ((v2 = (n32 7) → VI (D + 3) 251 [vR 11 (283), vI v1] m109 (fun x114 m114 => Q x114 m114) E) ∧ (¬ v2 = (n32 7) → ((v2 = (n32 8) → VI (D + 3) 252 [vR 11 (283), vI v1] m109 (fun x115 m115 => Q x115 m115) E) ∧ (¬ v2 = (n32 8) → (xin (((n32 99) + ((n32 12) * v1)) + v2) 243 = true ∧ Q (m109 284 (ix (((n32 99) + ((n32 12) * v1)) + v2))) m109)))))))))))))) E))))))))) :
    VI (D + 4) 253 [vR 11 (283), vI v1, vI v2] m Q E := by
  refine V_of (VL_at (al := [(0, vR 11 (283)), (1, vI v1), (2, vI v2)]) (st := []) km253 k253_0 ?_)
  refine V_of ?_
  refine VL_norm km209 k209_0 (VL_at (al := [(0, vR 11 (283)), (1, vI v1)]) (st := []) km209 k209_0 ?_)
  refine And.intro (xin_k rfl) ?_
  refine V_of ?_
  refine VL_norm km175 k175_0 (VL_at (al := [(0, vI v1), (1, vI (n32 0)), (2, vI ((m 284 (ix (n32 7))) - (n32 1)))]) (st := []) km175 k175_0 ?_)
  refine And.intro (fun c125 => ?_) (fun c125 => ?_)
  · refine VL_norm km175 k175_3 (VL_at (al := []) (st := []) km175 k175_3 ?_)
    refine VL_norm km175 k175_4 (VL_at (al := []) (st := [vI (n32 0)]) km175 k175_4 ?_)
    refine And.intro xrt20 ?_
    refine And.intro xrt20 ?_
    refine V_of ?_
    refine VL_norm km175 k175_0 (VL_at (al := [(0, vI v2), (1, vI (n32 0)), (2, vI (n32 8))]) (st := []) km175 k175_0 ?_)
    refine And.intro (fun c41 => ?_) (fun c41 => ?_)
    · refine VL_norm km175 k175_3 (VL_at (al := []) (st := []) km175 k175_3 ?_)
      refine VL_norm km175 k175_4 (VL_at (al := []) (st := [vI (n32 0)]) km175 k175_4 ?_)
      refine And.intro xrt20 ?_
      refine V_mono ((h.1 c125).1 c41) (fun u1 m1 h1 => ?_) (fun _ _ h => h)
      refine And.intro (fun c13 => ?_) (fun c13 => ?_)
      · refine VL_norm km253 k253_1 (VL_at (al := []) (st := []) km253 k253_1 ?_)
        exact (h1.1 c13)
      · refine VL_norm km253 k253_2 (VL_at (al := [(0, vR 11 (283)), (1, vI v1), (2, vI v2)]) (st := []) km253 k253_2 ?_)
        refine And.intro (fun c12 => ?_) (fun c12 => ?_)
        · refine VL_norm km253 k253_3 (VL_at (al := [(0, vR 11 (283)), (1, vI v1)]) (st := []) km253 k253_3 ?_)
          refine V_mono ((h1.2 c13).1 c12) (fun u2 m2 h2 => ?_) (fun _ _ h => h)
          refine V_mono h2 (fun u3 m3 h3 => ?_) (fun _ _ h => h)
          exact h3
        · refine And.intro (fun c11 => ?_) (fun c11 => ?_)
          · refine VL_norm km253 k253_4 (VL_at (al := [(0, vR 11 (283)), (1, vI v1)]) (st := []) km253 k253_4 ?_)
            refine V_mono (((h1.2 c13).2 c12).1 c11) (fun u4 m4 h4 => ?_) (fun _ _ h => h)
            exact h4
          · refine And.intro (fun c10 => ?_) (fun c10 => ?_)
            · refine VL_norm km253 k253_5 (VL_at (al := [(0, vR 11 (283)), (1, vI v1)]) (st := []) km253 k253_5 ?_)
              refine V_mono ((((h1.2 c13).2 c12).2 c11).1 c10) (fun u5 m5 h5 => ?_) (fun _ _ h => h)
              exact h5
            · refine And.intro (fun c9 => ?_) (fun c9 => ?_)
              · refine VL_norm km253 k253_6 (VL_at (al := [(0, vR 11 (283)), (1, vI v1)]) (st := []) km253 k253_6 ?_)
                refine V_mono (((((h1.2 c13).2 c12).2 c11).2 c10).1 c9) (fun u6 m6 h6 => ?_) (fun _ _ h => h)
                exact h6
              · refine And.intro (fun c8 => ?_) (fun c8 => ?_)
                · refine VL_norm km253 k253_7 (VL_at (al := [(0, vR 11 (283)), (1, vI v1)]) (st := []) km253 k253_7 ?_)
                  refine V_mono ((((((h1.2 c13).2 c12).2 c11).2 c10).2 c9).1 c8) (fun u7 m7 h7 => ?_) (fun _ _ h => h)
                  exact h7
                · refine VL_norm km253 k253_8 (VL_at (al := [(0, vR 11 (283)), (1, vI v1), (2, vI v2)]) (st := []) km253 k253_8 ?_)
                  refine V_of ?_
                  refine VL_norm km204 k204_0 (VL_at (al := [(0, vR 11 (283)), (1, vI v1), (2, vI v2)]) (st := []) km204 k204_0 ?_)
                  refine And.intro ((((((h1.2 c13).2 c12).2 c11).2 c10).2 c9).2 c8).1 ?_
                  exact ((((((h1.2 c13).2 c12).2 c11).2 c10).2 c9).2 c8).2
    · refine VL_norm km175 k175_1 (VL_at (al := [(0, vI v2), (2, vI (n32 8))]) (st := []) km175 k175_1 ?_)
      refine And.intro (fun c40 => ?_) (fun c40 => ?_)
      · refine VL_norm km175 k175_3 (VL_at (al := []) (st := []) km175 k175_3 ?_)
        refine VL_norm km175 k175_4 (VL_at (al := []) (st := [vI (n32 0)]) km175 k175_4 ?_)
        refine And.intro xrt20 ?_
        refine V_mono (((h.1 c125).2 c41).1 c40) (fun u14 m14 h14 => ?_) (fun _ _ h => h)
        refine And.intro (fun c26 => ?_) (fun c26 => ?_)
        · refine VL_norm km253 k253_1 (VL_at (al := []) (st := []) km253 k253_1 ?_)
          exact (h14.1 c26)
        · refine VL_norm km253 k253_2 (VL_at (al := [(0, vR 11 (283)), (1, vI v1), (2, vI v2)]) (st := []) km253 k253_2 ?_)
          refine And.intro (fun c25 => ?_) (fun c25 => ?_)
          · refine VL_norm km253 k253_3 (VL_at (al := [(0, vR 11 (283)), (1, vI v1)]) (st := []) km253 k253_3 ?_)
            refine V_mono ((h14.2 c26).1 c25) (fun u15 m15 h15 => ?_) (fun _ _ h => h)
            refine V_mono h15 (fun u16 m16 h16 => ?_) (fun _ _ h => h)
            exact h16
          · refine And.intro (fun c24 => ?_) (fun c24 => ?_)
            · refine VL_norm km253 k253_4 (VL_at (al := [(0, vR 11 (283)), (1, vI v1)]) (st := []) km253 k253_4 ?_)
              refine V_mono (((h14.2 c26).2 c25).1 c24) (fun u17 m17 h17 => ?_) (fun _ _ h => h)
              exact h17
            · refine And.intro (fun c23 => ?_) (fun c23 => ?_)
              · refine VL_norm km253 k253_5 (VL_at (al := [(0, vR 11 (283)), (1, vI v1)]) (st := []) km253 k253_5 ?_)
                refine V_mono ((((h14.2 c26).2 c25).2 c24).1 c23) (fun u18 m18 h18 => ?_) (fun _ _ h => h)
                exact h18
              · refine And.intro (fun c22 => ?_) (fun c22 => ?_)
                · refine VL_norm km253 k253_6 (VL_at (al := [(0, vR 11 (283)), (1, vI v1)]) (st := []) km253 k253_6 ?_)
                  refine V_mono (((((h14.2 c26).2 c25).2 c24).2 c23).1 c22) (fun u19 m19 h19 => ?_) (fun _ _ h => h)
                  exact h19
                · refine And.intro (fun c21 => ?_) (fun c21 => ?_)
                  · refine VL_norm km253 k253_7 (VL_at (al := [(0, vR 11 (283)), (1, vI v1)]) (st := []) km253 k253_7 ?_)
                    refine V_mono ((((((h14.2 c26).2 c25).2 c24).2 c23).2 c22).1 c21) (fun u20 m20 h20 => ?_) (fun _ _ h => h)
                    exact h20
                  · refine VL_norm km253 k253_8 (VL_at (al := [(0, vR 11 (283)), (1, vI v1), (2, vI v2)]) (st := []) km253 k253_8 ?_)
                    refine V_of ?_
                    refine VL_norm km204 k204_0 (VL_at (al := [(0, vR 11 (283)), (1, vI v1), (2, vI v2)]) (st := []) km204 k204_0 ?_)
                    refine And.intro ((((((h14.2 c26).2 c25).2 c24).2 c23).2 c22).2 c21).1 ?_
                    exact ((((((h14.2 c26).2 c25).2 c24).2 c23).2 c22).2 c21).2
      · refine VL_norm km175 k175_2 (VL_at (al := []) (st := []) km175 k175_2 ?_)
        refine VL_norm km175 k175_4 (VL_at (al := []) (st := [vI (n32 1)]) km175 k175_4 ?_)
        refine And.intro xrt21 ?_
        refine V_mono (((h.1 c125).2 c41).2 c40) (fun u27 m27 h27 => ?_) (fun _ _ h => h)
        refine And.intro (fun c39 => ?_) (fun c39 => ?_)
        · refine VL_norm km253 k253_1 (VL_at (al := []) (st := []) km253 k253_1 ?_)
          exact (h27.1 c39)
        · refine VL_norm km253 k253_2 (VL_at (al := [(0, vR 11 (283)), (1, vI v1), (2, vI v2)]) (st := []) km253 k253_2 ?_)
          refine And.intro (fun c38 => ?_) (fun c38 => ?_)
          · refine VL_norm km253 k253_3 (VL_at (al := [(0, vR 11 (283)), (1, vI v1)]) (st := []) km253 k253_3 ?_)
            refine V_mono ((h27.2 c39).1 c38) (fun u28 m28 h28 => ?_) (fun _ _ h => h)
            refine V_mono h28 (fun u29 m29 h29 => ?_) (fun _ _ h => h)
            exact h29
          · refine And.intro (fun c37 => ?_) (fun c37 => ?_)
            · refine VL_norm km253 k253_4 (VL_at (al := [(0, vR 11 (283)), (1, vI v1)]) (st := []) km253 k253_4 ?_)
              refine V_mono (((h27.2 c39).2 c38).1 c37) (fun u30 m30 h30 => ?_) (fun _ _ h => h)
              exact h30
            · refine And.intro (fun c36 => ?_) (fun c36 => ?_)
              · refine VL_norm km253 k253_5 (VL_at (al := [(0, vR 11 (283)), (1, vI v1)]) (st := []) km253 k253_5 ?_)
                refine V_mono ((((h27.2 c39).2 c38).2 c37).1 c36) (fun u31 m31 h31 => ?_) (fun _ _ h => h)
                exact h31
              · refine And.intro (fun c35 => ?_) (fun c35 => ?_)
                · refine VL_norm km253 k253_6 (VL_at (al := [(0, vR 11 (283)), (1, vI v1)]) (st := []) km253 k253_6 ?_)
                  refine V_mono (((((h27.2 c39).2 c38).2 c37).2 c36).1 c35) (fun u32 m32 h32 => ?_) (fun _ _ h => h)
                  exact h32
                · refine And.intro (fun c34 => ?_) (fun c34 => ?_)
                  · refine VL_norm km253 k253_7 (VL_at (al := [(0, vR 11 (283)), (1, vI v1)]) (st := []) km253 k253_7 ?_)
                    refine V_mono ((((((h27.2 c39).2 c38).2 c37).2 c36).2 c35).1 c34) (fun u33 m33 h33 => ?_) (fun _ _ h => h)
                    exact h33
                  · refine VL_norm km253 k253_8 (VL_at (al := [(0, vR 11 (283)), (1, vI v1), (2, vI v2)]) (st := []) km253 k253_8 ?_)
                    refine V_of ?_
                    refine VL_norm km204 k204_0 (VL_at (al := [(0, vR 11 (283)), (1, vI v1), (2, vI v2)]) (st := []) km204 k204_0 ?_)
                    refine And.intro ((((((h27.2 c39).2 c38).2 c37).2 c36).2 c35).2 c34).1 ?_
                    exact ((((((h27.2 c39).2 c38).2 c37).2 c36).2 c35).2 c34).2
  · refine VL_norm km175 k175_1 (VL_at (al := [(0, vI v1), (2, vI ((m 284 (ix (n32 7))) - (n32 1)))]) (st := []) km175 k175_1 ?_)
    refine And.intro (fun c124 => ?_) (fun c124 => ?_)
    · refine VL_norm km175 k175_3 (VL_at (al := []) (st := []) km175 k175_3 ?_)
      refine VL_norm km175 k175_4 (VL_at (al := []) (st := [vI (n32 0)]) km175 k175_4 ?_)
      refine And.intro xrt20 ?_
      refine And.intro xrt20 ?_
      refine V_of ?_
      refine VL_norm km175 k175_0 (VL_at (al := [(0, vI v2), (1, vI (n32 0)), (2, vI (n32 8))]) (st := []) km175 k175_0 ?_)
      refine And.intro (fun c82 => ?_) (fun c82 => ?_)
      · refine VL_norm km175 k175_3 (VL_at (al := []) (st := []) km175 k175_3 ?_)
        refine VL_norm km175 k175_4 (VL_at (al := []) (st := [vI (n32 0)]) km175 k175_4 ?_)
        refine And.intro xrt20 ?_
        refine V_mono (((h.2 c125).1 c124).1 c82) (fun u42 m42 h42 => ?_) (fun _ _ h => h)
        refine And.intro (fun c54 => ?_) (fun c54 => ?_)
        · refine VL_norm km253 k253_1 (VL_at (al := []) (st := []) km253 k253_1 ?_)
          exact (h42.1 c54)
        · refine VL_norm km253 k253_2 (VL_at (al := [(0, vR 11 (283)), (1, vI v1), (2, vI v2)]) (st := []) km253 k253_2 ?_)
          refine And.intro (fun c53 => ?_) (fun c53 => ?_)
          · refine VL_norm km253 k253_3 (VL_at (al := [(0, vR 11 (283)), (1, vI v1)]) (st := []) km253 k253_3 ?_)
            refine V_mono ((h42.2 c54).1 c53) (fun u43 m43 h43 => ?_) (fun _ _ h => h)
            refine V_mono h43 (fun u44 m44 h44 => ?_) (fun _ _ h => h)
            exact h44
          · refine And.intro (fun c52 => ?_) (fun c52 => ?_)
            · refine VL_norm km253 k253_4 (VL_at (al := [(0, vR 11 (283)), (1, vI v1)]) (st := []) km253 k253_4 ?_)
              refine V_mono (((h42.2 c54).2 c53).1 c52) (fun u45 m45 h45 => ?_) (fun _ _ h => h)
              exact h45
            · refine And.intro (fun c51 => ?_) (fun c51 => ?_)
              · refine VL_norm km253 k253_5 (VL_at (al := [(0, vR 11 (283)), (1, vI v1)]) (st := []) km253 k253_5 ?_)
                refine V_mono ((((h42.2 c54).2 c53).2 c52).1 c51) (fun u46 m46 h46 => ?_) (fun _ _ h => h)
                exact h46
              · refine And.intro (fun c50 => ?_) (fun c50 => ?_)
                · refine VL_norm km253 k253_6 (VL_at (al := [(0, vR 11 (283)), (1, vI v1)]) (st := []) km253 k253_6 ?_)
                  refine V_mono (((((h42.2 c54).2 c53).2 c52).2 c51).1 c50) (fun u47 m47 h47 => ?_) (fun _ _ h => h)
                  exact h47
                · refine And.intro (fun c49 => ?_) (fun c49 => ?_)
                  · refine VL_norm km253 k253_7 (VL_at (al := [(0, vR 11 (283)), (1, vI v1)]) (st := []) km253 k253_7 ?_)
                    refine V_mono ((((((h42.2 c54).2 c53).2 c52).2 c51).2 c50).1 c49) (fun u48 m48 h48 => ?_) (fun _ _ h => h)
                    exact h48
                  · refine VL_norm km253 k253_8 (VL_at (al := [(0, vR 11 (283)), (1, vI v1), (2, vI v2)]) (st := []) km253 k253_8 ?_)
                    refine V_of ?_
                    refine VL_norm km204 k204_0 (VL_at (al := [(0, vR 11 (283)), (1, vI v1), (2, vI v2)]) (st := []) km204 k204_0 ?_)
                    refine And.intro ((((((h42.2 c54).2 c53).2 c52).2 c51).2 c50).2 c49).1 ?_
                    exact ((((((h42.2 c54).2 c53).2 c52).2 c51).2 c50).2 c49).2
      · refine VL_norm km175 k175_1 (VL_at (al := [(0, vI v2), (2, vI (n32 8))]) (st := []) km175 k175_1 ?_)
        refine And.intro (fun c81 => ?_) (fun c81 => ?_)
        · refine VL_norm km175 k175_3 (VL_at (al := []) (st := []) km175 k175_3 ?_)
          refine VL_norm km175 k175_4 (VL_at (al := []) (st := [vI (n32 0)]) km175 k175_4 ?_)
          refine And.intro xrt20 ?_
          refine V_mono ((((h.2 c125).1 c124).2 c82).1 c81) (fun u55 m55 h55 => ?_) (fun _ _ h => h)
          refine And.intro (fun c67 => ?_) (fun c67 => ?_)
          · refine VL_norm km253 k253_1 (VL_at (al := []) (st := []) km253 k253_1 ?_)
            exact (h55.1 c67)
          · refine VL_norm km253 k253_2 (VL_at (al := [(0, vR 11 (283)), (1, vI v1), (2, vI v2)]) (st := []) km253 k253_2 ?_)
            refine And.intro (fun c66 => ?_) (fun c66 => ?_)
            · refine VL_norm km253 k253_3 (VL_at (al := [(0, vR 11 (283)), (1, vI v1)]) (st := []) km253 k253_3 ?_)
              refine V_mono ((h55.2 c67).1 c66) (fun u56 m56 h56 => ?_) (fun _ _ h => h)
              refine V_mono h56 (fun u57 m57 h57 => ?_) (fun _ _ h => h)
              exact h57
            · refine And.intro (fun c65 => ?_) (fun c65 => ?_)
              · refine VL_norm km253 k253_4 (VL_at (al := [(0, vR 11 (283)), (1, vI v1)]) (st := []) km253 k253_4 ?_)
                refine V_mono (((h55.2 c67).2 c66).1 c65) (fun u58 m58 h58 => ?_) (fun _ _ h => h)
                exact h58
              · refine And.intro (fun c64 => ?_) (fun c64 => ?_)
                · refine VL_norm km253 k253_5 (VL_at (al := [(0, vR 11 (283)), (1, vI v1)]) (st := []) km253 k253_5 ?_)
                  refine V_mono ((((h55.2 c67).2 c66).2 c65).1 c64) (fun u59 m59 h59 => ?_) (fun _ _ h => h)
                  exact h59
                · refine And.intro (fun c63 => ?_) (fun c63 => ?_)
                  · refine VL_norm km253 k253_6 (VL_at (al := [(0, vR 11 (283)), (1, vI v1)]) (st := []) km253 k253_6 ?_)
                    refine V_mono (((((h55.2 c67).2 c66).2 c65).2 c64).1 c63) (fun u60 m60 h60 => ?_) (fun _ _ h => h)
                    exact h60
                  · refine And.intro (fun c62 => ?_) (fun c62 => ?_)
                    · refine VL_norm km253 k253_7 (VL_at (al := [(0, vR 11 (283)), (1, vI v1)]) (st := []) km253 k253_7 ?_)
                      refine V_mono ((((((h55.2 c67).2 c66).2 c65).2 c64).2 c63).1 c62) (fun u61 m61 h61 => ?_) (fun _ _ h => h)
                      exact h61
                    · refine VL_norm km253 k253_8 (VL_at (al := [(0, vR 11 (283)), (1, vI v1), (2, vI v2)]) (st := []) km253 k253_8 ?_)
                      refine V_of ?_
                      refine VL_norm km204 k204_0 (VL_at (al := [(0, vR 11 (283)), (1, vI v1), (2, vI v2)]) (st := []) km204 k204_0 ?_)
                      refine And.intro ((((((h55.2 c67).2 c66).2 c65).2 c64).2 c63).2 c62).1 ?_
                      exact ((((((h55.2 c67).2 c66).2 c65).2 c64).2 c63).2 c62).2
        · refine VL_norm km175 k175_2 (VL_at (al := []) (st := []) km175 k175_2 ?_)
          refine VL_norm km175 k175_4 (VL_at (al := []) (st := [vI (n32 1)]) km175 k175_4 ?_)
          refine And.intro xrt21 ?_
          refine V_mono ((((h.2 c125).1 c124).2 c82).2 c81) (fun u68 m68 h68 => ?_) (fun _ _ h => h)
          refine And.intro (fun c80 => ?_) (fun c80 => ?_)
          · refine VL_norm km253 k253_1 (VL_at (al := []) (st := []) km253 k253_1 ?_)
            exact (h68.1 c80)
          · refine VL_norm km253 k253_2 (VL_at (al := [(0, vR 11 (283)), (1, vI v1), (2, vI v2)]) (st := []) km253 k253_2 ?_)
            refine And.intro (fun c79 => ?_) (fun c79 => ?_)
            · refine VL_norm km253 k253_3 (VL_at (al := [(0, vR 11 (283)), (1, vI v1)]) (st := []) km253 k253_3 ?_)
              refine V_mono ((h68.2 c80).1 c79) (fun u69 m69 h69 => ?_) (fun _ _ h => h)
              refine V_mono h69 (fun u70 m70 h70 => ?_) (fun _ _ h => h)
              exact h70
            · refine And.intro (fun c78 => ?_) (fun c78 => ?_)
              · refine VL_norm km253 k253_4 (VL_at (al := [(0, vR 11 (283)), (1, vI v1)]) (st := []) km253 k253_4 ?_)
                refine V_mono (((h68.2 c80).2 c79).1 c78) (fun u71 m71 h71 => ?_) (fun _ _ h => h)
                exact h71
              · refine And.intro (fun c77 => ?_) (fun c77 => ?_)
                · refine VL_norm km253 k253_5 (VL_at (al := [(0, vR 11 (283)), (1, vI v1)]) (st := []) km253 k253_5 ?_)
                  refine V_mono ((((h68.2 c80).2 c79).2 c78).1 c77) (fun u72 m72 h72 => ?_) (fun _ _ h => h)
                  exact h72
                · refine And.intro (fun c76 => ?_) (fun c76 => ?_)
                  · refine VL_norm km253 k253_6 (VL_at (al := [(0, vR 11 (283)), (1, vI v1)]) (st := []) km253 k253_6 ?_)
                    refine V_mono (((((h68.2 c80).2 c79).2 c78).2 c77).1 c76) (fun u73 m73 h73 => ?_) (fun _ _ h => h)
                    exact h73
                  · refine And.intro (fun c75 => ?_) (fun c75 => ?_)
                    · refine VL_norm km253 k253_7 (VL_at (al := [(0, vR 11 (283)), (1, vI v1)]) (st := []) km253 k253_7 ?_)
                      refine V_mono ((((((h68.2 c80).2 c79).2 c78).2 c77).2 c76).1 c75) (fun u74 m74 h74 => ?_) (fun _ _ h => h)
                      exact h74
                    · refine VL_norm km253 k253_8 (VL_at (al := [(0, vR 11 (283)), (1, vI v1), (2, vI v2)]) (st := []) km253 k253_8 ?_)
                      refine V_of ?_
                      refine VL_norm km204 k204_0 (VL_at (al := [(0, vR 11 (283)), (1, vI v1), (2, vI v2)]) (st := []) km204 k204_0 ?_)
                      refine And.intro ((((((h68.2 c80).2 c79).2 c78).2 c77).2 c76).2 c75).1 ?_
                      exact ((((((h68.2 c80).2 c79).2 c78).2 c77).2 c76).2 c75).2
    · refine VL_norm km175 k175_2 (VL_at (al := []) (st := []) km175 k175_2 ?_)
      refine VL_norm km175 k175_4 (VL_at (al := []) (st := [vI (n32 1)]) km175 k175_4 ?_)
      refine And.intro xrt21 ?_
      refine And.intro xrt21 ?_
      refine V_of ?_
      refine VL_norm km175 k175_0 (VL_at (al := [(0, vI v2), (1, vI (n32 0)), (2, vI (n32 8))]) (st := []) km175 k175_0 ?_)
      refine And.intro (fun c123 => ?_) (fun c123 => ?_)
      · refine VL_norm km175 k175_3 (VL_at (al := []) (st := []) km175 k175_3 ?_)
        refine VL_norm km175 k175_4 (VL_at (al := []) (st := [vI (n32 0)]) km175 k175_4 ?_)
        refine And.intro xrt20 ?_
        refine V_mono (((h.2 c125).2 c124).1 c123) (fun u83 m83 h83 => ?_) (fun _ _ h => h)
        refine And.intro (fun c95 => ?_) (fun c95 => ?_)
        · refine VL_norm km253 k253_1 (VL_at (al := []) (st := []) km253 k253_1 ?_)
          exact (h83.1 c95)
        · refine VL_norm km253 k253_2 (VL_at (al := [(0, vR 11 (283)), (1, vI v1), (2, vI v2)]) (st := []) km253 k253_2 ?_)
          refine And.intro (fun c94 => ?_) (fun c94 => ?_)
          · refine VL_norm km253 k253_3 (VL_at (al := [(0, vR 11 (283)), (1, vI v1)]) (st := []) km253 k253_3 ?_)
            refine V_mono ((h83.2 c95).1 c94) (fun u84 m84 h84 => ?_) (fun _ _ h => h)
            refine V_mono h84 (fun u85 m85 h85 => ?_) (fun _ _ h => h)
            exact h85
          · refine And.intro (fun c93 => ?_) (fun c93 => ?_)
            · refine VL_norm km253 k253_4 (VL_at (al := [(0, vR 11 (283)), (1, vI v1)]) (st := []) km253 k253_4 ?_)
              refine V_mono (((h83.2 c95).2 c94).1 c93) (fun u86 m86 h86 => ?_) (fun _ _ h => h)
              exact h86
            · refine And.intro (fun c92 => ?_) (fun c92 => ?_)
              · refine VL_norm km253 k253_5 (VL_at (al := [(0, vR 11 (283)), (1, vI v1)]) (st := []) km253 k253_5 ?_)
                refine V_mono ((((h83.2 c95).2 c94).2 c93).1 c92) (fun u87 m87 h87 => ?_) (fun _ _ h => h)
                exact h87
              · refine And.intro (fun c91 => ?_) (fun c91 => ?_)
                · refine VL_norm km253 k253_6 (VL_at (al := [(0, vR 11 (283)), (1, vI v1)]) (st := []) km253 k253_6 ?_)
                  refine V_mono (((((h83.2 c95).2 c94).2 c93).2 c92).1 c91) (fun u88 m88 h88 => ?_) (fun _ _ h => h)
                  exact h88
                · refine And.intro (fun c90 => ?_) (fun c90 => ?_)
                  · refine VL_norm km253 k253_7 (VL_at (al := [(0, vR 11 (283)), (1, vI v1)]) (st := []) km253 k253_7 ?_)
                    refine V_mono ((((((h83.2 c95).2 c94).2 c93).2 c92).2 c91).1 c90) (fun u89 m89 h89 => ?_) (fun _ _ h => h)
                    exact h89
                  · refine VL_norm km253 k253_8 (VL_at (al := [(0, vR 11 (283)), (1, vI v1), (2, vI v2)]) (st := []) km253 k253_8 ?_)
                    refine V_of ?_
                    refine VL_norm km204 k204_0 (VL_at (al := [(0, vR 11 (283)), (1, vI v1), (2, vI v2)]) (st := []) km204 k204_0 ?_)
                    refine And.intro ((((((h83.2 c95).2 c94).2 c93).2 c92).2 c91).2 c90).1 ?_
                    exact ((((((h83.2 c95).2 c94).2 c93).2 c92).2 c91).2 c90).2
      · refine VL_norm km175 k175_1 (VL_at (al := [(0, vI v2), (2, vI (n32 8))]) (st := []) km175 k175_1 ?_)
        refine And.intro (fun c122 => ?_) (fun c122 => ?_)
        · refine VL_norm km175 k175_3 (VL_at (al := []) (st := []) km175 k175_3 ?_)
          refine VL_norm km175 k175_4 (VL_at (al := []) (st := [vI (n32 0)]) km175 k175_4 ?_)
          refine And.intro xrt20 ?_
          refine V_mono ((((h.2 c125).2 c124).2 c123).1 c122) (fun u96 m96 h96 => ?_) (fun _ _ h => h)
          refine And.intro (fun c108 => ?_) (fun c108 => ?_)
          · refine VL_norm km253 k253_1 (VL_at (al := []) (st := []) km253 k253_1 ?_)
            exact (h96.1 c108)
          · refine VL_norm km253 k253_2 (VL_at (al := [(0, vR 11 (283)), (1, vI v1), (2, vI v2)]) (st := []) km253 k253_2 ?_)
            refine And.intro (fun c107 => ?_) (fun c107 => ?_)
            · refine VL_norm km253 k253_3 (VL_at (al := [(0, vR 11 (283)), (1, vI v1)]) (st := []) km253 k253_3 ?_)
              refine V_mono ((h96.2 c108).1 c107) (fun u97 m97 h97 => ?_) (fun _ _ h => h)
              refine V_mono h97 (fun u98 m98 h98 => ?_) (fun _ _ h => h)
              exact h98
            · refine And.intro (fun c106 => ?_) (fun c106 => ?_)
              · refine VL_norm km253 k253_4 (VL_at (al := [(0, vR 11 (283)), (1, vI v1)]) (st := []) km253 k253_4 ?_)
                refine V_mono (((h96.2 c108).2 c107).1 c106) (fun u99 m99 h99 => ?_) (fun _ _ h => h)
                exact h99
              · refine And.intro (fun c105 => ?_) (fun c105 => ?_)
                · refine VL_norm km253 k253_5 (VL_at (al := [(0, vR 11 (283)), (1, vI v1)]) (st := []) km253 k253_5 ?_)
                  refine V_mono ((((h96.2 c108).2 c107).2 c106).1 c105) (fun u100 m100 h100 => ?_) (fun _ _ h => h)
                  exact h100
                · refine And.intro (fun c104 => ?_) (fun c104 => ?_)
                  · refine VL_norm km253 k253_6 (VL_at (al := [(0, vR 11 (283)), (1, vI v1)]) (st := []) km253 k253_6 ?_)
                    refine V_mono (((((h96.2 c108).2 c107).2 c106).2 c105).1 c104) (fun u101 m101 h101 => ?_) (fun _ _ h => h)
                    exact h101
                  · refine And.intro (fun c103 => ?_) (fun c103 => ?_)
                    · refine VL_norm km253 k253_7 (VL_at (al := [(0, vR 11 (283)), (1, vI v1)]) (st := []) km253 k253_7 ?_)
                      refine V_mono ((((((h96.2 c108).2 c107).2 c106).2 c105).2 c104).1 c103) (fun u102 m102 h102 => ?_) (fun _ _ h => h)
                      exact h102
                    · refine VL_norm km253 k253_8 (VL_at (al := [(0, vR 11 (283)), (1, vI v1), (2, vI v2)]) (st := []) km253 k253_8 ?_)
                      refine V_of ?_
                      refine VL_norm km204 k204_0 (VL_at (al := [(0, vR 11 (283)), (1, vI v1), (2, vI v2)]) (st := []) km204 k204_0 ?_)
                      refine And.intro ((((((h96.2 c108).2 c107).2 c106).2 c105).2 c104).2 c103).1 ?_
                      exact ((((((h96.2 c108).2 c107).2 c106).2 c105).2 c104).2 c103).2
        · refine VL_norm km175 k175_2 (VL_at (al := []) (st := []) km175 k175_2 ?_)
          refine VL_norm km175 k175_4 (VL_at (al := []) (st := [vI (n32 1)]) km175 k175_4 ?_)
          refine And.intro xrt21 ?_
          refine V_mono ((((h.2 c125).2 c124).2 c123).2 c122) (fun u109 m109 h109 => ?_) (fun _ _ h => h)
          refine And.intro (fun c121 => ?_) (fun c121 => ?_)
          · refine VL_norm km253 k253_1 (VL_at (al := []) (st := []) km253 k253_1 ?_)
            exact (h109.1 c121)
          · refine VL_norm km253 k253_2 (VL_at (al := [(0, vR 11 (283)), (1, vI v1), (2, vI v2)]) (st := []) km253 k253_2 ?_)
            refine And.intro (fun c120 => ?_) (fun c120 => ?_)
            · refine VL_norm km253 k253_3 (VL_at (al := [(0, vR 11 (283)), (1, vI v1)]) (st := []) km253 k253_3 ?_)
              refine V_mono ((h109.2 c121).1 c120) (fun u110 m110 h110 => ?_) (fun _ _ h => h)
              refine V_mono h110 (fun u111 m111 h111 => ?_) (fun _ _ h => h)
              exact h111
            · refine And.intro (fun c119 => ?_) (fun c119 => ?_)
              · refine VL_norm km253 k253_4 (VL_at (al := [(0, vR 11 (283)), (1, vI v1)]) (st := []) km253 k253_4 ?_)
                refine V_mono (((h109.2 c121).2 c120).1 c119) (fun u112 m112 h112 => ?_) (fun _ _ h => h)
                exact h112
              · refine And.intro (fun c118 => ?_) (fun c118 => ?_)
                · refine VL_norm km253 k253_5 (VL_at (al := [(0, vR 11 (283)), (1, vI v1)]) (st := []) km253 k253_5 ?_)
                  refine V_mono ((((h109.2 c121).2 c120).2 c119).1 c118) (fun u113 m113 h113 => ?_) (fun _ _ h => h)
                  exact h113
                · refine And.intro (fun c117 => ?_) (fun c117 => ?_)
                  · refine VL_norm km253 k253_6 (VL_at (al := [(0, vR 11 (283)), (1, vI v1)]) (st := []) km253 k253_6 ?_)
                    refine V_mono (((((h109.2 c121).2 c120).2 c119).2 c118).1 c117) (fun u114 m114 h114 => ?_) (fun _ _ h => h)
                    exact h114
                  · refine And.intro (fun c116 => ?_) (fun c116 => ?_)
                    · refine VL_norm km253 k253_7 (VL_at (al := [(0, vR 11 (283)), (1, vI v1)]) (st := []) km253 k253_7 ?_)
                      refine V_mono ((((((h109.2 c121).2 c120).2 c119).2 c118).2 c117).1 c116) (fun u115 m115 h115 => ?_) (fun _ _ h => h)
                      exact h115
                    · refine VL_norm km253 k253_8 (VL_at (al := [(0, vR 11 (283)), (1, vI v1), (2, vI v2)]) (st := []) km253 k253_8 ?_)
                      refine V_of ?_
                      refine VL_norm km204 k204_0 (VL_at (al := [(0, vR 11 (283)), (1, vI v1), (2, vI v2)]) (st := []) km204 k204_0 ?_)
                      refine And.intro ((((((h109.2 c121).2 c120).2 c119).2 c118).2 c117).2 c116).1 ?_
                      exact ((((((h109.2 c121).2 c120).2 c119).2 c118).2 c117).2 c116).2
