/-! Verification conditions (written by program: wip/whole/mkw.py). -/
/-- BannerParadeModel.placeIn, label 0 -/
theorem w292_0 {D : Nat} {v1 : Int32} {v2 : Int32} {m : XM} {Q : Int32 → XM → Prop} {E : Nat → XM → Prop}
    (h : VI (D + 7) 291 [vR 11 (283), vI v1, vI v2, vI (n32 1)] m (fun x1 m1 => Q x1 m1) E) :
    VI (D + 8) 292 [vR 11 (283), vI v1, vI v2] m Q E := by
  refine V_of (VL_at (al := [(0, vR 11 (283)), (1, vI v1), (2, vI v2)]) (st := []) km292 k292_0 ?_)
  refine V_mono h (fun u1 m1 h1 => ?_) (fun _ _ h => h)
  exact h1
/-- BannerParadeModel.strengthIn, label 0 -/
theorem w293_0 {D : Nat} {v1 : Int32} {v2 : Int32} {m : XM} {Q : Int32 → XM → Prop} {E : Nat → XM → Prop}
    (h : VI (D + 7) 291 [vR 11 (283), vI v1, vI v2, vI (n32 4)] m (fun x1 m1 => Q x1 m1) E) :
    VI (D + 8) 293 [vR 11 (283), vI v1, vI v2] m Q E := by
  refine V_of (VL_at (al := [(0, vR 11 (283)), (1, vI v1), (2, vI v2)]) (st := []) km293 k293_0 ?_)
  refine V_mono h (fun u1 m1 h1 => ?_) (fun _ _ h => h)
  exact h1
/-- BannerParadeModel.bannerIn, label 0 -/
theorem w294_0 {D : Nat} {v1 : Int32} {v2 : Int32} {m : XM} {Q : Int32 → XM → Prop} {E : Nat → XM → Prop}
    (h : VI (D + 7) 291 [vR 11 (283), vI v1, vI v2, vI (n32 0)] m (fun x1 m1 => Q x1 m1) E) :
    VI (D + 8) 294 [vR 11 (283), vI v1, vI v2] m Q E := by
  refine V_of (VL_at (al := [(0, vR 11 (283)), (1, vI v1), (2, vI v2)]) (st := []) km294 k294_0 ?_)
  refine V_mono h (fun u1 m1 h1 => ?_) (fun _ _ h => h)
  exact h1
/-- BannerParadeModel.dropsIn, label 0 -/
theorem w295_0 {D : Nat} {v1 : Int32} {m : XM} {Q : Int32 → XM → Prop} {E : Nat → XM → Prop}
    (h : ((v1 < (n32 0) → VI (D + 6) 177 [vR 11 (283), vI (m 283 6), vI (n32 0)] m (fun x1 m1 => ((x1 = (n32 0) → Q (n32 0) m1) ∧ (¬ x1 = (n32 0) → VU (D + 6) 284 [vR 11 (283)] m1 (fun m2 => VU (D + 6) 229 [vR 11 (283), vI v1] m2 (fun m3 => VI (D + 6) 285 [vR 11 (283), vI ((m3 284 (ix (n32 13))) - (m3 285 (ix (n32 13))))] m3 (fun x4 m4 => Q x4 m4) E) E) E))) E) ∧ (¬ v1 < (n32 0) → (((n32 300) < v1 → VI (D + 6) 177 [vR 11 (283), vI (m 283 6), vI (n32 0)] m (fun x6 m6 => ((x6 = (n32 0) → Q (n32 0) m6) ∧ (¬ x6 = (n32 0) → VU (D + 6) 284 [vR 11 (283)] m6 (fun m7 => VU (D + 6) 229 [vR 11 (283), vI v1] m7 (fun m8 => VI (D + 6) 285 [vR 11 (283), vI ((m8 284 (ix (n32 13))) - (m8 285 (ix (n32 13))))] m8 (fun x9 m9 => Q x9 m9) E) E) E))) E) ∧ (¬ (n32 300) < v1 → VI (D + 6) 177 [vR 11 (283), vI (m 283 6), vI (n32 1)] m (fun x11 m11 => ((x11 = (n32 0) → Q (n32 0) m11) ∧ (¬ x11 = (n32 0) → VU (D + 6) 284 [vR 11 (283)] m11 (fun m12 => VU (D + 6) 229 [vR 11 (283), vI v1] m12 (fun m13 => VI (D + 6) 285 [vR 11 (283), vI ((m13 284 (ix (n32 13))) - (m13 285 (ix (n32 13))))] m13 (fun x14 m14 => Q x14 m14) E) E) E))) E))))) :
    VI (D + 7) 295 [vR 11 (283), vI v1] m Q E := by
  refine V_of (VL_at (al := [(0, vR 11 (283)), (1, vI v1)]) (st := []) km295 k295_0 ?_)
  refine V_of ?_
  refine VL_norm km290 k290_0 (VL_at (al := [(0, vI v1)]) (st := []) km290 k290_0 ?_)
  refine V_of ?_
  refine VL_norm km175 k175_0 (VL_at (al := [(0, vI v1), (1, vI (n32 0)), (2, vI (n32 300))]) (st := []) km175 k175_0 ?_)
  refine And.intro (fun c17 => ?_) (fun c17 => ?_)
  · refine VL_norm km175 k175_3 (VL_at (al := []) (st := []) km175 k175_3 ?_)
    refine VL_norm km175 k175_4 (VL_at (al := []) (st := [vI (n32 0)]) km175 k175_4 ?_)
    refine And.intro xrt20 ?_
    refine And.intro xrt20 ?_
    refine V_mono (h.1 c17) (fun u1 m1 h1 => ?_) (fun _ _ h => h)
    refine And.intro (fun c5 => ?_) (fun c5 => ?_)
    · refine VL_norm km295 k295_1 (VL_at (al := []) (st := []) km295 k295_1 ?_)
      exact (h1.1 c5)
    · refine VL_norm km295 k295_2 (VL_at (al := [(0, vR 11 (283)), (1, vI v1)]) (st := []) km295 k295_2 ?_)
      refine V_mono (h1.2 c5) (fun u2 m2 h2 => ?_) (fun _ _ h => h)
      refine V_mono h2 (fun u3 m3 h3 => ?_) (fun _ _ h => h)
      refine And.intro (xin_k rfl) ?_
      refine And.intro (xin_k rfl) ?_
      refine V_mono h3 (fun u4 m4 h4 => ?_) (fun _ _ h => h)
      exact h4
  · refine VL_norm km175 k175_1 (VL_at (al := [(0, vI v1), (2, vI (n32 300))]) (st := []) km175 k175_1 ?_)
    refine And.intro (fun c16 => ?_) (fun c16 => ?_)
    · refine VL_norm km175 k175_3 (VL_at (al := []) (st := []) km175 k175_3 ?_)
      refine VL_norm km175 k175_4 (VL_at (al := []) (st := [vI (n32 0)]) km175 k175_4 ?_)
      refine And.intro xrt20 ?_
      refine And.intro xrt20 ?_
      refine V_mono ((h.2 c17).1 c16) (fun u6 m6 h6 => ?_) (fun _ _ h => h)
      refine And.intro (fun c10 => ?_) (fun c10 => ?_)
      · refine VL_norm km295 k295_1 (VL_at (al := []) (st := []) km295 k295_1 ?_)
        exact (h6.1 c10)
      · refine VL_norm km295 k295_2 (VL_at (al := [(0, vR 11 (283)), (1, vI v1)]) (st := []) km295 k295_2 ?_)
        refine V_mono (h6.2 c10) (fun u7 m7 h7 => ?_) (fun _ _ h => h)
        refine V_mono h7 (fun u8 m8 h8 => ?_) (fun _ _ h => h)
        refine And.intro (xin_k rfl) ?_
        refine And.intro (xin_k rfl) ?_
        refine V_mono h8 (fun u9 m9 h9 => ?_) (fun _ _ h => h)
        exact h9
    · refine VL_norm km175 k175_2 (VL_at (al := []) (st := []) km175 k175_2 ?_)
      refine VL_norm km175 k175_4 (VL_at (al := []) (st := [vI (n32 1)]) km175 k175_4 ?_)
      refine And.intro xrt21 ?_
      refine And.intro xrt21 ?_
      refine V_mono ((h.2 c17).2 c16) (fun u11 m11 h11 => ?_) (fun _ _ h => h)
      refine And.intro (fun c15 => ?_) (fun c15 => ?_)
      · refine VL_norm km295 k295_1 (VL_at (al := []) (st := []) km295 k295_1 ?_)
        exact (h11.1 c15)
      · refine VL_norm km295 k295_2 (VL_at (al := [(0, vR 11 (283)), (1, vI v1)]) (st := []) km295 k295_2 ?_)
        refine V_mono (h11.2 c15) (fun u12 m12 h12 => ?_) (fun _ _ h => h)
        refine V_mono h12 (fun u13 m13 h13 => ?_) (fun _ _ h => h)
        refine And.intro (xin_k rfl) ?_
        refine And.intro (xin_k rfl) ?_
        refine V_mono h13 (fun u14 m14 h14 => ?_) (fun _ _ h => h)
        exact h14
/-- BannerParadeModel.firstDrop, label 0 -/
theorem w296_0 {D : Nat}  {m : XM} {Q : Int32 → XM → Prop} {E : Nat → XM → Prop}
    (h : VI (D + 5) 275 [vR 11 (283)] m (fun x1 m1 => ((x1 = (n32 0) → Q (n32 0) m1) ∧ (¬ x1 = (n32 0) → VU (D + 5) 284 [vR 11 (283)] m1 (fun m2 => VLI (D + 6) 296 3 [(0, vR 11 (283)), (1, vI (n32 1))] [] m2 Q E) E))) E) :
    VI (D + 6) 296 [vR 11 (283)] m Q E := by
  refine V_of (VL_at (al := [(0, vR 11 (283))]) (st := []) km296 k296_0 ?_)
  refine V_mono h (fun u1 m1 h1 => ?_) (fun _ _ h => h)
  refine And.intro (fun c3 => ?_) (fun c3 => ?_)
  · refine VL_norm km296 k296_1 (VL_at (al := []) (st := []) km296 k296_1 ?_)
    exact (h1.1 c3)
  · refine VL_norm km296 k296_2 (VL_at (al := [(0, vR 11 (283))]) (st := []) km296 k296_2 ?_)
    refine V_mono (h1.2 c3) (fun u2 m2 h2 => ?_) (fun _ _ h => h)
    exact VL_norm km296 k296_3 h2
/-- BannerParadeModel.firstDrop, label 3 -/
theorem w296_3 {D : Nat} {v1 : Int32} {m : XM} {Q : Int32 → XM → Prop} {E : Nat → XM → Prop}
    (h : (((n32 300) < v1 → VI (D + 5) 285 [vR 11 (283), vI (-(n32 1))] m (fun x1 m1 => Q x1 m1) E) ∧ (¬ (n32 300) < v1 → VU (D + 5) 228 [vR 11 (283)] m (fun m2 => (((m2 284 (ix (n32 13))) ≤ (m2 285 (ix (n32 13))) → VLI (D + 6) 296 3 [(0, vR 11 (283)), (1, vI (v1 + (n32 1)))] [] m2 Q E) ∧ (¬ (m2 284 (ix (n32 13))) ≤ (m2 285 (ix (n32 13))) → VI (D + 5) 285 [vR 11 (283), vI v1] m2 (fun x3 m3 => Q x3 m3) E))) E))) :
    VLI (D + 6) 296 3 [(0, vR 11 (283)), (1, vI v1)] [] m Q E := by
  refine VL_at (al := [(0, vR 11 (283)), (1, vI v1)]) (st := []) km296 k296_3 ?_
  refine And.intro (fun c5 => ?_) (fun c5 => ?_)
  · refine VL_norm km296 k296_7 (VL_at (al := [(0, vR 11 (283))]) (st := []) km296 k296_7 ?_)
    refine V_mono (h.1 c5) (fun u1 m1 h1 => ?_) (fun _ _ h => h)
    exact h1
  · refine VL_norm km296 k296_4 (VL_at (al := [(0, vR 11 (283)), (1, vI v1)]) (st := []) km296 k296_4 ?_)
    refine V_mono (h.2 c5) (fun u2 m2 h2 => ?_) (fun _ _ h => h)
    refine And.intro (xin_k rfl) ?_
    refine And.intro (xin_k rfl) ?_
    refine And.intro (fun c4 => ?_) (fun c4 => ?_)
    · refine VL_norm km296 k296_6 (VL_at (al := [(0, vR 11 (283)), (1, vI v1)]) (st := []) km296 k296_6 ?_)
      exact VL_norm km296 k296_3 (h2.1 c4)
    · refine VL_norm km296 k296_5 (VL_at (al := [(0, vR 11 (283)), (1, vI v1)]) (st := []) km296 k296_5 ?_)
      refine V_mono (h2.2 c4) (fun u3 m3 h3 => ?_) (fun _ _ h => h)
      exact h3
/-- BannerParadeModel.mayStandIn, label 0 -/
theorem w297_0 {D : Nat} {v1 : Int32} {v2 : Int32} {m : XM} {Q : Int32 → XM → Prop} {E : Nat → XM → Prop}
    (h : ((v1 < (n32 0) → ((v2 < (n32 0) → VI (D + 1) 176 [vR 11 (283), vI (m 283 6), vI (n32 0), vI (n32 0)] m (fun x1 m1 => (xrt 2 x1 = true ∧ Q x1 m1)) E) ∧ (¬ v2 < (n32 0) → (((n32 300) < v2 → VI (D + 1) 176 [vR 11 (283), vI (m 283 6), vI (n32 0), vI (n32 0)] m (fun x2 m2 => (xrt 2 x2 = true ∧ Q x2 m2)) E) ∧ (¬ (n32 300) < v2 → VI (D + 1) 176 [vR 11 (283), vI (m 283 6), vI (n32 0), vI (n32 1)] m (fun x3 m3 => (xrt 2 x3 = true ∧ Q x3 m3)) E))))) ∧ (¬ v1 < (n32 0) → ((((m 284 (ix (n32 7))) - (n32 1)) < v1 → ((v2 < (n32 0) → VI (D + 1) 176 [vR 11 (283), vI (m 283 6), vI (n32 0), vI (n32 0)] m (fun x6 m6 => (xrt 2 x6 = true ∧ Q x6 m6)) E) ∧ (¬ v2 < (n32 0) → (((n32 300) < v2 → VI (D + 1) 176 [vR 11 (283), vI (m 283 6), vI (n32 0), vI (n32 0)] m (fun x7 m7 => (xrt 2 x7 = true ∧ Q x7 m7)) E) ∧ (¬ (n32 300) < v2 → VI (D + 1) 176 [vR 11 (283), vI (m 283 6), vI (n32 0), vI (n32 1)] m (fun x8 m8 => (xrt 2 x8 = true ∧ Q x8 m8)) E))))) ∧ (¬ ((m 284 (ix (n32 7))) - (n32 1)) < v1 → ((v2 < (n32 0) → VI (D + 1) 176 [vR 11 (283), vI (m 283 6), vI (n32 1), vI (n32 0)] m (fun x11 m11 => (xrt 2 x11 = true ∧ Q x11 m11)) E) ∧ (¬ v2 < (n32 0) → (((n32 300) < v2 → VI (D + 1) 176 [vR 11 (283), vI (m 283 6), vI (n32 1), vI (n32 0)] m (fun x12 m12 => (xrt 2 x12 = true ∧ Q x12 m12)) E) ∧ (¬ (n32 300) < v2 → VI (D + 1) 176 [vR 11 (283), vI (m 283 6), vI (n32 1), vI (n32 1)] m (fun x13 m13 => (xrt 2 x13 = true ∧ Q x13 m13)) E))))))))) :
    VI (D + 2) 297 [vR 11 (283), vI v1, vI v2] m Q E := by
  refine V_of (VL_at (al := [(0, vR 11 (283)), (1, vI v1), (2, vI v2)]) (st := []) km297 k297_0 ?_)
  refine V_of ?_
  refine VL_norm km209 k209_0 (VL_at (al := [(0, vR 11 (283)), (1, vI v1)]) (st := []) km209 k209_0 ?_)
  refine And.intro (xin_k rfl) ?_
  refine V_of ?_
  refine VL_norm km175 k175_0 (VL_at (al := [(0, vI v1), (1, vI (n32 0)), (2, vI ((m 284 (ix (n32 7))) - (n32 1)))]) (st := []) km175 k175_0 ?_)
  refine And.intro (fun c17 => ?_) (fun c17 => ?_)
  · refine VL_norm km175 k175_3 (VL_at (al := []) (st := []) km175 k175_3 ?_)
    refine VL_norm km175 k175_4 (VL_at (al := []) (st := [vI (n32 0)]) km175 k175_4 ?_)
    refine And.intro xrt20 ?_
    refine And.intro xrt20 ?_
    refine V_of ?_
    refine VL_norm km290 k290_0 (VL_at (al := [(0, vI v2)]) (st := []) km290 k290_0 ?_)
    refine V_of ?_
    refine VL_norm km175 k175_0 (VL_at (al := [(0, vI v2), (1, vI (n32 0)), (2, vI (n32 300))]) (st := []) km175 k175_0 ?_)
    refine And.intro (fun c5 => ?_) (fun c5 => ?_)
    · refine VL_norm km175 k175_3 (VL_at (al := []) (st := []) km175 k175_3 ?_)
      refine VL_norm km175 k175_4 (VL_at (al := []) (st := [vI (n32 0)]) km175 k175_4 ?_)
      refine And.intro xrt20 ?_
      refine And.intro xrt20 ?_
      refine V_mono ((h.1 c17).1 c5) (fun u1 m1 h1 => ?_) (fun _ _ h => h)
      refine And.intro h1.1 ?_
      exact h1.2
    · refine VL_norm km175 k175_1 (VL_at (al := [(0, vI v2), (2, vI (n32 300))]) (st := []) km175 k175_1 ?_)
      refine And.intro (fun c4 => ?_) (fun c4 => ?_)
      · refine VL_norm km175 k175_3 (VL_at (al := []) (st := []) km175 k175_3 ?_)
        refine VL_norm km175 k175_4 (VL_at (al := []) (st := [vI (n32 0)]) km175 k175_4 ?_)
        refine And.intro xrt20 ?_
        refine And.intro xrt20 ?_
        refine V_mono (((h.1 c17).2 c5).1 c4) (fun u2 m2 h2 => ?_) (fun _ _ h => h)
        refine And.intro h2.1 ?_
        exact h2.2
      · refine VL_norm km175 k175_2 (VL_at (al := []) (st := []) km175 k175_2 ?_)
        refine VL_norm km175 k175_4 (VL_at (al := []) (st := [vI (n32 1)]) km175 k175_4 ?_)
        refine And.intro xrt21 ?_
        refine And.intro xrt21 ?_
        refine V_mono (((h.1 c17).2 c5).2 c4) (fun u3 m3 h3 => ?_) (fun _ _ h => h)
        refine And.intro h3.1 ?_
        exact h3.2
  · refine VL_norm km175 k175_1 (VL_at (al := [(0, vI v1), (2, vI ((m 284 (ix (n32 7))) - (n32 1)))]) (st := []) km175 k175_1 ?_)
    refine And.intro (fun c16 => ?_) (fun c16 => ?_)
    · refine VL_norm km175 k175_3 (VL_at (al := []) (st := []) km175 k175_3 ?_)
      refine VL_norm km175 k175_4 (VL_at (al := []) (st := [vI (n32 0)]) km175 k175_4 ?_)
      refine And.intro xrt20 ?_
      refine And.intro xrt20 ?_
      refine V_of ?_
      refine VL_norm km290 k290_0 (VL_at (al := [(0, vI v2)]) (st := []) km290 k290_0 ?_)
      refine V_of ?_
      refine VL_norm km175 k175_0 (VL_at (al := [(0, vI v2), (1, vI (n32 0)), (2, vI (n32 300))]) (st := []) km175 k175_0 ?_)
      refine And.intro (fun c10 => ?_) (fun c10 => ?_)
      · refine VL_norm km175 k175_3 (VL_at (al := []) (st := []) km175 k175_3 ?_)
        refine VL_norm km175 k175_4 (VL_at (al := []) (st := [vI (n32 0)]) km175 k175_4 ?_)
        refine And.intro xrt20 ?_
        refine And.intro xrt20 ?_
        refine V_mono (((h.2 c17).1 c16).1 c10) (fun u6 m6 h6 => ?_) (fun _ _ h => h)
        refine And.intro h6.1 ?_
        exact h6.2
      · refine VL_norm km175 k175_1 (VL_at (al := [(0, vI v2), (2, vI (n32 300))]) (st := []) km175 k175_1 ?_)
        refine And.intro (fun c9 => ?_) (fun c9 => ?_)
        · refine VL_norm km175 k175_3 (VL_at (al := []) (st := []) km175 k175_3 ?_)
          refine VL_norm km175 k175_4 (VL_at (al := []) (st := [vI (n32 0)]) km175 k175_4 ?_)
          refine And.intro xrt20 ?_
          refine And.intro xrt20 ?_
          refine V_mono ((((h.2 c17).1 c16).2 c10).1 c9) (fun u7 m7 h7 => ?_) (fun _ _ h => h)
          refine And.intro h7.1 ?_
          exact h7.2
        · refine VL_norm km175 k175_2 (VL_at (al := []) (st := []) km175 k175_2 ?_)
          refine VL_norm km175 k175_4 (VL_at (al := []) (st := [vI (n32 1)]) km175 k175_4 ?_)
          refine And.intro xrt21 ?_
          refine And.intro xrt21 ?_
          refine V_mono ((((h.2 c17).1 c16).2 c10).2 c9) (fun u8 m8 h8 => ?_) (fun _ _ h => h)
          refine And.intro h8.1 ?_
          exact h8.2
    · refine VL_norm km175 k175_2 (VL_at (al := []) (st := []) km175 k175_2 ?_)
      refine VL_norm km175 k175_4 (VL_at (al := []) (st := [vI (n32 1)]) km175 k175_4 ?_)
      refine And.intro xrt21 ?_
      refine And.intro xrt21 ?_
      refine V_of ?_
      refine VL_norm km290 k290_0 (VL_at (al := [(0, vI v2)]) (st := []) km290 k290_0 ?_)
      refine V_of ?_
      refine VL_norm km175 k175_0 (VL_at (al := [(0, vI v2), (1, vI (n32 0)), (2, vI (n32 300))]) (st := []) km175 k175_0 ?_)
      refine And.intro (fun c15 => ?_) (fun c15 => ?_)
      · refine VL_norm km175 k175_3 (VL_at (al := []) (st := []) km175 k175_3 ?_)
        refine VL_norm km175 k175_4 (VL_at (al := []) (st := [vI (n32 0)]) km175 k175_4 ?_)
        refine And.intro xrt20 ?_
        refine And.intro xrt20 ?_
        refine V_mono (((h.2 c17).2 c16).1 c15) (fun u11 m11 h11 => ?_) (fun _ _ h => h)
        refine And.intro h11.1 ?_
        exact h11.2
      · refine VL_norm km175 k175_1 (VL_at (al := [(0, vI v2), (2, vI (n32 300))]) (st := []) km175 k175_1 ?_)
        refine And.intro (fun c14 => ?_) (fun c14 => ?_)
        · refine VL_norm km175 k175_3 (VL_at (al := []) (st := []) km175 k175_3 ?_)
          refine VL_norm km175 k175_4 (VL_at (al := []) (st := [vI (n32 0)]) km175 k175_4 ?_)
          refine And.intro xrt20 ?_
          refine And.intro xrt20 ?_
          refine V_mono ((((h.2 c17).2 c16).2 c15).1 c14) (fun u12 m12 h12 => ?_) (fun _ _ h => h)
          refine And.intro h12.1 ?_
          exact h12.2
        · refine VL_norm km175 k175_2 (VL_at (al := []) (st := []) km175 k175_2 ?_)
          refine VL_norm km175 k175_4 (VL_at (al := []) (st := [vI (n32 1)]) km175 k175_4 ?_)
          refine And.intro xrt21 ?_
          refine And.intro xrt21 ?_
          refine V_mono ((((h.2 c17).2 c16).2 c15).2 c14) (fun u13 m13 h13 => ?_) (fun _ _ h => h)
          refine And.intro h13.1 ?_
          exact h13.2
/-- BannerParadeModel.shareIn, label 0 -/
theorem w298_0 {D : Nat} {v1 : Int32} {v2 : Int32} {m : XM} {Q : UInt32 → XM → Prop} {E : Nat → XM → Prop}
    (h : VI (D + 6) 297 [vR 11 (283), vI v1, vI v2] m (fun x1 m1 => ((x1 = (n32 0) → Q FP.fconst0 m1) ∧ (¬ x1 = (n32 0) → VU (D + 6) 284 [vR 11 (283)] m1 (fun m2 => VU (D + 6) 229 [vR 11 (283), vI v2] m2 (fun m3 => VF (D + 6) 224 [vR 11 (283), vI v1] m3 (fun x4 m4 => VF (D + 6) 286 [vR 11 (283), vF x4] m4 (fun x5 m5 => Q x5 m5) E) E) E) E))) E) :
    VF (D + 7) 298 [vR 11 (283), vI v1, vI v2] m Q E := by
  refine V_of (VL_at (al := [(0, vR 11 (283)), (1, vI v1), (2, vI v2)]) (st := []) km298 k298_0 ?_)
  refine V_mono h (fun u1 m1 h1 => ?_) (fun _ _ h => h)
  refine And.intro (fun c6 => ?_) (fun c6 => ?_)
  · refine VL_norm km298 k298_1 (VL_at (al := []) (st := []) km298 k298_1 ?_)
    exact (h1.1 c6)
  · refine VL_norm km298 k298_2 (VL_at (al := [(0, vR 11 (283)), (1, vI v1), (2, vI v2)]) (st := []) km298 k298_2 ?_)
    refine V_mono (h1.2 c6) (fun u2 m2 h2 => ?_) (fun _ _ h => h)
    refine V_mono h2 (fun u3 m3 h3 => ?_) (fun _ _ h => h)
    refine V_mono h3 (fun u4 m4 h4 => ?_) (fun _ _ h => h)
    refine V_mono h4 (fun u5 m5 h5 => ?_) (fun _ _ h => h)
    exact h5
/-- BannerParadeModel.bestShare, label 0 -/
theorem w299_0 {D : Nat} {v1 : Int32} {v2 : Int32} {m : XM} {Q : UInt32 → XM → Prop} {E : Nat → XM → Prop}
    (h : VI (D + 5) 297 [vR 11 (283), vI v1, vI v2] m (fun x1 m1 => ((x1 = (n32 0) → Q FP.fconst0 m1) ∧ (¬ x1 = (n32 0) → VU (D + 5) 284 [vR 11 (283)] m1 (fun m2 => VF (D + 5) 224 [vR 11 (283), vI v1] m2 (fun x3 m3 => VLF (D + 6) 299 3 [(0, vR 11 (283)), (1, vI v1), (2, vI v2), (3, vF x3), (4, vI (n32 0))] [] m3 Q E) E) E))) E) :
    VF (D + 6) 299 [vR 11 (283), vI v1, vI v2] m Q E := by
  refine V_of (VL_at (al := [(0, vR 11 (283)), (1, vI v1), (2, vI v2)]) (st := []) km299 k299_0 ?_)
  refine V_mono h (fun u1 m1 h1 => ?_) (fun _ _ h => h)
  refine And.intro (fun c4 => ?_) (fun c4 => ?_)
  · refine VL_norm km299 k299_1 (VL_at (al := []) (st := []) km299 k299_1 ?_)
    exact (h1.1 c4)
  · refine VL_norm km299 k299_2 (VL_at (al := [(0, vR 11 (283)), (1, vI v1), (2, vI v2)]) (st := []) km299 k299_2 ?_)
    refine V_mono (h1.2 c4) (fun u2 m2 h2 => ?_) (fun _ _ h => h)
    refine V_mono h2 (fun u3 m3 h3 => ?_) (fun _ _ h => h)
    exact VL_norm km299 k299_3 h3
/-- BannerParadeModel.bestShare, label 3 -/
theorem w299_3 {D : Nat} {v1 : Int32} {v2 : Int32} {v3 : UInt32} {v4 : Int32} {m : XM} {Q : UInt32 → XM → Prop} {E : Nat → XM → Prop}
    (h : ((v2 ≤ v4 → VF (D + 5) 286 [vR 11 (283), vF v3] m (fun x1 m1 => Q x1 m1) E) ∧ (¬ v2 ≤ v4 → VU (D + 5) 228 [vR 11 (283)] m (fun m2 => VF (D + 5) 224 [vR 11 (283), vI v1] m2 (fun x3 m3 => ((FP.fIsNaN v3 = false ∧ FP.fIsNaN x3 = false) ∧ VLF (D + 6) 299 3 [(0, vR 11 (283)), (1, vI v1), (2, vI v2), (3, vF (Native.java_lang_Math.nans.pick32 true v3 x3)), (4, vI (v4 + (n32 1)))] [] m3 Q E)) E) E))) :
    VLF (D + 6) 299 3 [(0, vR 11 (283)), (1, vI v1), (2, vI v2), (3, vF v3), (4, vI v4)] [] m Q E := by
  refine VL_at (al := [(0, vR 11 (283)), (1, vI v1), (2, vI v2), (3, vF v3), (4, vI v4)]) (st := []) km299 k299_3 ?_
  refine And.intro (fun c4 => ?_) (fun c4 => ?_)
  · refine VL_norm km299 k299_5 (VL_at (al := [(0, vR 11 (283)), (3, vF v3)]) (st := []) km299 k299_5 ?_)
    refine V_mono (h.1 c4) (fun u1 m1 h1 => ?_) (fun _ _ h => h)
    exact h1
  · refine VL_norm km299 k299_4 (VL_at (al := [(0, vR 11 (283)), (1, vI v1), (2, vI v2), (3, vF v3), (4, vI v4)]) (st := []) km299 k299_4 ?_)
    refine V_mono (h.2 c4) (fun u2 m2 h2 => ?_) (fun _ _ h => h)
    refine V_mono h2 (fun u3 m3 h3 => ?_) (fun _ _ h => h)
    refine And.intro h3.1 ?_
    exact VL_norm km299 k299_3 h3.2
/-- BannerParadeModel.bestSwap, label 0 -/
theorem w300_0 {D : Nat} {v1 : Int32} {m : XM} {Q : Int32 → XM → Prop} {E : Nat → XM → Prop}
    (h : VI (D + 4) 242 [vR 11 (283), vI v1] m (fun x1 m1 => ((x1 = (n32 0) → Q (n32 0) m1) ∧ (¬ x1 = (n32 0) → VF (D + 4) 224 [vR 11 (283), vI v1] m1 (fun x2 m2 => VLI (D + 5) 300 3 [(0, vR 11 (283)), (1, vI v1), (2, vF x2), (3, vI (-(n32 1))), (4, vI (n32 0))] [] m2 Q E) E))) E) :
    VI (D + 5) 300 [vR 11 (283), vI v1] m Q E := by
  refine V_of (VL_at (al := [(0, vR 11 (283)), (1, vI v1)]) (st := []) km300 k300_0 ?_)
  refine V_mono h (fun u1 m1 h1 => ?_) (fun _ _ h => h)
  refine And.intro (fun c3 => ?_) (fun c3 => ?_)
  · refine VL_norm km300 k300_1 (VL_at (al := []) (st := []) km300 k300_1 ?_)
    exact (h1.1 c3)
  · refine VL_norm km300 k300_2 (VL_at (al := [(0, vR 11 (283)), (1, vI v1)]) (st := []) km300 k300_2 ?_)
    refine V_mono (h1.2 c3) (fun u2 m2 h2 => ?_) (fun _ _ h => h)
    exact VL_norm km300 k300_3 h2
/-- BannerParadeModel.bestSwap, label 3 -/
theorem w300_3 {D : Nat} {v1 : Int32} {v2 : UInt32} {v3 : Int32} {v4 : Int32} {m : XM} {Q : Int32 → XM → Prop} {E : Nat → XM → Prop}
    (h : (((m 284 (ix (n32 6))) ≤ (v4 + (n32 1)) → Q v3 m) ∧ (¬ (m 284 (ix (n32 6))) ≤ (v4 + (n32 1)) → (xin (((n32 15) + ((n32 7) * v4)) + (n32 0)) 243 = true ∧ (xin (((n32 15) + ((n32 7) * (v4 + (n32 1)))) + (n32 0)) 243 = true ∧ (∀ μ1 : XM, μ1 = um (um m (284) (ix (((n32 15) + ((n32 7) * v4)) + (n32 0))) (m 284 (ix (((n32 15) + ((n32 7) * (v4 + (n32 1)))) + (n32 0))))) (284) (ix (((n32 15) + ((n32 7) * (v4 + (n32 1)))) + (n32 0))) (m 284 (ix (((n32 15) + ((n32 7) * v4)) + (n32 0)))) → VF (D + 4) 224 [vR 11 (283), vI v1] μ1 (fun x2 m2 => (∀ μ3 : XM, μ3 = um (um m2 (284) (ix (((n32 15) + ((n32 7) * v4)) + (n32 0))) (m2 284 (ix (((n32 15) + ((n32 7) * (v4 + (n32 1)))) + (n32 0))))) (284) (ix (((n32 15) + ((n32 7) * (v4 + (n32 1)))) + (n32 0))) (m2 284 (ix (((n32 15) + ((n32 7) * v4)) + (n32 0)))) → (((n32 0) < (Op.cmpValue (FP.fcmp x2 v2) .g) → VLI (D + 5) 300 3 [(0, vR 11 (283)), (1, vI v1), (2, vF x2), (3, vI v4), (4, vI (v4 + (n32 1)))] [] μ3 Q E) ∧ (¬ (n32 0) < (Op.cmpValue (FP.fcmp x2 v2) .g) → VLI (D + 5) 300 3 [(0, vR 11 (283)), (1, vI v1), (2, vF v2), (3, vI v3), (4, vI (v4 + (n32 1)))] [] μ3 Q E)))) E)))))) :
    VLI (D + 5) 300 3 [(0, vR 11 (283)), (1, vI v1), (2, vF v2), (3, vI v3), (4, vI v4)] [] m Q E := by
  refine VL_at (al := [(0, vR 11 (283)), (1, vI v1), (2, vF v2), (3, vI v3), (4, vI v4)]) (st := []) km300 k300_3 ?_
  refine And.intro (xin_k rfl) ?_
  refine And.intro (fun c5 => ?_) (fun c5 => ?_)
  · refine VL_norm km300 k300_8 (VL_at (al := [(3, vI v3)]) (st := []) km300 k300_8 ?_)
    exact (h.1 c5)
  · refine VL_norm km300 k300_4 (VL_at (al := [(0, vR 11 (283)), (1, vI v1), (2, vF v2), (3, vI v3), (4, vI v4)]) (st := []) km300 k300_4 ?_)
    refine V_of ?_
    refine VL_norm km217 k217_0 (VL_at (al := [(0, vR 11 (283)), (1, vI v4)]) (st := []) km217 k217_0 ?_)
    refine V_of ?_
    refine VL_norm km202 k202_0 (VL_at (al := [(0, vR 11 (283)), (1, vI v4), (2, vI (n32 0))]) (st := []) km202 k202_0 ?_)
    refine And.intro (h.2 c5).1 ?_
    refine V_of ?_
    refine VL_norm km202 k202_0 (VL_at (al := [(0, vR 11 (283)), (1, vI (v4 + (n32 1))), (2, vI (n32 0))]) (st := []) km202 k202_0 ?_)
    refine And.intro (h.2 c5).2.1 ?_
    refine V_of ?_
    refine VL_norm km203 k203_0 (VL_at (al := [(0, vR 11 (283)), (1, vI v4), (2, vI (n32 0)), (3, vI (m 284 (ix (((n32 15) + ((n32 7) * (v4 + (n32 1)))) + (n32 0)))))]) (st := []) km203 k203_0 ?_)
    refine And.intro (h.2 c5).1 ?_
    refine V_of ?_
    refine VL_norm km203 k203_0 (VL_at (al := [(0, vR 11 (283)), (1, vI (v4 + (n32 1))), (2, vI (n32 0)), (3, vI (m 284 (ix (((n32 15) + ((n32 7) * v4)) + (n32 0)))))]) (st := []) km203 k203_0 ?_)
    refine And.intro (h.2 c5).2.1 ?_
    refine V_mono ((h.2 c5).2.2 (um (um m (284) (ix (((n32 15) + ((n32 7) * v4)) + (n32 0))) (m 284 (ix (((n32 15) + ((n32 7) * (v4 + (n32 1)))) + (n32 0))))) (284) (ix (((n32 15) + ((n32 7) * (v4 + (n32 1)))) + (n32 0))) (m 284 (ix (((n32 15) + ((n32 7) * v4)) + (n32 0))))) rfl) (fun u2 m2 h2 => ?_) (fun _ _ h => h)
    refine V_of ?_
    refine VL_norm km217 k217_0 (VL_at (al := [(0, vR 11 (283)), (1, vI v4)]) (st := []) km217 k217_0 ?_)
    refine V_of ?_
    refine VL_norm km202 k202_0 (VL_at (al := [(0, vR 11 (283)), (1, vI v4), (2, vI (n32 0))]) (st := []) km202 k202_0 ?_)
    refine And.intro (h.2 c5).1 ?_
    refine V_of ?_
    refine VL_norm km202 k202_0 (VL_at (al := [(0, vR 11 (283)), (1, vI (v4 + (n32 1))), (2, vI (n32 0))]) (st := []) km202 k202_0 ?_)
    refine And.intro (h.2 c5).2.1 ?_
    refine V_of ?_
    refine VL_norm km203 k203_0 (VL_at (al := [(0, vR 11 (283)), (1, vI v4), (2, vI (n32 0)), (3, vI (m2 284 (ix (((n32 15) + ((n32 7) * (v4 + (n32 1)))) + (n32 0)))))]) (st := []) km203 k203_0 ?_)
    refine And.intro (h.2 c5).1 ?_
    refine V_of ?_
    refine VL_norm km203 k203_0 (VL_at (al := [(0, vR 11 (283)), (1, vI (v4 + (n32 1))), (2, vI (n32 0)), (3, vI (m2 284 (ix (((n32 15) + ((n32 7) * v4)) + (n32 0)))))]) (st := []) km203 k203_0 ?_)
    refine And.intro (h.2 c5).2.1 ?_
    refine And.intro (fun c4 => ?_) (fun c4 => ?_)
    · refine VL_norm km300 k300_6 (VL_at (al := [(0, vR 11 (283)), (1, vI v1), (4, vI v4), (5, vF (xtf u2))]) (st := []) km300 k300_6 ?_)
      refine VL_norm km300 k300_7 (VL_at (al := [(0, vR 11 (283)), (1, vI v1), (2, vF (xtf u2)), (3, vI v4), (4, vI v4)]) (st := []) km300 k300_7 ?_)
      exact VL_norm km300 k300_3 ((h2 (um (um m2 (284) (ix (((n32 15) + ((n32 7) * v4)) + (n32 0))) (m2 284 (ix (((n32 15) + ((n32 7) * (v4 + (n32 1)))) + (n32 0))))) (284) (ix (((n32 15) + ((n32 7) * (v4 + (n32 1)))) + (n32 0))) (m2 284 (ix (((n32 15) + ((n32 7) * v4)) + (n32 0))))) rfl).1 c4)
    · refine VL_norm km300 k300_5 (VL_at (al := [(0, vR 11 (283)), (1, vI v1), (2, vF v2), (3, vI v3), (4, vI v4)]) (st := []) km300 k300_5 ?_)
      refine VL_norm km300 k300_7 (VL_at (al := [(0, vR 11 (283)), (1, vI v1), (2, vF v2), (3, vI v3), (4, vI v4)]) (st := []) km300 k300_7 ?_)
      exact VL_norm km300 k300_3 ((h2 (um (um m2 (284) (ix (((n32 15) + ((n32 7) * v4)) + (n32 0))) (m2 284 (ix (((n32 15) + ((n32 7) * (v4 + (n32 1)))) + (n32 0))))) (284) (ix (((n32 15) + ((n32 7) * (v4 + (n32 1)))) + (n32 0))) (m2 284 (ix (((n32 15) + ((n32 7) * v4)) + (n32 0))))) rfl).2 c4)
/-- BannerParadeModel.closedIn, label 0 -/
theorem w301_0 {D : Nat} {v1 : Int32} {m : XM} {Q : Int32 → XM → Prop} {E : Nat → XM → Prop}
    (h : VI (D + 5) 241 [vR 11 (283), vI v1] m (fun x1 m1 => ((x1 = (n32 0) → (((m1 283 0) ≤ (n32 0) → Q (-(n32 1)) m1) ∧ (¬ (m1 283 0) ≤ (n32 0) → Q (n32 0) m1))) ∧ (¬ x1 = (n32 0) → ((v1 = (n32 0) → (((m1 283 0) ≤ (n32 0) → Q (-(n32 1)) m1) ∧ (¬ (m1 283 0) ≤ (n32 0) → Q (n32 0) m1))) ∧ (¬ v1 = (n32 0) → VU (D + 5) 284 [vR 11 (283)] m1 (fun m4 => VLI (D + 6) 301 7 [(0, vR 11 (283)), (1, vI v1), (2, vI (n32 0))] [] m4 Q E) E))))) E) :
    VI (D + 6) 301 [vR 11 (283), vI v1] m Q E := by
  refine V_of (VL_at (al := [(0, vR 11 (283)), (1, vI v1)]) (st := []) km301 k301_0 ?_)
  refine V_mono h (fun u1 m1 h1 => ?_) (fun _ _ h => h)
  refine And.intro (fun c6 => ?_) (fun c6 => ?_)
  · refine VL_norm km301 k301_2 (VL_at (al := [(0, vR 11 (283))]) (st := []) km301 k301_2 ?_)
    refine And.intro (fun c2 => ?_) (fun c2 => ?_)
    · refine VL_norm km301 k301_4 (VL_at (al := []) (st := []) km301 k301_4 ?_)
      refine VL_norm km301 k301_5 (VL_at (al := []) (st := [vI (-(n32 1))]) km301 k301_5 ?_)
      exact ((h1.1 c6).1 c2)
    · refine VL_norm km301 k301_3 (VL_at (al := []) (st := []) km301 k301_3 ?_)
      refine VL_norm km301 k301_5 (VL_at (al := []) (st := [vI (n32 0)]) km301 k301_5 ?_)
      exact ((h1.1 c6).2 c2)
  · refine VL_norm km301 k301_1 (VL_at (al := [(0, vR 11 (283)), (1, vI v1)]) (st := []) km301 k301_1 ?_)
    refine And.intro (fun c5 => ?_) (fun c5 => ?_)
    · refine VL_norm km301 k301_2 (VL_at (al := [(0, vR 11 (283))]) (st := []) km301 k301_2 ?_)
      refine And.intro (fun c3 => ?_) (fun c3 => ?_)
      · refine VL_norm km301 k301_4 (VL_at (al := []) (st := []) km301 k301_4 ?_)
        refine VL_norm km301 k301_5 (VL_at (al := []) (st := [vI (-(n32 1))]) km301 k301_5 ?_)
        exact (((h1.2 c6).1 c5).1 c3)
      · refine VL_norm km301 k301_3 (VL_at (al := []) (st := []) km301 k301_3 ?_)
        refine VL_norm km301 k301_5 (VL_at (al := []) (st := [vI (n32 0)]) km301 k301_5 ?_)
        exact (((h1.2 c6).1 c5).2 c3)
    · refine VL_norm km301 k301_6 (VL_at (al := [(0, vR 11 (283)), (1, vI v1)]) (st := []) km301 k301_6 ?_)
      refine V_mono ((h1.2 c6).2 c5) (fun u4 m4 h4 => ?_) (fun _ _ h => h)
      exact VL_norm km301 k301_7 h4
/-- BannerParadeModel.closedIn, label 7 -/
theorem w301_7 {D : Nat} {v1 : Int32} {v2 : Int32} {m : XM} {Q : Int32 → XM → Prop} {E : Nat → XM → Prop}
    (h : (((n32 300) < v2 → VI (D + 5) 285 [vR 11 (283), vI (-(n32 1))] m (fun x1 m1 => Q x1 m1) E) ∧ (¬ (n32 300) < v2 → (xin (((n32 15) + ((n32 7) * (v1 - (n32 1)))) + (n32 1)) 243 = true ∧ (xin (((n32 15) + ((n32 7) * v1)) + (n32 1)) 243 = true ∧ ((((m 284 (ix (((n32 15) + ((n32 7) * (v1 - (n32 1)))) + (n32 1)))) - (m 284 (ix (((n32 15) + ((n32 7) * v1)) + (n32 1))))) = (m 284 (ix (n32 0))) → VI (D + 5) 285 [vR 11 (283), vI v2] m (fun x2 m2 => Q x2 m2) E) ∧ (¬ ((m 284 (ix (((n32 15) + ((n32 7) * (v1 - (n32 1)))) + (n32 1)))) - (m 284 (ix (((n32 15) + ((n32 7) * v1)) + (n32 1))))) = (m 284 (ix (n32 0))) → VU (D + 5) 228 [vR 11 (283)] m (fun m3 => VLI (D + 6) 301 7 [(0, vR 11 (283)), (1, vI v1), (2, vI (v2 + (n32 1)))] [] m3 Q E) E))))))) :
    VLI (D + 6) 301 7 [(0, vR 11 (283)), (1, vI v1), (2, vI v2)] [] m Q E := by
  refine VL_at (al := [(0, vR 11 (283)), (1, vI v1), (2, vI v2)]) (st := []) km301 k301_7 ?_
  refine And.intro (fun c5 => ?_) (fun c5 => ?_)
  · refine VL_norm km301 k301_11 (VL_at (al := [(0, vR 11 (283))]) (st := []) km301 k301_11 ?_)
    refine V_mono (h.1 c5) (fun u1 m1 h1 => ?_) (fun _ _ h => h)
    exact h1
  · refine VL_norm km301 k301_8 (VL_at (al := [(0, vR 11 (283)), (1, vI v1), (2, vI v2)]) (st := []) km301 k301_8 ?_)
    refine V_of ?_
    refine VL_norm km211 k211_0 (VL_at (al := [(0, vR 11 (283)), (1, vI v1)]) (st := []) km211 k211_0 ?_)
    refine V_of ?_
    refine VL_norm km202 k202_0 (VL_at (al := [(0, vR 11 (283)), (1, vI (v1 - (n32 1))), (2, vI (n32 1))]) (st := []) km202 k202_0 ?_)
    refine And.intro (h.2 c5).1 ?_
    refine V_of ?_
    refine VL_norm km202 k202_0 (VL_at (al := [(0, vR 11 (283)), (1, vI v1), (2, vI (n32 1))]) (st := []) km202 k202_0 ?_)
    refine And.intro (h.2 c5).2.1 ?_
    refine And.intro (xin_k rfl) ?_
    refine And.intro (fun c4 => ?_) (fun c4 => ?_)
    · refine VL_norm km301 k301_9 (VL_at (al := [(0, vR 11 (283)), (2, vI v2)]) (st := []) km301 k301_9 ?_)
      refine V_mono ((h.2 c5).2.2.1 c4) (fun u2 m2 h2 => ?_) (fun _ _ h => h)
      exact h2
    · refine VL_norm km301 k301_10 (VL_at (al := [(0, vR 11 (283)), (1, vI v1), (2, vI v2)]) (st := []) km301 k301_10 ?_)
      refine V_mono ((h.2 c5).2.2.2 c4) (fun u3 m3 h3 => ?_) (fun _ _ h => h)
      exact VL_norm km301 k301_7 h3
/-- BannerParadeModel.leastRest, label 0 -/
theorem w302_0 {D : Nat}  {m : XM} {Q : Int32 → XM → Prop} {E : Nat → XM → Prop}
    (h : VI (D + 6) 275 [vR 11 (283)] m (fun x1 m1 => ((x1 = (n32 0) → Q (n32 0) m1) ∧ (¬ x1 = (n32 0) → VU (D + 6) 284 [vR 11 (283)] m1 (fun m2 => VLI (D + 7) 302 3 [(0, vR 11 (283)), (1, vI (n32 0))] [] m2 Q E) E))) E) :
    VI (D + 7) 302 [vR 11 (283)] m Q E := by
  refine V_of (VL_at (al := [(0, vR 11 (283))]) (st := []) km302 k302_0 ?_)
  refine V_mono h (fun u1 m1 h1 => ?_) (fun _ _ h => h)
  refine And.intro (fun c3 => ?_) (fun c3 => ?_)
  · refine VL_norm km302 k302_1 (VL_at (al := []) (st := []) km302 k302_1 ?_)
    exact (h1.1 c3)
  · refine VL_norm km302 k302_2 (VL_at (al := [(0, vR 11 (283))]) (st := []) km302 k302_2 ?_)
    refine V_mono (h1.2 c3) (fun u2 m2 h2 => ?_) (fun _ _ h => h)
    exact VL_norm km302 k302_3 h2
/-- BannerParadeModel.leastRest, label 3 -/
theorem w302_3 {D : Nat} {v1 : Int32} {m : XM} {Q : Int32 → XM → Prop} {E : Nat → XM → Prop}
    (h : (((n32 50) < v1 → Q (-(n32 1)) m) ∧ (¬ (n32 50) < v1 → VU (D + 6) 229 [vR 11 (283), vI (n32 100)] (um m (284) (ix (n32 3)) v1) (fun m1 => (((m1 284 (ix (n32 13))) = (m1 285 (ix (n32 13))) → VI (D + 6) 285 [vR 11 (283), vI (n32 0)] m1 (fun x2 m2 => Q v1 m2) E) ∧ (¬ (m1 284 (ix (n32 13))) = (m1 285 (ix (n32 13))) → VI (D + 6) 285 [vR 11 (283), vI (n32 0)] m1 (fun x3 m3 => VLI (D + 7) 302 3 [(0, vR 11 (283)), (1, vI (v1 + (n32 1)))] [] m3 Q E) E))) E))) :
    VLI (D + 7) 302 3 [(0, vR 11 (283)), (1, vI v1)] [] m Q E := by
  refine VL_at (al := [(0, vR 11 (283)), (1, vI v1)]) (st := []) km302 k302_3 ?_
  refine And.intro (fun c5 => ?_) (fun c5 => ?_)
  · refine VL_norm km302 k302_10 (VL_at (al := []) (st := []) km302 k302_10 ?_)
    exact (h.1 c5)
  · refine VL_norm km302 k302_4 (VL_at (al := [(0, vR 11 (283)), (1, vI v1)]) (st := []) km302 k302_4 ?_)
    refine And.intro (xin_k rfl) ?_
    refine V_mono (h.2 c5) (fun u1 m1 h1 => ?_) (fun _ _ h => h)
    refine And.intro (xin_k rfl) ?_
    refine And.intro (xin_k rfl) ?_
    refine And.intro (fun c4 => ?_) (fun c4 => ?_)
    · refine VL_norm km302 k302_5 (VL_at (al := [(0, vR 11 (283)), (1, vI v1)]) (st := []) km302 k302_5 ?_)
      refine VL_norm km302 k302_7 (VL_at (al := [(0, vR 11 (283)), (1, vI v1)]) (st := [vI (n32 1)]) km302 k302_7 ?_)
      refine V_mono (h1.1 c4) (fun u2 m2 h2 => ?_) (fun _ _ h => h)
      refine And.intro (fun c => absurd c (by decide)) (fun _ => ?_)
      refine VL_norm km302 k302_8 (VL_at (al := [(1, vI v1)]) (st := []) km302 k302_8 ?_)
      exact h2
    · refine VL_norm km302 k302_6 (VL_at (al := [(0, vR 11 (283)), (1, vI v1)]) (st := []) km302 k302_6 ?_)
      refine VL_norm km302 k302_7 (VL_at (al := [(0, vR 11 (283)), (1, vI v1)]) (st := [vI (n32 0)]) km302 k302_7 ?_)
      refine V_mono (h1.2 c4) (fun u3 m3 h3 => ?_) (fun _ _ h => h)
      refine And.intro (fun _ => ?_) (fun c => absurd (by decide) c)
      refine VL_norm km302 k302_9 (VL_at (al := [(0, vR 11 (283)), (1, vI v1)]) (st := []) km302 k302_9 ?_)
      exact VL_norm km302 k302_3 h3
/-- BannerParadeModel.writesNumber, label 0 -/
theorem w304_0 {D : Nat} {v1 : Int32} {m : XM} {Q : XM → Prop} {E : Nat → XM → Prop}
    (h : ((v1 ≤ (n32 9) → (xin (m 283 21) 120 = true ∧ (∀ μ1 : XM, μ1 = um (um m (292) (ix (m 283 21)) ((((((n32 48) + (v1 - v1 / (n32 10) * (n32 10)))).toInt8.toInt32)).toInt8.toInt32)) (283) 21 (((um m (292) (ix (m 283 21)) ((((((n32 48) + (v1 - v1 / (n32 10) * (n32 10)))).toInt8.toInt32)).toInt8.toInt32)) 283 21) + (n32 1)) → Q μ1))) ∧ (¬ v1 ≤ (n32 9) → VU (D + 8) 304 [vR 11 (283), vI (v1 / (n32 10))] m (fun m2 => (xin (m2 283 21) 120 = true ∧ (∀ μ3 : XM, μ3 = um (um m2 (292) (ix (m2 283 21)) ((((((n32 48) + (v1 - v1 / (n32 10) * (n32 10)))).toInt8.toInt32)).toInt8.toInt32)) (283) 21 (((um m2 (292) (ix (m2 283 21)) ((((((n32 48) + (v1 - v1 / (n32 10) * (n32 10)))).toInt8.toInt32)).toInt8.toInt32)) 283 21) + (n32 1)) → Q μ3))) E))) :
    VU (D + 9) 304 [vR 11 (283), vI v1] m Q E := by
  refine V_of (VL_at (al := [(0, vR 11 (283)), (1, vI v1)]) (st := []) km304 k304_0 ?_)
  refine And.intro (fun c4 => ?_) (fun c4 => ?_)
  · refine VL_norm km304 k304_2 (VL_at (al := [(0, vR 11 (283)), (1, vI v1)]) (st := []) km304 k304_2 ?_)
    refine And.intro (by decide) ?_
    refine V_of ?_
    refine VL_norm km303 k303_0 (VL_at (al := [(0, vR 11 (283)), (1, vI ((n32 48) + (v1 - v1 / (n32 10) * (n32 10))))]) (st := []) km303 k303_0 ?_)
    refine And.intro (h.1 c4).1 ?_
    exact ((h.1 c4).2 (um (um m (292) (ix (m 283 21)) ((((((n32 48) + (v1 - v1 / (n32 10) * (n32 10)))).toInt8.toInt32)).toInt8.toInt32)) (283) 21 (((um m (292) (ix (m 283 21)) ((((((n32 48) + (v1 - v1 / (n32 10) * (n32 10)))).toInt8.toInt32)).toInt8.toInt32)) 283 21) + (n32 1))) rfl)
  · refine VL_norm km304 k304_1 (VL_at (al := [(0, vR 11 (283)), (1, vI v1)]) (st := []) km304 k304_1 ?_)
    refine And.intro (by decide) ?_
    refine V_mono (h.2 c4) (fun u2 m2 h2 => ?_) (fun _ _ h => h)
    refine VL_norm km304 k304_2 (VL_at (al := [(0, vR 11 (283)), (1, vI v1)]) (st := []) km304 k304_2 ?_)
    refine And.intro (by decide) ?_
    refine V_of ?_
    refine VL_norm km303 k303_0 (VL_at (al := [(0, vR 11 (283)), (1, vI ((n32 48) + (v1 - v1 / (n32 10) * (n32 10))))]) (st := []) km303 k303_0 ?_)
    refine And.intro h2.1 ?_
    exact (h2.2 (um (um m2 (292) (ix (m2 283 21)) ((((((n32 48) + (v1 - v1 / (n32 10) * (n32 10)))).toInt8.toInt32)).toInt8.toInt32)) (283) 21 (((um m2 (292) (ix (m2 283 21)) ((((((n32 48) + (v1 - v1 / (n32 10) * (n32 10)))).toInt8.toInt32)).toInt8.toInt32)) 283 21) + (n32 1))) rfl)
/-- BannerParadeModel.writeStand, label 0 -/
theorem w305_0 {D : Nat} {v1 : Int32} {m : XM} {Q : Int32 → XM → Prop} {E : Nat → XM → Prop}
    (h : VI (D + 2) 242 [vR 11 (283), vI v1] m (fun x1 m1 => ((x1 = (n32 0) → Q (n32 0) m1) ∧ (¬ x1 = (n32 0) → VU (D + 2) 220 [vR 11 (283), vI v1] m1 (fun m2 => VLI (D + 3) 305 3 [(0, vR 11 (283)), (2, vI (n32 0))] [] (um m2 (283) 21 (n32 0)) Q E) E))) E) :
    VI (D + 3) 305 [vR 11 (283), vI v1] m Q E := by
  refine V_of (VL_at (al := [(0, vR 11 (283)), (1, vI v1)]) (st := []) km305 k305_0 ?_)
  refine V_mono h (fun u1 m1 h1 => ?_) (fun _ _ h => h)
  refine And.intro (fun c3 => ?_) (fun c3 => ?_)
  · refine VL_norm km305 k305_1 (VL_at (al := []) (st := []) km305 k305_1 ?_)
    exact (h1.1 c3)
  · refine VL_norm km305 k305_2 (VL_at (al := [(0, vR 11 (283)), (1, vI v1)]) (st := []) km305 k305_2 ?_)
    refine V_mono (h1.2 c3) (fun u2 m2 h2 => ?_) (fun _ _ h => h)
    exact VL_norm km305 k305_3 h2
/-- BannerParadeModel.writeStand, label 3 -/
theorem w305_3 {D : Nat} {v2 : Int32} {m : XM} {Q : Int32 → XM → Prop} {E : Nat → XM → Prop}
    (h : (((m 283 18) ≤ v2 → Q (m 283 21) m) ∧ (¬ (m 283 18) ≤ v2 → (xin v2 24 = true ∧ (xin (m 283 21) 120 = true ∧ (∀ μ1 : XM, μ1 = um (um m (292) (ix (m 283 21)) (((((m 290 (ix v2))).toInt8.toInt32)).toInt8.toInt32)) (283) 21 (((um m (292) (ix (m 283 21)) (((((m 290 (ix v2))).toInt8.toInt32)).toInt8.toInt32)) 283 21) + (n32 1)) → VLI (D + 3) 305 3 [(0, vR 11 (283)), (2, vI (v2 + (n32 1)))] [] μ1 Q E)))))) :
    VLI (D + 3) 305 3 [(0, vR 11 (283)), (2, vI v2)] [] m Q E := by
  refine VL_at (al := [(0, vR 11 (283)), (2, vI v2)]) (st := []) km305 k305_3 ?_
  refine And.intro (fun c2 => ?_) (fun c2 => ?_)
  · refine VL_norm km305 k305_5 (VL_at (al := [(0, vR 11 (283))]) (st := []) km305 k305_5 ?_)
    exact (h.1 c2)
  · refine VL_norm km305 k305_4 (VL_at (al := [(0, vR 11 (283)), (2, vI v2)]) (st := []) km305 k305_4 ?_)
    refine And.intro (h.2 c2).1 ?_
    refine V_of ?_
    refine VL_norm km303 k303_0 (VL_at (al := [(0, vR 11 (283)), (1, vI (m 290 (ix v2)))]) (st := []) km303 k303_0 ?_)
    refine And.intro (h.2 c2).2.1 ?_
    exact VL_norm km305 k305_3 ((h.2 c2).2.2 (um (um m (292) (ix (m 283 21)) (((((m 290 (ix v2))).toInt8.toInt32)).toInt8.toInt32)) (283) 21 (((um m (292) (ix (m 283 21)) (((((m 290 (ix v2))).toInt8.toInt32)).toInt8.toInt32)) 283 21) + (n32 1))) rfl)
/-- BannerParadeModel.writeRow, label 0 -/
theorem w306_0 {D : Nat}  {m : XM} {Q : Int32 → XM → Prop} {E : Nat → XM → Prop}
    (h : VI (D + 1) 275 [vR 11 (283)] m (fun x1 m1 => ((x1 = (n32 0) → Q (n32 0) m1) ∧ (¬ x1 = (n32 0) → VLI (D + 2) 306 3 [(0, vR 11 (283)), (1, vI (n32 0))] [] (um m1 (283) 21 (n32 0)) Q E))) E) :
    VI (D + 2) 306 [vR 11 (283)] m Q E := by
  refine V_of (VL_at (al := [(0, vR 11 (283))]) (st := []) km306 k306_0 ?_)
  refine V_mono h (fun u1 m1 h1 => ?_) (fun _ _ h => h)
  refine And.intro (fun c2 => ?_) (fun c2 => ?_)
  · refine VL_norm km306 k306_1 (VL_at (al := []) (st := []) km306 k306_1 ?_)
    exact (h1.1 c2)
  · refine VL_norm km306 k306_2 (VL_at (al := [(0, vR 11 (283))]) (st := []) km306 k306_2 ?_)
    exact VL_norm km306 k306_3 (h1.2 c2)
/-- BannerParadeModel.writeRow, label 3 -/
theorem w306_3 {D : Nat} {v1 : Int32} {m : XM} {Q : Int32 → XM → Prop} {E : Nat → XM → Prop}
    (h : (((m 284 (ix (n32 6))) ≤ v1 → Q (m 283 21) m) ∧ (¬ (m 284 (ix (n32 6))) ≤ v1 → (xin (((n32 15) + ((n32 7) * v1)) + (n32 0)) 243 = true ∧ (((m 284 (ix (((n32 15) + ((n32 7) * v1)) + (n32 0)))) ≤ (n32 0) → (xin (m 283 21) 120 = true ∧ (∀ μ1 : XM, μ1 = um (um m (292) (ix (m 283 21)) (((((n32 45)).toInt8.toInt32)).toInt8.toInt32)) (283) 21 (((um m (292) (ix (m 283 21)) (((((n32 45)).toInt8.toInt32)).toInt8.toInt32)) 283 21) + (n32 1)) → VLI (D + 2) 306 3 [(0, vR 11 (283)), (1, vI (v1 + (n32 1)))] [] μ1 Q E))) ∧ (¬ (m 284 (ix (((n32 15) + ((n32 7) * v1)) + (n32 0)))) ≤ (n32 0) → (xin (m 283 21) 120 = true ∧ (∀ μ2 : XM, μ2 = um (um m (292) (ix (m 283 21)) ((((((n32 96) + (m 284 (ix (((n32 15) + ((n32 7) * v1)) + (n32 0)))))).toInt8.toInt32)).toInt8.toInt32)) (283) 21 (((um m (292) (ix (m 283 21)) ((((((n32 96) + (m 284 (ix (((n32 15) + ((n32 7) * v1)) + (n32 0)))))).toInt8.toInt32)).toInt8.toInt32)) 283 21) + (n32 1)) → VLI (D + 2) 306 3 [(0, vR 11 (283)), (1, vI (v1 + (n32 1)))] [] μ2 Q E)))))))) :
    VLI (D + 2) 306 3 [(0, vR 11 (283)), (1, vI v1)] [] m Q E := by
  refine VL_at (al := [(0, vR 11 (283)), (1, vI v1)]) (st := []) km306 k306_3 ?_
  refine And.intro (xin_k rfl) ?_
  refine And.intro (fun c4 => ?_) (fun c4 => ?_)
  · refine VL_norm km306 k306_8 (VL_at (al := [(0, vR 11 (283))]) (st := []) km306 k306_8 ?_)
    exact (h.1 c4)
  · refine VL_norm km306 k306_4 (VL_at (al := [(0, vR 11 (283)), (1, vI v1)]) (st := []) km306 k306_4 ?_)
    refine V_of ?_
    refine VL_norm km202 k202_0 (VL_at (al := [(0, vR 11 (283)), (1, vI v1), (2, vI (n32 0))]) (st := []) km202 k202_0 ?_)
    refine And.intro (h.2 c4).1 ?_
    refine And.intro (fun c3 => ?_) (fun c3 => ?_)
    · refine VL_norm km306 k306_6 (VL_at (al := [(0, vR 11 (283)), (1, vI v1)]) (st := [vR 11 (283)]) km306 k306_6 ?_)
      refine VL_norm km306 k306_7 (VL_at (al := [(0, vR 11 (283)), (1, vI v1)]) (st := [vI (n32 45), vR 11 (283)]) km306 k306_7 ?_)
      refine V_of ?_
      refine VL_norm km303 k303_0 (VL_at (al := [(0, vR 11 (283)), (1, vI (n32 45))]) (st := []) km303 k303_0 ?_)
      refine And.intro ((h.2 c4).2.1 c3).1 ?_
      exact VL_norm km306 k306_3 (((h.2 c4).2.1 c3).2 (um (um m (292) (ix (m 283 21)) (((((n32 45)).toInt8.toInt32)).toInt8.toInt32)) (283) 21 (((um m (292) (ix (m 283 21)) (((((n32 45)).toInt8.toInt32)).toInt8.toInt32)) 283 21) + (n32 1))) rfl)
    · refine VL_norm km306 k306_5 (VL_at (al := [(0, vR 11 (283)), (1, vI v1)]) (st := [vR 11 (283)]) km306 k306_5 ?_)
      refine V_of ?_
      refine VL_norm km202 k202_0 (VL_at (al := [(0, vR 11 (283)), (1, vI v1), (2, vI (n32 0))]) (st := []) km202 k202_0 ?_)
      refine And.intro (h.2 c4).1 ?_
      refine VL_norm km306 k306_7 (VL_at (al := [(0, vR 11 (283)), (1, vI v1)]) (st := [vI ((n32 96) + (m 284 (ix (((n32 15) + ((n32 7) * v1)) + (n32 0))))), vR 11 (283)]) km306 k306_7 ?_)
      refine V_of ?_
      refine VL_norm km303 k303_0 (VL_at (al := [(0, vR 11 (283)), (1, vI ((n32 96) + (m 284 (ix (((n32 15) + ((n32 7) * v1)) + (n32 0))))))]) (st := []) km303 k303_0 ?_)
      refine And.intro ((h.2 c4).2.2 c3).1 ?_
      exact VL_norm km306 k306_3 (((h.2 c4).2.2 c3).2 (um (um m (292) (ix (m 283 21)) ((((((n32 96) + (m 284 (ix (((n32 15) + ((n32 7) * v1)) + (n32 0)))))).toInt8.toInt32)).toInt8.toInt32)) (283) 21 (((um m (292) (ix (m 283 21)) ((((((n32 96) + (m 284 (ix (((n32 15) + ((n32 7) * v1)) + (n32 0)))))).toInt8.toInt32)).toInt8.toInt32)) 283 21) + (n32 1))) rfl)
/-- BannerParadeModel.writePlaces, label 0 -/
theorem w307_0 {D : Nat}  {m : XM} {Q : Int32 → XM → Prop} {E : Nat → XM → Prop}
    (h : VI (D + 9) 275 [vR 11 (283)] m (fun x1 m1 => ((x1 = (n32 0) → Q (n32 0) m1) ∧ (¬ x1 = (n32 0) → VLI (D + 10) 307 3 [(0, vR 11 (283)), (1, vI (n32 0))] [] (um m1 (283) 21 (n32 0)) Q E))) E) :
    VI (D + 10) 307 [vR 11 (283)] m Q E := by
  refine V_of (VL_at (al := [(0, vR 11 (283))]) (st := []) km307 k307_0 ?_)
  refine V_mono h (fun u1 m1 h1 => ?_) (fun _ _ h => h)
  refine And.intro (fun c2 => ?_) (fun c2 => ?_)
  · refine VL_norm km307 k307_1 (VL_at (al := []) (st := []) km307 k307_1 ?_)
    exact (h1.1 c2)
  · refine VL_norm km307 k307_2 (VL_at (al := [(0, vR 11 (283))]) (st := []) km307 k307_2 ?_)
    exact VL_norm km307 k307_3 (h1.2 c2)
/-- BannerParadeModel.writePlaces, label 3 -/
theorem w307_3 {D : Nat} {v1 : Int32} {m : XM} {Q : Int32 → XM → Prop} {E : Nat → XM → Prop}
    (h : (((m 284 (ix (n32 6))) ≤ v1 → Q (m 283 21) m) ∧ (¬ (m 284 (ix (n32 6))) ≤ v1 → ((v1 ≤ (n32 0) → (xin (((n32 15) + ((n32 7) * v1)) + (n32 1)) 243 = true ∧ (((n32 0) ≤ (m 284 (ix (((n32 15) + ((n32 7) * v1)) + (n32 1)))) → VI (D + 9) 384 [vI (m 284 (ix (((n32 15) + ((n32 7) * v1)) + (n32 1))))] m (fun x1 m1 => VU (D + 9) 304 [vR 11 (283), vI x1] m1 (fun m2 => VLI (D + 10) 307 3 [(0, vR 11 (283)), (1, vI (v1 + (n32 1)))] [] m2 Q E) E) E) ∧ (¬ (n32 0) ≤ (m 284 (ix (((n32 15) + ((n32 7) * v1)) + (n32 1)))) → (xin (m 283 21) 120 = true ∧ (∀ μ3 : XM, μ3 = um (um m (292) (ix (m 283 21)) (((((n32 45)).toInt8.toInt32)).toInt8.toInt32)) (283) 21 (((um m (292) (ix (m 283 21)) (((((n32 45)).toInt8.toInt32)).toInt8.toInt32)) 283 21) + (n32 1)) → VI (D + 9) 384 [vI (μ3 284 (ix (((n32 15) + ((n32 7) * v1)) + (n32 1))))] μ3 (fun x4 m4 => VU (D + 9) 304 [vR 11 (283), vI x4] m4 (fun m5 => VLI (D + 10) 307 3 [(0, vR 11 (283)), (1, vI (v1 + (n32 1)))] [] m5 Q E) E) E)))))) ∧ (¬ v1 ≤ (n32 0) → (xin (m 283 21) 120 = true ∧ (∀ μ7 : XM, μ7 = um (um m (292) (ix (m 283 21)) (((((n32 44)).toInt8.toInt32)).toInt8.toInt32)) (283) 21 (((um m (292) (ix (m 283 21)) (((((n32 44)).toInt8.toInt32)).toInt8.toInt32)) 283 21) + (n32 1)) → (xin (((n32 15) + ((n32 7) * v1)) + (n32 1)) 243 = true ∧ (((n32 0) ≤ (μ7 284 (ix (((n32 15) + ((n32 7) * v1)) + (n32 1)))) → VI (D + 9) 384 [vI (μ7 284 (ix (((n32 15) + ((n32 7) * v1)) + (n32 1))))] μ7 (fun x8 m8 => VU (D + 9) 304 [vR 11 (283), vI x8] m8 (fun m9 => VLI (D + 10) 307 3 [(0, vR 11 (283)), (1, vI (v1 + (n32 1)))] [] m9 Q E) E) E) ∧ (¬ (n32 0) ≤ (μ7 284 (ix (((n32 15) + ((n32 7) * v1)) + (n32 1)))) → (xin (μ7 283 21) 120 = true ∧ (∀ μ10 : XM, μ10 = um (um μ7 (292) (ix (μ7 283 21)) (((((n32 45)).toInt8.toInt32)).toInt8.toInt32)) (283) 21 (((um μ7 (292) (ix (μ7 283 21)) (((((n32 45)).toInt8.toInt32)).toInt8.toInt32)) 283 21) + (n32 1)) → VI (D + 9) 384 [vI (μ10 284 (ix (((n32 15) + ((n32 7) * v1)) + (n32 1))))] μ10 (fun x11 m11 => VU (D + 9) 304 [vR 11 (283), vI x11] m11 (fun m12 => VLI (D + 10) 307 3 [(0, vR 11 (283)), (1, vI (v1 + (n32 1)))] [] m12 Q E) E) E)))))))))))) :
    VLI (D + 10) 307 3 [(0, vR 11 (283)), (1, vI v1)] [] m Q E := by
  refine VL_at (al := [(0, vR 11 (283)), (1, vI v1)]) (st := []) km307 k307_3 ?_
  refine And.intro (xin_k rfl) ?_
  refine And.intro (fun c15 => ?_) (fun c15 => ?_)
  · refine VL_norm km307 k307_9 (VL_at (al := [(0, vR 11 (283))]) (st := []) km307 k307_9 ?_)
    exact (h.1 c15)
  · refine VL_norm km307 k307_4 (VL_at (al := [(0, vR 11 (283)), (1, vI v1)]) (st := []) km307 k307_4 ?_)
    refine And.intro (fun c14 => ?_) (fun c14 => ?_)
    · refine VL_norm km307 k307_6 (VL_at (al := [(0, vR 11 (283)), (1, vI v1)]) (st := []) km307 k307_6 ?_)
      refine V_of ?_
      refine VL_norm km202 k202_0 (VL_at (al := [(0, vR 11 (283)), (1, vI v1), (2, vI (n32 1))]) (st := []) km202 k202_0 ?_)
      refine And.intro ((h.2 c15).1 c14).1 ?_
      refine And.intro (fun c6 => ?_) (fun c6 => ?_)
      · refine VL_norm km307 k307_8 (VL_at (al := [(0, vR 11 (283)), (1, vI v1)]) (st := []) km307 k307_8 ?_)
        refine V_of ?_
        refine VL_norm km202 k202_0 (VL_at (al := [(0, vR 11 (283)), (1, vI v1), (2, vI (n32 1))]) (st := []) km202 k202_0 ?_)
        refine And.intro ((h.2 c15).1 c14).1 ?_
        refine V_mono (((h.2 c15).1 c14).2.1 c6) (fun u1 m1 h1 => ?_) (fun _ _ h => h)
        refine V_mono h1 (fun u2 m2 h2 => ?_) (fun _ _ h => h)
        exact VL_norm km307 k307_3 h2
      · refine VL_norm km307 k307_7 (VL_at (al := [(0, vR 11 (283)), (1, vI v1)]) (st := []) km307 k307_7 ?_)
        refine V_of ?_
        refine VL_norm km303 k303_0 (VL_at (al := [(0, vR 11 (283)), (1, vI (n32 45))]) (st := []) km303 k303_0 ?_)
        refine And.intro (((h.2 c15).1 c14).2.2 c6).1 ?_
        refine VL_norm km307 k307_8 (VL_at (al := [(0, vR 11 (283)), (1, vI v1)]) (st := []) km307 k307_8 ?_)
        refine V_of ?_
        refine VL_norm km202 k202_0 (VL_at (al := [(0, vR 11 (283)), (1, vI v1), (2, vI (n32 1))]) (st := []) km202 k202_0 ?_)
        refine And.intro ((h.2 c15).1 c14).1 ?_
        refine V_mono ((((h.2 c15).1 c14).2.2 c6).2 (um (um m (292) (ix (m 283 21)) (((((n32 45)).toInt8.toInt32)).toInt8.toInt32)) (283) 21 (((um m (292) (ix (m 283 21)) (((((n32 45)).toInt8.toInt32)).toInt8.toInt32)) 283 21) + (n32 1))) rfl) (fun u4 m4 h4 => ?_) (fun _ _ h => h)
        refine V_mono h4 (fun u5 m5 h5 => ?_) (fun _ _ h => h)
        exact VL_norm km307 k307_3 h5
    · refine VL_norm km307 k307_5 (VL_at (al := [(0, vR 11 (283)), (1, vI v1)]) (st := []) km307 k307_5 ?_)
      refine V_of ?_
      refine VL_norm km303 k303_0 (VL_at (al := [(0, vR 11 (283)), (1, vI (n32 44))]) (st := []) km303 k303_0 ?_)
      refine And.intro ((h.2 c15).2 c14).1 ?_
      refine VL_norm km307 k307_6 (VL_at (al := [(0, vR 11 (283)), (1, vI v1)]) (st := []) km307 k307_6 ?_)
      refine V_of ?_
      refine VL_norm km202 k202_0 (VL_at (al := [(0, vR 11 (283)), (1, vI v1), (2, vI (n32 1))]) (st := []) km202 k202_0 ?_)
      refine And.intro (((h.2 c15).2 c14).2 (um (um m (292) (ix (m 283 21)) (((((n32 44)).toInt8.toInt32)).toInt8.toInt32)) (283) 21 (((um m (292) (ix (m 283 21)) (((((n32 44)).toInt8.toInt32)).toInt8.toInt32)) 283 21) + (n32 1))) rfl).1 ?_
      refine And.intro (fun c13 => ?_) (fun c13 => ?_)
      · refine VL_norm km307 k307_8 (VL_at (al := [(0, vR 11 (283)), (1, vI v1)]) (st := []) km307 k307_8 ?_)
        refine V_of ?_
        refine VL_norm km202 k202_0 (VL_at (al := [(0, vR 11 (283)), (1, vI v1), (2, vI (n32 1))]) (st := []) km202 k202_0 ?_)
        refine And.intro (((h.2 c15).2 c14).2 (um (um m (292) (ix (m 283 21)) (((((n32 44)).toInt8.toInt32)).toInt8.toInt32)) (283) 21 (((um m (292) (ix (m 283 21)) (((((n32 44)).toInt8.toInt32)).toInt8.toInt32)) 283 21) + (n32 1))) rfl).1 ?_
        refine V_mono ((((h.2 c15).2 c14).2 (um (um m (292) (ix (m 283 21)) (((((n32 44)).toInt8.toInt32)).toInt8.toInt32)) (283) 21 (((um m (292) (ix (m 283 21)) (((((n32 44)).toInt8.toInt32)).toInt8.toInt32)) 283 21) + (n32 1))) rfl).2.1 c13) (fun u8 m8 h8 => ?_) (fun _ _ h => h)
        refine V_mono h8 (fun u9 m9 h9 => ?_) (fun _ _ h => h)
        exact VL_norm km307 k307_3 h9
      · refine VL_norm km307 k307_7 (VL_at (al := [(0, vR 11 (283)), (1, vI v1)]) (st := []) km307 k307_7 ?_)
        refine V_of ?_
        refine VL_norm km303 k303_0 (VL_at (al := [(0, vR 11 (283)), (1, vI (n32 45))]) (st := []) km303 k303_0 ?_)
        refine And.intro ((((h.2 c15).2 c14).2 (um (um m (292) (ix (m 283 21)) (((((n32 44)).toInt8.toInt32)).toInt8.toInt32)) (283) 21 (((um m (292) (ix (m 283 21)) (((((n32 44)).toInt8.toInt32)).toInt8.toInt32)) 283 21) + (n32 1))) rfl).2.2 c13).1 ?_
        refine VL_norm km307 k307_8 (VL_at (al := [(0, vR 11 (283)), (1, vI v1)]) (st := []) km307 k307_8 ?_)
        refine V_of ?_
        refine VL_norm km202 k202_0 (VL_at (al := [(0, vR 11 (283)), (1, vI v1), (2, vI (n32 1))]) (st := []) km202 k202_0 ?_)
        refine And.intro (((h.2 c15).2 c14).2 (um (um m (292) (ix (m 283 21)) (((((n32 44)).toInt8.toInt32)).toInt8.toInt32)) (283) 21 (((um m (292) (ix (m 283 21)) (((((n32 44)).toInt8.toInt32)).toInt8.toInt32)) 283 21) + (n32 1))) rfl).1 ?_
        refine V_mono (((((h.2 c15).2 c14).2 (um (um m (292) (ix (m 283 21)) (((((n32 44)).toInt8.toInt32)).toInt8.toInt32)) (283) 21 (((um m (292) (ix (m 283 21)) (((((n32 44)).toInt8.toInt32)).toInt8.toInt32)) 283 21) + (n32 1))) rfl).2.2 c13).2 (um (um (um (um m (292) (ix (m 283 21)) (((((n32 44)).toInt8.toInt32)).toInt8.toInt32)) (283) 21 (((um m (292) (ix (m 283 21)) (((((n32 44)).toInt8.toInt32)).toInt8.toInt32)) 283 21) + (n32 1))) (292) (ix ((um (um m (292) (ix (m 283 21)) (((((n32 44)).toInt8.toInt32)).toInt8.toInt32)) (283) 21 (((um m (292) (ix (m 283 21)) (((((n32 44)).toInt8.toInt32)).toInt8.toInt32)) 283 21) + (n32 1))) 283 21)) (((((n32 45)).toInt8.toInt32)).toInt8.toInt32)) (283) 21 (((um (um (um m (292) (ix (m 283 21)) (((((n32 44)).toInt8.toInt32)).toInt8.toInt32)) (283) 21 (((um m (292) (ix (m 283 21)) (((((n32 44)).toInt8.toInt32)).toInt8.toInt32)) 283 21) + (n32 1))) (292) (ix ((um (um m (292) (ix (m 283 21)) (((((n32 44)).toInt8.toInt32)).toInt8.toInt32)) (283) 21 (((um m (292) (ix (m 283 21)) (((((n32 44)).toInt8.toInt32)).toInt8.toInt32)) 283 21) + (n32 1))) 283 21)) (((((n32 45)).toInt8.toInt32)).toInt8.toInt32)) 283 21) + (n32 1))) rfl) (fun u11 m11 h11 => ?_) (fun _ _ h => h)
        refine V_mono h11 (fun u12 m12 h12 => ?_) (fun _ _ h => h)
        exact VL_norm km307 k307_3 h12
/-- BannerParadeModel.textByte, label 0 -/
theorem w308_0 {D : Nat} {v1 : Int32} {m : XM} {Q : Int32 → XM → Prop} {E : Nat → XM → Prop}
    (h : ((v1 < (n32 0) → VI D 176 [vR 11 (283), vI (n32 0), vI (n32 1), vI (n32 1)] m (fun x1 m1 => ((x1 = (n32 0) → Q (n32 0) m1) ∧ (¬ x1 = (n32 0) → (xin v1 120 = true ∧ Q (m1 292 (ix v1)) m1)))) E) ∧ (¬ v1 < (n32 0) → ((((m 283 21) - (n32 1)) < v1 → VI D 176 [vR 11 (283), vI (n32 0), vI (n32 1), vI (n32 1)] m (fun x3 m3 => ((x3 = (n32 0) → Q (n32 0) m3) ∧ (¬ x3 = (n32 0) → (xin v1 120 = true ∧ Q (m3 292 (ix v1)) m3)))) E) ∧ (¬ ((m 283 21) - (n32 1)) < v1 → VI D 176 [vR 11 (283), vI (n32 1), vI (n32 1), vI (n32 1)] m (fun x5 m5 => ((x5 = (n32 0) → Q (n32 0) m5) ∧ (¬ x5 = (n32 0) → (xin v1 120 = true ∧ Q (m5 292 (ix v1)) m5)))) E))))) :
    VI (D + 1) 308 [vR 11 (283), vI v1] m Q E := by
  refine V_of (VL_at (al := [(0, vR 11 (283)), (1, vI v1)]) (st := []) km308 k308_0 ?_)
  refine V_of ?_
  refine VL_norm km175 k175_0 (VL_at (al := [(0, vI v1), (1, vI (n32 0)), (2, vI ((m 283 21) - (n32 1)))]) (st := []) km175 k175_0 ?_)
  refine And.intro (fun c8 => ?_) (fun c8 => ?_)
  · refine VL_norm km175 k175_3 (VL_at (al := []) (st := []) km175 k175_3 ?_)
    refine VL_norm km175 k175_4 (VL_at (al := []) (st := [vI (n32 0)]) km175 k175_4 ?_)
    refine And.intro xrt20 ?_
    refine V_mono (h.1 c8) (fun u1 m1 h1 => ?_) (fun _ _ h => h)
    refine And.intro (fun c2 => ?_) (fun c2 => ?_)
    · refine VL_norm km308 k308_2 (VL_at (al := []) (st := []) km308 k308_2 ?_)
      refine VL_norm km308 k308_3 (VL_at (al := []) (st := [vI (n32 0)]) km308 k308_3 ?_)
      exact (h1.1 c2)
    · refine VL_norm km308 k308_1 (VL_at (al := [(0, vR 11 (283)), (1, vI v1)]) (st := []) km308 k308_1 ?_)
      refine And.intro (h1.2 c2).1 ?_
      refine VL_norm km308 k308_3 (VL_at (al := []) (st := [vI (m1 292 (ix v1))]) km308 k308_3 ?_)
      exact (h1.2 c2).2
  · refine VL_norm km175 k175_1 (VL_at (al := [(0, vI v1), (2, vI ((m 283 21) - (n32 1)))]) (st := []) km175 k175_1 ?_)
    refine And.intro (fun c7 => ?_) (fun c7 => ?_)
    · refine VL_norm km175 k175_3 (VL_at (al := []) (st := []) km175 k175_3 ?_)
      refine VL_norm km175 k175_4 (VL_at (al := []) (st := [vI (n32 0)]) km175 k175_4 ?_)
      refine And.intro xrt20 ?_
      refine V_mono ((h.2 c8).1 c7) (fun u3 m3 h3 => ?_) (fun _ _ h => h)
      refine And.intro (fun c4 => ?_) (fun c4 => ?_)
      · refine VL_norm km308 k308_2 (VL_at (al := []) (st := []) km308 k308_2 ?_)
        refine VL_norm km308 k308_3 (VL_at (al := []) (st := [vI (n32 0)]) km308 k308_3 ?_)
        exact (h3.1 c4)
      · refine VL_norm km308 k308_1 (VL_at (al := [(0, vR 11 (283)), (1, vI v1)]) (st := []) km308 k308_1 ?_)
        refine And.intro (h3.2 c4).1 ?_
        refine VL_norm km308 k308_3 (VL_at (al := []) (st := [vI (m3 292 (ix v1))]) km308 k308_3 ?_)
        exact (h3.2 c4).2
    · refine VL_norm km175 k175_2 (VL_at (al := []) (st := []) km175 k175_2 ?_)
      refine VL_norm km175 k175_4 (VL_at (al := []) (st := [vI (n32 1)]) km175 k175_4 ?_)
      refine And.intro xrt21 ?_
      refine V_mono ((h.2 c8).2 c7) (fun u5 m5 h5 => ?_) (fun _ _ h => h)
      refine And.intro (fun c6 => ?_) (fun c6 => ?_)
      · refine VL_norm km308 k308_2 (VL_at (al := []) (st := []) km308 k308_2 ?_)
        refine VL_norm km308 k308_3 (VL_at (al := []) (st := [vI (n32 0)]) km308 k308_3 ?_)
        exact (h5.1 c6)
      · refine VL_norm km308 k308_1 (VL_at (al := [(0, vR 11 (283)), (1, vI v1)]) (st := []) km308 k308_1 ?_)
        refine And.intro (h5.2 c6).1 ?_
        refine VL_norm km308 k308_3 (VL_at (al := []) (st := [vI (m5 292 (ix v1))]) km308 k308_3 ?_)
        exact (h5.2 c6).2
/-- BannerParadeModel.remembers, label 0 -/
theorem w309_0 {D : Nat}  {m : XM} {Q : XM → Prop} {E : Nat → XM → Prop}
    (h : (((m 283 7) = (n32 8) → VLU (D + 1) 309 2 [(0, vR 11 (283)), (1, vI (n32 0))] [] m Q E) ∧ (¬ (m 283 7) = (n32 8) → VU D 178 [vR 200243 (284), vI (n32 0), vR 201944 (286), vI ((m 283 7) * (n32 243))] m (fun m1 => Q (um m1 (283) 7 ((m1 283 7) + (n32 1)))) E))) :
    VU (D + 1) 309 [vR 11 (283)] m Q E := by
  refine V_of (VL_at (al := [(0, vR 11 (283))]) (st := []) km309 k309_0 ?_)
  refine And.intro (fun c2 => ?_) (fun c2 => ?_)
  · refine VL_norm km309 k309_1 (VL_at (al := [(0, vR 11 (283))]) (st := []) km309 k309_1 ?_)
    exact VL_norm km309 k309_2 (h.1 c2)
  · refine VL_norm km309 k309_5 (VL_at (al := [(0, vR 11 (283))]) (st := []) km309 k309_5 ?_)
    refine V_mono (h.2 c2) (fun u1 m1 h1 => ?_) (fun _ _ h => h)
    exact h1
/-- BannerParadeModel.remembers, label 2 -/
theorem w309_2 {D : Nat} {v1 : Int32} {m : XM} {Q : XM → Prop} {E : Nat → XM → Prop}
    (h : (((n32 1701) ≤ v1 → VU D 178 [vR 200243 (284), vI (n32 0), vR 201944 (286), vI (((um m (283) 7 ((m 283 7) - (n32 1))) 283 7) * (n32 243))] (um m (283) 7 ((m 283 7) - (n32 1))) (fun m1 => Q (um m1 (283) 7 ((m1 283 7) + (n32 1)))) E) ∧ (¬ (n32 1701) ≤ v1 → (xin (v1 + (n32 243)) 1944 = true ∧ (xin v1 1944 = true ∧ VLU (D + 1) 309 2 [(0, vR 11 (283)), (1, vI (v1 + (n32 1)))] [] (um m (286) (ix v1) (m 286 (ix (v1 + (n32 243))))) Q E))))) :
    VLU (D + 1) 309 2 [(0, vR 11 (283)), (1, vI v1)] [] m Q E := by
  refine VL_at (al := [(0, vR 11 (283)), (1, vI v1)]) (st := []) km309 k309_2 ?_
  refine And.intro (fun c2 => ?_) (fun c2 => ?_)
  · refine VL_norm km309 k309_4 (VL_at (al := [(0, vR 11 (283))]) (st := []) km309 k309_4 ?_)
    refine VL_norm km309 k309_5 (VL_at (al := [(0, vR 11 (283))]) (st := []) km309 k309_5 ?_)
    refine V_mono (h.1 c2) (fun u1 m1 h1 => ?_) (fun _ _ h => h)
    exact h1
  · refine VL_norm km309 k309_3 (VL_at (al := [(0, vR 11 (283)), (1, vI v1)]) (st := []) km309 k309_3 ?_)
    refine And.intro (h.2 c2).1 ?_
    refine And.intro (h.2 c2).2.1 ?_
    exact VL_norm km309 k309_2 (h.2 c2).2.2
/-- BannerParadeModel.tick, label 0 -/
theorem w310_0 {D : Nat} {v1 : Int32} {m : XM} {Q : Int32 → XM → Prop} {E : Nat → XM → Prop}
    (h : ((v1 < (n32 1) → VI (D + 6) 177 [vR 11 (283), vI (m 283 6), vI (n32 0)] m (fun x1 m1 => ((x1 = (n32 0) → Q (n32 0) m1) ∧ (¬ x1 = (n32 0) → VU (D + 6) 309 [vR 11 (283)] m1 (fun m2 => VI (D + 6) 232 [vR 11 (283)] m2 (fun x3 m3 => VU (D + 6) 229 [vR 11 (283), vI v1] m3 (fun m4 => VI (D + 6) 232 [vR 11 (283)] m4 (fun x5 m5 => Q (x5 - x3) m5) E) E) E) E))) E) ∧ (¬ v1 < (n32 1) → (((n32 100) < v1 → VI (D + 6) 177 [vR 11 (283), vI (m 283 6), vI (n32 0)] m (fun x7 m7 => ((x7 = (n32 0) → Q (n32 0) m7) ∧ (¬ x7 = (n32 0) → VU (D + 6) 309 [vR 11 (283)] m7 (fun m8 => VI (D + 6) 232 [vR 11 (283)] m8 (fun x9 m9 => VU (D + 6) 229 [vR 11 (283), vI v1] m9 (fun m10 => VI (D + 6) 232 [vR 11 (283)] m10 (fun x11 m11 => Q (x11 - x9) m11) E) E) E) E))) E) ∧ (¬ (n32 100) < v1 → (((n32 5000) < ((m 284 (ix (n32 9))) + v1) → VI (D + 6) 177 [vR 11 (283), vI (m 283 6), vI (n32 0)] m (fun x13 m13 => ((x13 = (n32 0) → Q (n32 0) m13) ∧ (¬ x13 = (n32 0) → VU (D + 6) 309 [vR 11 (283)] m13 (fun m14 => VI (D + 6) 232 [vR 11 (283)] m14 (fun x15 m15 => VU (D + 6) 229 [vR 11 (283), vI v1] m15 (fun m16 => VI (D + 6) 232 [vR 11 (283)] m16 (fun x17 m17 => Q (x17 - x15) m17) E) E) E) E))) E) ∧ (¬ (n32 5000) < ((m 284 (ix (n32 9))) + v1) → VI (D + 6) 177 [vR 11 (283), vI (m 283 6), vI (n32 1)] m (fun x19 m19 => ((x19 = (n32 0) → Q (n32 0) m19) ∧ (¬ x19 = (n32 0) → VU (D + 6) 309 [vR 11 (283)] m19 (fun m20 => VI (D + 6) 232 [vR 11 (283)] m20 (fun x21 m21 => VU (D + 6) 229 [vR 11 (283), vI v1] m21 (fun m22 => VI (D + 6) 232 [vR 11 (283)] m22 (fun x23 m23 => Q (x23 - x21) m23) E) E) E) E))) E))))))) :
    VI (D + 7) 310 [vR 11 (283), vI v1] m Q E := by
  refine V_of (VL_at (al := [(0, vR 11 (283)), (1, vI v1)]) (st := []) km310 k310_0 ?_)
  refine V_of ?_
  refine VL_norm km175 k175_0 (VL_at (al := [(0, vI v1), (1, vI (n32 1)), (2, vI (n32 100))]) (st := []) km175 k175_0 ?_)
  refine And.intro (fun c27 => ?_) (fun c27 => ?_)
  · refine VL_norm km175 k175_3 (VL_at (al := []) (st := []) km175 k175_3 ?_)
    refine VL_norm km175 k175_4 (VL_at (al := []) (st := [vI (n32 0)]) km175 k175_4 ?_)
    refine And.intro xrt20 ?_
    refine And.intro (fun _ => ?_) (fun c => absurd (by decide) c)
    refine VL_norm km310 k310_3 (VL_at (al := [(0, vR 11 (283)), (1, vI v1)]) (st := [vI (m 283 6), vR 11 (283)]) km310 k310_3 ?_)
    refine VL_norm km310 k310_4 (VL_at (al := [(0, vR 11 (283)), (1, vI v1)]) (st := [vI (n32 0), vI (m 283 6), vR 11 (283)]) km310 k310_4 ?_)
    refine V_mono (h.1 c27) (fun u1 m1 h1 => ?_) (fun _ _ h => h)
    refine And.intro (fun c6 => ?_) (fun c6 => ?_)
    · refine VL_norm km310 k310_5 (VL_at (al := []) (st := []) km310 k310_5 ?_)
      exact (h1.1 c6)
    · refine VL_norm km310 k310_6 (VL_at (al := [(0, vR 11 (283)), (1, vI v1)]) (st := []) km310 k310_6 ?_)
      refine V_mono (h1.2 c6) (fun u2 m2 h2 => ?_) (fun _ _ h => h)
      refine V_mono h2 (fun u3 m3 h3 => ?_) (fun _ _ h => h)
      refine V_mono h3 (fun u4 m4 h4 => ?_) (fun _ _ h => h)
      refine V_mono h4 (fun u5 m5 h5 => ?_) (fun _ _ h => h)
      exact h5
  · refine VL_norm km175 k175_1 (VL_at (al := [(0, vI v1), (2, vI (n32 100))]) (st := []) km175 k175_1 ?_)
    refine And.intro (fun c26 => ?_) (fun c26 => ?_)
    · refine VL_norm km175 k175_3 (VL_at (al := []) (st := []) km175 k175_3 ?_)
      refine VL_norm km175 k175_4 (VL_at (al := []) (st := [vI (n32 0)]) km175 k175_4 ?_)
      refine And.intro xrt20 ?_
      refine And.intro (fun _ => ?_) (fun c => absurd (by decide) c)
      refine VL_norm km310 k310_3 (VL_at (al := [(0, vR 11 (283)), (1, vI v1)]) (st := [vI (m 283 6), vR 11 (283)]) km310 k310_3 ?_)
      refine VL_norm km310 k310_4 (VL_at (al := [(0, vR 11 (283)), (1, vI v1)]) (st := [vI (n32 0), vI (m 283 6), vR 11 (283)]) km310 k310_4 ?_)
      refine V_mono ((h.2 c27).1 c26) (fun u7 m7 h7 => ?_) (fun _ _ h => h)
      refine And.intro (fun c12 => ?_) (fun c12 => ?_)
      · refine VL_norm km310 k310_5 (VL_at (al := []) (st := []) km310 k310_5 ?_)
        exact (h7.1 c12)
      · refine VL_norm km310 k310_6 (VL_at (al := [(0, vR 11 (283)), (1, vI v1)]) (st := []) km310 k310_6 ?_)
        refine V_mono (h7.2 c12) (fun u8 m8 h8 => ?_) (fun _ _ h => h)
        refine V_mono h8 (fun u9 m9 h9 => ?_) (fun _ _ h => h)
        refine V_mono h9 (fun u10 m10 h10 => ?_) (fun _ _ h => h)
        refine V_mono h10 (fun u11 m11 h11 => ?_) (fun _ _ h => h)
        exact h11
    · refine VL_norm km175 k175_2 (VL_at (al := []) (st := []) km175 k175_2 ?_)
      refine VL_norm km175 k175_4 (VL_at (al := []) (st := [vI (n32 1)]) km175 k175_4 ?_)
      refine And.intro xrt21 ?_
      refine And.intro (fun c => absurd c (by decide)) (fun _ => ?_)
      refine VL_norm km310 k310_1 (VL_at (al := [(0, vR 11 (283)), (1, vI v1)]) (st := [vI (m 283 6), vR 11 (283)]) km310 k310_1 ?_)
      refine And.intro (xin_k rfl) ?_
      refine And.intro (fun c25 => ?_) (fun c25 => ?_)
      · refine VL_norm km310 k310_3 (VL_at (al := [(0, vR 11 (283)), (1, vI v1)]) (st := [vI (m 283 6), vR 11 (283)]) km310 k310_3 ?_)
        refine VL_norm km310 k310_4 (VL_at (al := [(0, vR 11 (283)), (1, vI v1)]) (st := [vI (n32 0), vI (m 283 6), vR 11 (283)]) km310 k310_4 ?_)
        refine V_mono (((h.2 c27).2 c26).1 c25) (fun u13 m13 h13 => ?_) (fun _ _ h => h)
        refine And.intro (fun c18 => ?_) (fun c18 => ?_)
        · refine VL_norm km310 k310_5 (VL_at (al := []) (st := []) km310 k310_5 ?_)
          exact (h13.1 c18)
        · refine VL_norm km310 k310_6 (VL_at (al := [(0, vR 11 (283)), (1, vI v1)]) (st := []) km310 k310_6 ?_)
          refine V_mono (h13.2 c18) (fun u14 m14 h14 => ?_) (fun _ _ h => h)
          refine V_mono h14 (fun u15 m15 h15 => ?_) (fun _ _ h => h)
          refine V_mono h15 (fun u16 m16 h16 => ?_) (fun _ _ h => h)
          refine V_mono h16 (fun u17 m17 h17 => ?_) (fun _ _ h => h)
          exact h17
      · refine VL_norm km310 k310_2 (VL_at (al := [(0, vR 11 (283)), (1, vI v1)]) (st := [vI (m 283 6), vR 11 (283)]) km310 k310_2 ?_)
        refine VL_norm km310 k310_4 (VL_at (al := [(0, vR 11 (283)), (1, vI v1)]) (st := [vI (n32 1), vI (m 283 6), vR 11 (283)]) km310 k310_4 ?_)
        refine V_mono (((h.2 c27).2 c26).2 c25) (fun u19 m19 h19 => ?_) (fun _ _ h => h)
        refine And.intro (fun c24 => ?_) (fun c24 => ?_)
        · refine VL_norm km310 k310_5 (VL_at (al := []) (st := []) km310 k310_5 ?_)
          exact (h19.1 c24)
        · refine VL_norm km310 k310_6 (VL_at (al := [(0, vR 11 (283)), (1, vI v1)]) (st := []) km310 k310_6 ?_)
          refine V_mono (h19.2 c24) (fun u20 m20 h20 => ?_) (fun _ _ h => h)
          refine V_mono h20 (fun u21 m21 h21 => ?_) (fun _ _ h => h)
          refine V_mono h21 (fun u22 m22 h22 => ?_) (fun _ _ h => h)
          refine V_mono h22 (fun u23 m23 h23 => ?_) (fun _ _ h => h)
          exact h23
/-- BannerParadeModel.swap, label 0 -/
theorem w311_0 {D : Nat} {v1 : Int32} {m : XM} {Q : Int32 → XM → Prop} {E : Nat → XM → Prop}
    (h : (((m 283 6) = (n32 0) → VI (D + 2) 176 [vR 11 (283), vI (m 283 6), vI (n32 0), vI (n32 0)] m (fun x1 m1 => ((x1 = (n32 0) → Q (n32 0) m1) ∧ (¬ x1 = (n32 0) → VU (D + 2) 309 [vR 11 (283)] m1 (fun m2 => VU (D + 2) 218 [vR 11 (283), vI v1] m2 (fun m3 => (xin (((n32 15) + ((n32 7) * v1)) + (n32 0)) 243 = true ∧ Q (m3 284 (ix (((n32 15) + ((n32 7) * v1)) + (n32 0)))) m3)) E) E))) E) ∧ (¬ (m 283 6) = (n32 0) → ((v1 < (n32 0) → VI (D + 2) 176 [vR 11 (283), vI (m 283 6), vI (n32 0), vI (n32 0)] m (fun x5 m5 => ((x5 = (n32 0) → Q (n32 0) m5) ∧ (¬ x5 = (n32 0) → VU (D + 2) 309 [vR 11 (283)] m5 (fun m6 => VU (D + 2) 218 [vR 11 (283), vI v1] m6 (fun m7 => (xin (((n32 15) + ((n32 7) * v1)) + (n32 0)) 243 = true ∧ Q (m7 284 (ix (((n32 15) + ((n32 7) * v1)) + (n32 0)))) m7)) E) E))) E) ∧ (¬ v1 < (n32 0) → ((((m 284 (ix (n32 6))) - (n32 1)) < v1 → VI (D + 2) 176 [vR 11 (283), vI (m 283 6), vI (n32 0), vI (n32 0)] m (fun x9 m9 => ((x9 = (n32 0) → Q (n32 0) m9) ∧ (¬ x9 = (n32 0) → VU (D + 2) 309 [vR 11 (283)] m9 (fun m10 => VU (D + 2) 218 [vR 11 (283), vI v1] m10 (fun m11 => (xin (((n32 15) + ((n32 7) * v1)) + (n32 0)) 243 = true ∧ Q (m11 284 (ix (((n32 15) + ((n32 7) * v1)) + (n32 0)))) m11)) E) E))) E) ∧ (¬ ((m 284 (ix (n32 6))) - (n32 1)) < v1 → VI (D + 2) 216 [vR 11 (283), vI v1] m (fun x13 m13 => ((x13 = (n32 0) → VI (D + 2) 176 [vR 11 (283), vI (m 283 6), vI (n32 1), vI (n32 0)] m13 (fun x14 m14 => ((x14 = (n32 0) → Q (n32 0) m14) ∧ (¬ x14 = (n32 0) → VU (D + 2) 309 [vR 11 (283)] m14 (fun m15 => VU (D + 2) 218 [vR 11 (283), vI v1] m15 (fun m16 => (xin (((n32 15) + ((n32 7) * v1)) + (n32 0)) 243 = true ∧ Q (m16 284 (ix (((n32 15) + ((n32 7) * v1)) + (n32 0)))) m16)) E) E))) E) ∧ (¬ x13 = (n32 0) → VI (D + 2) 176 [vR 11 (283), vI (m 283 6), vI (n32 1), vI (n32 1)] m13 (fun x18 m18 => ((x18 = (n32 0) → Q (n32 0) m18) ∧ (¬ x18 = (n32 0) → VU (D + 2) 309 [vR 11 (283)] m18 (fun m19 => VU (D + 2) 218 [vR 11 (283), vI v1] m19 (fun m20 => (xin (((n32 15) + ((n32 7) * v1)) + (n32 0)) 243 = true ∧ Q (m20 284 (ix (((n32 15) + ((n32 7) * v1)) + (n32 0)))) m20)) E) E))) E))) E))))))) :
    VI (D + 3) 311 [vR 11 (283), vI v1] m Q E := by
  refine V_of (VL_at (al := [(0, vR 11 (283)), (1, vI v1)]) (st := []) km311 k311_0 ?_)
  refine And.intro (fun c25 => ?_) (fun c25 => ?_)
  · refine VL_norm km311 k311_3 (VL_at (al := [(0, vR 11 (283)), (1, vI v1)]) (st := []) km311 k311_3 ?_)
    refine VL_norm km311 k311_4 (VL_at (al := [(0, vR 11 (283)), (1, vI v1)]) (st := [vI (n32 0)]) km311 k311_4 ?_)
    refine And.intro (fun _ => ?_) (fun c => absurd (by decide) c)
    refine VL_norm km311 k311_7 (VL_at (al := [(0, vR 11 (283)), (1, vI v1)]) (st := [vI (n32 0), vI (m 283 6), vR 11 (283)]) km311 k311_7 ?_)
    refine VL_norm km311 k311_8 (VL_at (al := [(0, vR 11 (283)), (1, vI v1)]) (st := [vI (n32 0), vI (n32 0), vI (m 283 6), vR 11 (283)]) km311 k311_8 ?_)
    refine V_mono (h.1 c25) (fun u1 m1 h1 => ?_) (fun _ _ h => h)
    refine And.intro (fun c4 => ?_) (fun c4 => ?_)
    · refine VL_norm km311 k311_9 (VL_at (al := []) (st := []) km311 k311_9 ?_)
      exact (h1.1 c4)
    · refine VL_norm km311 k311_10 (VL_at (al := [(0, vR 11 (283)), (1, vI v1)]) (st := []) km311 k311_10 ?_)
      refine V_mono (h1.2 c4) (fun u2 m2 h2 => ?_) (fun _ _ h => h)
      refine V_mono h2 (fun u3 m3 h3 => ?_) (fun _ _ h => h)
      refine V_of ?_
      refine VL_norm km202 k202_0 (VL_at (al := [(0, vR 11 (283)), (1, vI v1), (2, vI (n32 0))]) (st := []) km202 k202_0 ?_)
      refine And.intro h3.1 ?_
      exact h3.2
  · refine VL_norm km311 k311_1 (VL_at (al := [(0, vR 11 (283)), (1, vI v1)]) (st := []) km311 k311_1 ?_)
    refine V_of ?_
    refine VL_norm km208 k208_0 (VL_at (al := [(0, vR 11 (283)), (1, vI v1)]) (st := []) km208 k208_0 ?_)
    refine And.intro (xin_k rfl) ?_
    refine V_of ?_
    refine VL_norm km175 k175_0 (VL_at (al := [(0, vI v1), (1, vI (n32 0)), (2, vI ((m 284 (ix (n32 6))) - (n32 1)))]) (st := []) km175 k175_0 ?_)
    refine And.intro (fun c24 => ?_) (fun c24 => ?_)
    · refine VL_norm km175 k175_3 (VL_at (al := []) (st := []) km175 k175_3 ?_)
      refine VL_norm km175 k175_4 (VL_at (al := []) (st := [vI (n32 0)]) km175 k175_4 ?_)
      refine And.intro xrt20 ?_
      refine And.intro xrt20 ?_
      refine And.intro (fun _ => ?_) (fun c => absurd (by decide) c)
      refine VL_norm km311 k311_3 (VL_at (al := [(0, vR 11 (283)), (1, vI v1)]) (st := []) km311 k311_3 ?_)
      refine VL_norm km311 k311_4 (VL_at (al := [(0, vR 11 (283)), (1, vI v1)]) (st := [vI (n32 0)]) km311 k311_4 ?_)
      refine And.intro (fun _ => ?_) (fun c => absurd (by decide) c)
      refine VL_norm km311 k311_7 (VL_at (al := [(0, vR 11 (283)), (1, vI v1)]) (st := [vI (n32 0), vI (m 283 6), vR 11 (283)]) km311 k311_7 ?_)
      refine VL_norm km311 k311_8 (VL_at (al := [(0, vR 11 (283)), (1, vI v1)]) (st := [vI (n32 0), vI (n32 0), vI (m 283 6), vR 11 (283)]) km311 k311_8 ?_)
      refine V_mono ((h.2 c25).1 c24) (fun u5 m5 h5 => ?_) (fun _ _ h => h)
      refine And.intro (fun c8 => ?_) (fun c8 => ?_)
      · refine VL_norm km311 k311_9 (VL_at (al := []) (st := []) km311 k311_9 ?_)
        exact (h5.1 c8)
      · refine VL_norm km311 k311_10 (VL_at (al := [(0, vR 11 (283)), (1, vI v1)]) (st := []) km311 k311_10 ?_)
        refine V_mono (h5.2 c8) (fun u6 m6 h6 => ?_) (fun _ _ h => h)
        refine V_mono h6 (fun u7 m7 h7 => ?_) (fun _ _ h => h)
        refine V_of ?_
        refine VL_norm km202 k202_0 (VL_at (al := [(0, vR 11 (283)), (1, vI v1), (2, vI (n32 0))]) (st := []) km202 k202_0 ?_)
        refine And.intro h7.1 ?_
        exact h7.2
    · refine VL_norm km175 k175_1 (VL_at (al := [(0, vI v1), (2, vI ((m 284 (ix (n32 6))) - (n32 1)))]) (st := []) km175 k175_1 ?_)
      refine And.intro (fun c23 => ?_) (fun c23 => ?_)
      · refine VL_norm km175 k175_3 (VL_at (al := []) (st := []) km175 k175_3 ?_)
        refine VL_norm km175 k175_4 (VL_at (al := []) (st := [vI (n32 0)]) km175 k175_4 ?_)
        refine And.intro xrt20 ?_
        refine And.intro xrt20 ?_
        refine And.intro (fun _ => ?_) (fun c => absurd (by decide) c)
        refine VL_norm km311 k311_3 (VL_at (al := [(0, vR 11 (283)), (1, vI v1)]) (st := []) km311 k311_3 ?_)
        refine VL_norm km311 k311_4 (VL_at (al := [(0, vR 11 (283)), (1, vI v1)]) (st := [vI (n32 0)]) km311 k311_4 ?_)
        refine And.intro (fun _ => ?_) (fun c => absurd (by decide) c)
        refine VL_norm km311 k311_7 (VL_at (al := [(0, vR 11 (283)), (1, vI v1)]) (st := [vI (n32 0), vI (m 283 6), vR 11 (283)]) km311 k311_7 ?_)
        refine VL_norm km311 k311_8 (VL_at (al := [(0, vR 11 (283)), (1, vI v1)]) (st := [vI (n32 0), vI (n32 0), vI (m 283 6), vR 11 (283)]) km311 k311_8 ?_)
        refine V_mono (((h.2 c25).2 c24).1 c23) (fun u9 m9 h9 => ?_) (fun _ _ h => h)
        refine And.intro (fun c12 => ?_) (fun c12 => ?_)
        · refine VL_norm km311 k311_9 (VL_at (al := []) (st := []) km311 k311_9 ?_)
          exact (h9.1 c12)
        · refine VL_norm km311 k311_10 (VL_at (al := [(0, vR 11 (283)), (1, vI v1)]) (st := []) km311 k311_10 ?_)
          refine V_mono (h9.2 c12) (fun u10 m10 h10 => ?_) (fun _ _ h => h)
          refine V_mono h10 (fun u11 m11 h11 => ?_) (fun _ _ h => h)
          refine V_of ?_
          refine VL_norm km202 k202_0 (VL_at (al := [(0, vR 11 (283)), (1, vI v1), (2, vI (n32 0))]) (st := []) km202 k202_0 ?_)
          refine And.intro h11.1 ?_
          exact h11.2
      · refine VL_norm km175 k175_2 (VL_at (al := []) (st := []) km175 k175_2 ?_)
        refine VL_norm km175 k175_4 (VL_at (al := []) (st := [vI (n32 1)]) km175 k175_4 ?_)
        refine And.intro xrt21 ?_
        refine And.intro xrt21 ?_
        refine And.intro (fun c => absurd c (by decide)) (fun _ => ?_)
        refine VL_norm km311 k311_2 (VL_at (al := [(0, vR 11 (283)), (1, vI v1)]) (st := []) km311 k311_2 ?_)
        refine VL_norm km311 k311_4 (VL_at (al := [(0, vR 11 (283)), (1, vI v1)]) (st := [vI (n32 1)]) km311 k311_4 ?_)
        refine And.intro (fun c => absurd c (by decide)) (fun _ => ?_)
        refine VL_norm km311 k311_5 (VL_at (al := [(0, vR 11 (283)), (1, vI v1)]) (st := [vI (n32 1), vI (m 283 6), vR 11 (283)]) km311 k311_5 ?_)
        refine V_mono (((h.2 c25).2 c24).2 c23) (fun u13 m13 h13 => ?_) (fun _ _ h => h)
        refine And.intro (fun c22 => ?_) (fun c22 => ?_)
        · refine VL_norm km311 k311_7 (VL_at (al := [(0, vR 11 (283)), (1, vI v1)]) (st := [vI (n32 1), vI (m 283 6), vR 11 (283)]) km311 k311_7 ?_)
          refine VL_norm km311 k311_8 (VL_at (al := [(0, vR 11 (283)), (1, vI v1)]) (st := [vI (n32 0), vI (n32 1), vI (m 283 6), vR 11 (283)]) km311 k311_8 ?_)
          refine V_mono (h13.1 c22) (fun u14 m14 h14 => ?_) (fun _ _ h => h)
          refine And.intro (fun c17 => ?_) (fun c17 => ?_)
          · refine VL_norm km311 k311_9 (VL_at (al := []) (st := []) km311 k311_9 ?_)
            exact (h14.1 c17)
          · refine VL_norm km311 k311_10 (VL_at (al := [(0, vR 11 (283)), (1, vI v1)]) (st := []) km311 k311_10 ?_)
            refine V_mono (h14.2 c17) (fun u15 m15 h15 => ?_) (fun _ _ h => h)
            refine V_mono h15 (fun u16 m16 h16 => ?_) (fun _ _ h => h)
            refine V_of ?_
            refine VL_norm km202 k202_0 (VL_at (al := [(0, vR 11 (283)), (1, vI v1), (2, vI (n32 0))]) (st := []) km202 k202_0 ?_)
            refine And.intro h16.1 ?_
            exact h16.2
        · refine VL_norm km311 k311_6 (VL_at (al := [(0, vR 11 (283)), (1, vI v1)]) (st := [vI (n32 1), vI (m 283 6), vR 11 (283)]) km311 k311_6 ?_)
          refine VL_norm km311 k311_8 (VL_at (al := [(0, vR 11 (283)), (1, vI v1)]) (st := [vI (n32 1), vI (n32 1), vI (m 283 6), vR 11 (283)]) km311 k311_8 ?_)
          refine V_mono (h13.2 c22) (fun u18 m18 h18 => ?_) (fun _ _ h => h)
          refine And.intro (fun c21 => ?_) (fun c21 => ?_)
          · refine VL_norm km311 k311_9 (VL_at (al := []) (st := []) km311 k311_9 ?_)
            exact (h18.1 c21)
          · refine VL_norm km311 k311_10 (VL_at (al := [(0, vR 11 (283)), (1, vI v1)]) (st := []) km311 k311_10 ?_)
            refine V_mono (h18.2 c21) (fun u19 m19 h19 => ?_) (fun _ _ h => h)
            refine V_mono h19 (fun u20 m20 h20 => ?_) (fun _ _ h => h)
            refine V_of ?_
            refine VL_norm km202 k202_0 (VL_at (al := [(0, vR 11 (283)), (1, vI v1), (2, vI (n32 0))]) (st := []) km202 k202_0 ?_)
            refine And.intro h20.1 ?_
            exact h20.2
/-- BannerParadeModel.drop, label 0 -/
theorem w312_0 {D : Nat} {v1 : Int32} {m : XM} {Q : Int32 → XM → Prop} {E : Nat → XM → Prop}
    (h : (((m 283 6) = (n32 0) → VI (D + 1) 176 [vR 11 (283), vI (m 283 6), vI (n32 0), vI (n32 0)] m (fun x1 m1 => ((x1 = (n32 0) → Q (n32 0) m1) ∧ (¬ x1 = (n32 0) → VU (D + 1) 309 [vR 11 (283)] m1 (fun m2 => VU (D + 1) 213 [vR 11 (283), vI v1] m2 (fun m3 => Q (m3 284 (ix (n32 10))) m3) E) E))) E) ∧ (¬ (m 283 6) = (n32 0) → ((v1 < (n32 0) → VI (D + 1) 176 [vR 11 (283), vI (m 283 6), vI (n32 0), vI (n32 0)] m (fun x5 m5 => ((x5 = (n32 0) → Q (n32 0) m5) ∧ (¬ x5 = (n32 0) → VU (D + 1) 309 [vR 11 (283)] m5 (fun m6 => VU (D + 1) 213 [vR 11 (283), vI v1] m6 (fun m7 => Q (m7 284 (ix (n32 10))) m7) E) E))) E) ∧ (¬ v1 < (n32 0) → ((((m 284 (ix (n32 6))) - (n32 1)) < v1 → VI (D + 1) 176 [vR 11 (283), vI (m 283 6), vI (n32 0), vI (n32 0)] m (fun x9 m9 => ((x9 = (n32 0) → Q (n32 0) m9) ∧ (¬ x9 = (n32 0) → VU (D + 1) 309 [vR 11 (283)] m9 (fun m10 => VU (D + 1) 213 [vR 11 (283), vI v1] m10 (fun m11 => Q (m11 284 (ix (n32 10))) m11) E) E))) E) ∧ (¬ ((m 284 (ix (n32 6))) - (n32 1)) < v1 → (xin (((n32 15) + ((n32 7) * v1)) + (n32 0)) 243 = true ∧ (((m 284 (ix (((n32 15) + ((n32 7) * v1)) + (n32 0)))) ≤ (n32 0) → VI (D + 1) 176 [vR 11 (283), vI (m 283 6), vI (n32 1), vI (n32 0)] m (fun x13 m13 => ((x13 = (n32 0) → Q (n32 0) m13) ∧ (¬ x13 = (n32 0) → VU (D + 1) 309 [vR 11 (283)] m13 (fun m14 => VU (D + 1) 213 [vR 11 (283), vI v1] m14 (fun m15 => Q (m15 284 (ix (n32 10))) m15) E) E))) E) ∧ (¬ (m 284 (ix (((n32 15) + ((n32 7) * v1)) + (n32 0)))) ≤ (n32 0) → VI (D + 1) 176 [vR 11 (283), vI (m 283 6), vI (n32 1), vI (n32 1)] m (fun x17 m17 => ((x17 = (n32 0) → Q (n32 0) m17) ∧ (¬ x17 = (n32 0) → VU (D + 1) 309 [vR 11 (283)] m17 (fun m18 => VU (D + 1) 213 [vR 11 (283), vI v1] m18 (fun m19 => Q (m19 284 (ix (n32 10))) m19) E) E))) E)))))))))) :
    VI (D + 2) 312 [vR 11 (283), vI v1] m Q E := by
  refine V_of (VL_at (al := [(0, vR 11 (283)), (1, vI v1)]) (st := []) km312 k312_0 ?_)
  refine And.intro (fun c24 => ?_) (fun c24 => ?_)
  · refine VL_norm km312 k312_3 (VL_at (al := [(0, vR 11 (283)), (1, vI v1)]) (st := []) km312 k312_3 ?_)
    refine VL_norm km312 k312_4 (VL_at (al := [(0, vR 11 (283)), (1, vI v1)]) (st := [vI (n32 0)]) km312 k312_4 ?_)
    refine And.intro (fun _ => ?_) (fun c => absurd (by decide) c)
    refine VL_norm km312 k312_7 (VL_at (al := [(0, vR 11 (283)), (1, vI v1)]) (st := [vI (n32 0), vI (m 283 6), vR 11 (283)]) km312 k312_7 ?_)
    refine VL_norm km312 k312_8 (VL_at (al := [(0, vR 11 (283)), (1, vI v1)]) (st := [vI (n32 0), vI (n32 0), vI (m 283 6), vR 11 (283)]) km312 k312_8 ?_)
    refine V_mono (h.1 c24) (fun u1 m1 h1 => ?_) (fun _ _ h => h)
    refine And.intro (fun c4 => ?_) (fun c4 => ?_)
    · refine VL_norm km312 k312_9 (VL_at (al := []) (st := []) km312 k312_9 ?_)
      exact (h1.1 c4)
    · refine VL_norm km312 k312_10 (VL_at (al := [(0, vR 11 (283)), (1, vI v1)]) (st := []) km312 k312_10 ?_)
      refine V_mono (h1.2 c4) (fun u2 m2 h2 => ?_) (fun _ _ h => h)
      refine V_mono h2 (fun u3 m3 h3 => ?_) (fun _ _ h => h)
      refine And.intro (xin_k rfl) ?_
      exact h3
  · refine VL_norm km312 k312_1 (VL_at (al := [(0, vR 11 (283)), (1, vI v1)]) (st := []) km312 k312_1 ?_)
    refine V_of ?_
    refine VL_norm km208 k208_0 (VL_at (al := [(0, vR 11 (283)), (1, vI v1)]) (st := []) km208 k208_0 ?_)
    refine And.intro (xin_k rfl) ?_
    refine V_of ?_
    refine VL_norm km175 k175_0 (VL_at (al := [(0, vI v1), (1, vI (n32 0)), (2, vI ((m 284 (ix (n32 6))) - (n32 1)))]) (st := []) km175 k175_0 ?_)
    refine And.intro (fun c23 => ?_) (fun c23 => ?_)
    · refine VL_norm km175 k175_3 (VL_at (al := []) (st := []) km175 k175_3 ?_)
      refine VL_norm km175 k175_4 (VL_at (al := []) (st := [vI (n32 0)]) km175 k175_4 ?_)
      refine And.intro xrt20 ?_
      refine And.intro xrt20 ?_
      refine And.intro (fun _ => ?_) (fun c => absurd (by decide) c)
      refine VL_norm km312 k312_3 (VL_at (al := [(0, vR 11 (283)), (1, vI v1)]) (st := []) km312 k312_3 ?_)
      refine VL_norm km312 k312_4 (VL_at (al := [(0, vR 11 (283)), (1, vI v1)]) (st := [vI (n32 0)]) km312 k312_4 ?_)
      refine And.intro (fun _ => ?_) (fun c => absurd (by decide) c)
      refine VL_norm km312 k312_7 (VL_at (al := [(0, vR 11 (283)), (1, vI v1)]) (st := [vI (n32 0), vI (m 283 6), vR 11 (283)]) km312 k312_7 ?_)
      refine VL_norm km312 k312_8 (VL_at (al := [(0, vR 11 (283)), (1, vI v1)]) (st := [vI (n32 0), vI (n32 0), vI (m 283 6), vR 11 (283)]) km312 k312_8 ?_)
      refine V_mono ((h.2 c24).1 c23) (fun u5 m5 h5 => ?_) (fun _ _ h => h)
      refine And.intro (fun c8 => ?_) (fun c8 => ?_)
      · refine VL_norm km312 k312_9 (VL_at (al := []) (st := []) km312 k312_9 ?_)
        exact (h5.1 c8)
      · refine VL_norm km312 k312_10 (VL_at (al := [(0, vR 11 (283)), (1, vI v1)]) (st := []) km312 k312_10 ?_)
        refine V_mono (h5.2 c8) (fun u6 m6 h6 => ?_) (fun _ _ h => h)
        refine V_mono h6 (fun u7 m7 h7 => ?_) (fun _ _ h => h)
        refine And.intro (xin_k rfl) ?_
        exact h7
    · refine VL_norm km175 k175_1 (VL_at (al := [(0, vI v1), (2, vI ((m 284 (ix (n32 6))) - (n32 1)))]) (st := []) km175 k175_1 ?_)
      refine And.intro (fun c22 => ?_) (fun c22 => ?_)
      · refine VL_norm km175 k175_3 (VL_at (al := []) (st := []) km175 k175_3 ?_)
        refine VL_norm km175 k175_4 (VL_at (al := []) (st := [vI (n32 0)]) km175 k175_4 ?_)
        refine And.intro xrt20 ?_
        refine And.intro xrt20 ?_
        refine And.intro (fun _ => ?_) (fun c => absurd (by decide) c)
        refine VL_norm km312 k312_3 (VL_at (al := [(0, vR 11 (283)), (1, vI v1)]) (st := []) km312 k312_3 ?_)
        refine VL_norm km312 k312_4 (VL_at (al := [(0, vR 11 (283)), (1, vI v1)]) (st := [vI (n32 0)]) km312 k312_4 ?_)
        refine And.intro (fun _ => ?_) (fun c => absurd (by decide) c)
        refine VL_norm km312 k312_7 (VL_at (al := [(0, vR 11 (283)), (1, vI v1)]) (st := [vI (n32 0), vI (m 283 6), vR 11 (283)]) km312 k312_7 ?_)
        refine VL_norm km312 k312_8 (VL_at (al := [(0, vR 11 (283)), (1, vI v1)]) (st := [vI (n32 0), vI (n32 0), vI (m 283 6), vR 11 (283)]) km312 k312_8 ?_)
        refine V_mono (((h.2 c24).2 c23).1 c22) (fun u9 m9 h9 => ?_) (fun _ _ h => h)
        refine And.intro (fun c12 => ?_) (fun c12 => ?_)
        · refine VL_norm km312 k312_9 (VL_at (al := []) (st := []) km312 k312_9 ?_)
          exact (h9.1 c12)
        · refine VL_norm km312 k312_10 (VL_at (al := [(0, vR 11 (283)), (1, vI v1)]) (st := []) km312 k312_10 ?_)
          refine V_mono (h9.2 c12) (fun u10 m10 h10 => ?_) (fun _ _ h => h)
          refine V_mono h10 (fun u11 m11 h11 => ?_) (fun _ _ h => h)
          refine And.intro (xin_k rfl) ?_
          exact h11
      · refine VL_norm km175 k175_2 (VL_at (al := []) (st := []) km175 k175_2 ?_)
        refine VL_norm km175 k175_4 (VL_at (al := []) (st := [vI (n32 1)]) km175 k175_4 ?_)
        refine And.intro xrt21 ?_
        refine And.intro xrt21 ?_
        refine And.intro (fun c => absurd c (by decide)) (fun _ => ?_)
        refine VL_norm km312 k312_2 (VL_at (al := [(0, vR 11 (283)), (1, vI v1)]) (st := []) km312 k312_2 ?_)
        refine VL_norm km312 k312_4 (VL_at (al := [(0, vR 11 (283)), (1, vI v1)]) (st := [vI (n32 1)]) km312 k312_4 ?_)
        refine And.intro (fun c => absurd c (by decide)) (fun _ => ?_)
        refine VL_norm km312 k312_5 (VL_at (al := [(0, vR 11 (283)), (1, vI v1)]) (st := [vI (n32 1), vI (m 283 6), vR 11 (283)]) km312 k312_5 ?_)
        refine V_of ?_
        refine VL_norm km202 k202_0 (VL_at (al := [(0, vR 11 (283)), (1, vI v1), (2, vI (n32 0))]) (st := []) km202 k202_0 ?_)
        refine And.intro (((h.2 c24).2 c23).2 c22).1 ?_
        refine And.intro (fun c21 => ?_) (fun c21 => ?_)
        · refine VL_norm km312 k312_7 (VL_at (al := [(0, vR 11 (283)), (1, vI v1)]) (st := [vI (n32 1), vI (m 283 6), vR 11 (283)]) km312 k312_7 ?_)
          refine VL_norm km312 k312_8 (VL_at (al := [(0, vR 11 (283)), (1, vI v1)]) (st := [vI (n32 0), vI (n32 1), vI (m 283 6), vR 11 (283)]) km312 k312_8 ?_)
          refine V_mono ((((h.2 c24).2 c23).2 c22).2.1 c21) (fun u13 m13 h13 => ?_) (fun _ _ h => h)
          refine And.intro (fun c16 => ?_) (fun c16 => ?_)
          · refine VL_norm km312 k312_9 (VL_at (al := []) (st := []) km312 k312_9 ?_)
            exact (h13.1 c16)
          · refine VL_norm km312 k312_10 (VL_at (al := [(0, vR 11 (283)), (1, vI v1)]) (st := []) km312 k312_10 ?_)
            refine V_mono (h13.2 c16) (fun u14 m14 h14 => ?_) (fun _ _ h => h)
            refine V_mono h14 (fun u15 m15 h15 => ?_) (fun _ _ h => h)
            refine And.intro (xin_k rfl) ?_
            exact h15
        · refine VL_norm km312 k312_6 (VL_at (al := [(0, vR 11 (283)), (1, vI v1)]) (st := [vI (n32 1), vI (m 283 6), vR 11 (283)]) km312 k312_6 ?_)
          refine VL_norm km312 k312_8 (VL_at (al := [(0, vR 11 (283)), (1, vI v1)]) (st := [vI (n32 1), vI (n32 1), vI (m 283 6), vR 11 (283)]) km312 k312_8 ?_)
          refine V_mono ((((h.2 c24).2 c23).2 c22).2.2 c21) (fun u17 m17 h17 => ?_) (fun _ _ h => h)
          refine And.intro (fun c20 => ?_) (fun c20 => ?_)
          · refine VL_norm km312 k312_9 (VL_at (al := []) (st := []) km312 k312_9 ?_)
            exact (h17.1 c20)
          · refine VL_norm km312 k312_10 (VL_at (al := [(0, vR 11 (283)), (1, vI v1)]) (st := []) km312 k312_10 ?_)
            refine V_mono (h17.2 c20) (fun u18 m18 h18 => ?_) (fun _ _ h => h)
            refine V_mono h18 (fun u19 m19 h19 => ?_) (fun _ _ h => h)
            refine And.intro (xin_k rfl) ?_
            exact h19
/-- BannerParadeModel.pick, label 0 -/
theorem w313_0 {D : Nat} {v1 : Int32} {m : XM} {Q : Int32 → XM → Prop} {E : Nat → XM → Prop}
    (h : (((m 283 6) = (n32 0) → VI (D + 1) 176 [vR 11 (283), vI (m 283 6), vI (n32 0), vI (n32 0)] m (fun x1 m1 => ((x1 = (n32 0) → Q (n32 0) m1) ∧ (¬ x1 = (n32 0) → VU (D + 1) 309 [vR 11 (283)] m1 (fun m2 => VU (D + 1) 214 [vR 11 (283), vI v1, vI (-(n32 1))] m2 (fun m3 => (xin (((n32 15) + ((n32 7) * v1)) + (n32 0)) 243 = true ∧ Q (m3 284 (ix (((n32 15) + ((n32 7) * v1)) + (n32 0)))) m3)) E) E))) E) ∧ (¬ (m 283 6) = (n32 0) → ((v1 < (n32 0) → VI (D + 1) 176 [vR 11 (283), vI (m 283 6), vI (n32 0), vI (n32 0)] m (fun x5 m5 => ((x5 = (n32 0) → Q (n32 0) m5) ∧ (¬ x5 = (n32 0) → VU (D + 1) 309 [vR 11 (283)] m5 (fun m6 => VU (D + 1) 214 [vR 11 (283), vI v1, vI (-(n32 1))] m6 (fun m7 => (xin (((n32 15) + ((n32 7) * v1)) + (n32 0)) 243 = true ∧ Q (m7 284 (ix (((n32 15) + ((n32 7) * v1)) + (n32 0)))) m7)) E) E))) E) ∧ (¬ v1 < (n32 0) → ((((m 284 (ix (n32 6))) - (n32 1)) < v1 → VI (D + 1) 176 [vR 11 (283), vI (m 283 6), vI (n32 0), vI (n32 0)] m (fun x9 m9 => ((x9 = (n32 0) → Q (n32 0) m9) ∧ (¬ x9 = (n32 0) → VU (D + 1) 309 [vR 11 (283)] m9 (fun m10 => VU (D + 1) 214 [vR 11 (283), vI v1, vI (-(n32 1))] m10 (fun m11 => (xin (((n32 15) + ((n32 7) * v1)) + (n32 0)) 243 = true ∧ Q (m11 284 (ix (((n32 15) + ((n32 7) * v1)) + (n32 0)))) m11)) E) E))) E) ∧ (¬ ((m 284 (ix (n32 6))) - (n32 1)) < v1 → (xin (((n32 15) + ((n32 7) * v1)) + (n32 1)) 243 = true ∧ VI (D + 1) 215 [vR 11 (283), vI (m 284 (ix (((n32 15) + ((n32 7) * v1)) + (n32 1)))), vI (m 284 (ix (((n32 15) + ((n32 7) * v1)) + (n32 1))))] m (fun x13 m13 => (xin (((n32 15) + ((n32 7) * v1)) + (n32 0)) 243 = true ∧ (((m13 284 (ix (((n32 15) + ((n32 7) * v1)) + (n32 0)))) = (n32 0) → (xin (((n32 15) + ((n32 7) * v1)) + (n32 4)) 243 = true ∧ (((m13 284 (ix (((n32 15) + ((n32 7) * v1)) + (n32 4)))) < (m13 284 (ix (n32 4))) → VI (D + 1) 176 [vR 11 (283), vI (m13 283 6), vI (n32 1), vI (n32 0)] m13 (fun x14 m14 => ((x14 = (n32 0) → Q (n32 0) m14) ∧ (¬ x14 = (n32 0) → VU (D + 1) 309 [vR 11 (283)] m14 (fun m15 => VU (D + 1) 214 [vR 11 (283), vI v1, vI x13] m15 (fun m16 => Q (m16 284 (ix (((n32 15) + ((n32 7) * v1)) + (n32 0)))) m16) E) E))) E) ∧ (¬ (m13 284 (ix (((n32 15) + ((n32 7) * v1)) + (n32 4)))) < (m13 284 (ix (n32 4))) → ((x13 = (-(n32 1)) → VI (D + 1) 176 [vR 11 (283), vI (m13 283 6), vI (n32 1), vI (n32 0)] m13 (fun x18 m18 => ((x18 = (n32 0) → Q (n32 0) m18) ∧ (¬ x18 = (n32 0) → VU (D + 1) 309 [vR 11 (283)] m18 (fun m19 => VU (D + 1) 214 [vR 11 (283), vI v1, vI x13] m19 (fun m20 => Q (m20 284 (ix (((n32 15) + ((n32 7) * v1)) + (n32 0)))) m20) E) E))) E) ∧ (¬ x13 = (-(n32 1)) → VI (D + 1) 176 [vR 11 (283), vI (m13 283 6), vI (n32 1), vI (n32 1)] m13 (fun x22 m22 => ((x22 = (n32 0) → Q (n32 0) m22) ∧ (¬ x22 = (n32 0) → VU (D + 1) 309 [vR 11 (283)] m22 (fun m23 => VU (D + 1) 214 [vR 11 (283), vI v1, vI x13] m23 (fun m24 => Q (m24 284 (ix (((n32 15) + ((n32 7) * v1)) + (n32 0)))) m24) E) E))) E)))))) ∧ (¬ (m13 284 (ix (((n32 15) + ((n32 7) * v1)) + (n32 0)))) = (n32 0) → VI (D + 1) 176 [vR 11 (283), vI (m13 283 6), vI (n32 1), vI (n32 0)] m13 (fun x28 m28 => ((x28 = (n32 0) → Q (n32 0) m28) ∧ (¬ x28 = (n32 0) → VU (D + 1) 309 [vR 11 (283)] m28 (fun m29 => VU (D + 1) 214 [vR 11 (283), vI v1, vI x13] m29 (fun m30 => Q (m30 284 (ix (((n32 15) + ((n32 7) * v1)) + (n32 0)))) m30) E) E))) E)))) E)))))))) :
    VI (D + 2) 313 [vR 11 (283), vI v1] m Q E := by
  refine V_of (VL_at (al := [(0, vR 11 (283)), (1, vI v1)]) (st := []) km313 k313_0 ?_)
  refine And.intro (fun c35 => ?_) (fun c35 => ?_)
  · refine VL_norm km313 k313_3 (VL_at (al := [(0, vR 11 (283)), (1, vI v1)]) (st := []) km313 k313_3 ?_)
    refine VL_norm km313 k313_4 (VL_at (al := [(0, vR 11 (283)), (1, vI v1)]) (st := [vI (n32 0)]) km313 k313_4 ?_)
    refine And.intro (fun _ => ?_) (fun c => absurd (by decide) c)
    refine VL_norm km313 k313_6 (VL_at (al := [(0, vR 11 (283)), (1, vI v1), (2, vI (n32 0))]) (st := []) km313 k313_6 ?_)
    refine VL_norm km313 k313_7 (VL_at (al := [(0, vR 11 (283)), (1, vI v1), (2, vI (n32 0))]) (st := [vI (-(n32 1))]) km313 k313_7 ?_)
    refine And.intro (fun _ => ?_) (fun c => absurd (by decide) c)
    refine VL_norm km313 k313_12 (VL_at (al := [(0, vR 11 (283)), (1, vI v1), (3, vI (-(n32 1)))]) (st := [vI (n32 0), vI (m 283 6), vR 11 (283)]) km313 k313_12 ?_)
    refine VL_norm km313 k313_13 (VL_at (al := [(0, vR 11 (283)), (1, vI v1), (3, vI (-(n32 1)))]) (st := [vI (n32 0), vI (n32 0), vI (m 283 6), vR 11 (283)]) km313 k313_13 ?_)
    refine V_mono (h.1 c35) (fun u1 m1 h1 => ?_) (fun _ _ h => h)
    refine And.intro (fun c4 => ?_) (fun c4 => ?_)
    · refine VL_norm km313 k313_14 (VL_at (al := []) (st := []) km313 k313_14 ?_)
      exact (h1.1 c4)
    · refine VL_norm km313 k313_15 (VL_at (al := [(0, vR 11 (283)), (1, vI v1), (3, vI (-(n32 1)))]) (st := []) km313 k313_15 ?_)
      refine V_mono (h1.2 c4) (fun u2 m2 h2 => ?_) (fun _ _ h => h)
      refine V_mono h2 (fun u3 m3 h3 => ?_) (fun _ _ h => h)
      refine V_of ?_
      refine VL_norm km202 k202_0 (VL_at (al := [(0, vR 11 (283)), (1, vI v1), (2, vI (n32 0))]) (st := []) km202 k202_0 ?_)
      refine And.intro h3.1 ?_
      exact h3.2
  · refine VL_norm km313 k313_1 (VL_at (al := [(0, vR 11 (283)), (1, vI v1)]) (st := []) km313 k313_1 ?_)
    refine V_of ?_
    refine VL_norm km208 k208_0 (VL_at (al := [(0, vR 11 (283)), (1, vI v1)]) (st := []) km208 k208_0 ?_)
    refine And.intro (xin_k rfl) ?_
    refine V_of ?_
    refine VL_norm km175 k175_0 (VL_at (al := [(0, vI v1), (1, vI (n32 0)), (2, vI ((m 284 (ix (n32 6))) - (n32 1)))]) (st := []) km175 k175_0 ?_)
    refine And.intro (fun c34 => ?_) (fun c34 => ?_)
    · refine VL_norm km175 k175_3 (VL_at (al := []) (st := []) km175 k175_3 ?_)
      refine VL_norm km175 k175_4 (VL_at (al := []) (st := [vI (n32 0)]) km175 k175_4 ?_)
      refine And.intro xrt20 ?_
      refine And.intro xrt20 ?_
      refine And.intro (fun _ => ?_) (fun c => absurd (by decide) c)
      refine VL_norm km313 k313_3 (VL_at (al := [(0, vR 11 (283)), (1, vI v1)]) (st := []) km313 k313_3 ?_)
      refine VL_norm km313 k313_4 (VL_at (al := [(0, vR 11 (283)), (1, vI v1)]) (st := [vI (n32 0)]) km313 k313_4 ?_)
      refine And.intro (fun _ => ?_) (fun c => absurd (by decide) c)
      refine VL_norm km313 k313_6 (VL_at (al := [(0, vR 11 (283)), (1, vI v1), (2, vI (n32 0))]) (st := []) km313 k313_6 ?_)
      refine VL_norm km313 k313_7 (VL_at (al := [(0, vR 11 (283)), (1, vI v1), (2, vI (n32 0))]) (st := [vI (-(n32 1))]) km313 k313_7 ?_)
      refine And.intro (fun _ => ?_) (fun c => absurd (by decide) c)
      refine VL_norm km313 k313_12 (VL_at (al := [(0, vR 11 (283)), (1, vI v1), (3, vI (-(n32 1)))]) (st := [vI (n32 0), vI (m 283 6), vR 11 (283)]) km313 k313_12 ?_)
      refine VL_norm km313 k313_13 (VL_at (al := [(0, vR 11 (283)), (1, vI v1), (3, vI (-(n32 1)))]) (st := [vI (n32 0), vI (n32 0), vI (m 283 6), vR 11 (283)]) km313 k313_13 ?_)
      refine V_mono ((h.2 c35).1 c34) (fun u5 m5 h5 => ?_) (fun _ _ h => h)
      refine And.intro (fun c8 => ?_) (fun c8 => ?_)
      · refine VL_norm km313 k313_14 (VL_at (al := []) (st := []) km313 k313_14 ?_)
        exact (h5.1 c8)
      · refine VL_norm km313 k313_15 (VL_at (al := [(0, vR 11 (283)), (1, vI v1), (3, vI (-(n32 1)))]) (st := []) km313 k313_15 ?_)
        refine V_mono (h5.2 c8) (fun u6 m6 h6 => ?_) (fun _ _ h => h)
        refine V_mono h6 (fun u7 m7 h7 => ?_) (fun _ _ h => h)
        refine V_of ?_
        refine VL_norm km202 k202_0 (VL_at (al := [(0, vR 11 (283)), (1, vI v1), (2, vI (n32 0))]) (st := []) km202 k202_0 ?_)
        refine And.intro h7.1 ?_
        exact h7.2
    · refine VL_norm km175 k175_1 (VL_at (al := [(0, vI v1), (2, vI ((m 284 (ix (n32 6))) - (n32 1)))]) (st := []) km175 k175_1 ?_)
      refine And.intro (fun c33 => ?_) (fun c33 => ?_)
      · refine VL_norm km175 k175_3 (VL_at (al := []) (st := []) km175 k175_3 ?_)
        refine VL_norm km175 k175_4 (VL_at (al := []) (st := [vI (n32 0)]) km175 k175_4 ?_)
        refine And.intro xrt20 ?_
        refine And.intro xrt20 ?_
        refine And.intro (fun _ => ?_) (fun c => absurd (by decide) c)
        refine VL_norm km313 k313_3 (VL_at (al := [(0, vR 11 (283)), (1, vI v1)]) (st := []) km313 k313_3 ?_)
        refine VL_norm km313 k313_4 (VL_at (al := [(0, vR 11 (283)), (1, vI v1)]) (st := [vI (n32 0)]) km313 k313_4 ?_)
        refine And.intro (fun _ => ?_) (fun c => absurd (by decide) c)
        refine VL_norm km313 k313_6 (VL_at (al := [(0, vR 11 (283)), (1, vI v1), (2, vI (n32 0))]) (st := []) km313 k313_6 ?_)
        refine VL_norm km313 k313_7 (VL_at (al := [(0, vR 11 (283)), (1, vI v1), (2, vI (n32 0))]) (st := [vI (-(n32 1))]) km313 k313_7 ?_)
        refine And.intro (fun _ => ?_) (fun c => absurd (by decide) c)
        refine VL_norm km313 k313_12 (VL_at (al := [(0, vR 11 (283)), (1, vI v1), (3, vI (-(n32 1)))]) (st := [vI (n32 0), vI (m 283 6), vR 11 (283)]) km313 k313_12 ?_)
        refine VL_norm km313 k313_13 (VL_at (al := [(0, vR 11 (283)), (1, vI v1), (3, vI (-(n32 1)))]) (st := [vI (n32 0), vI (n32 0), vI (m 283 6), vR 11 (283)]) km313 k313_13 ?_)
        refine V_mono (((h.2 c35).2 c34).1 c33) (fun u9 m9 h9 => ?_) (fun _ _ h => h)
        refine And.intro (fun c12 => ?_) (fun c12 => ?_)
        · refine VL_norm km313 k313_14 (VL_at (al := []) (st := []) km313 k313_14 ?_)
          exact (h9.1 c12)
        · refine VL_norm km313 k313_15 (VL_at (al := [(0, vR 11 (283)), (1, vI v1), (3, vI (-(n32 1)))]) (st := []) km313 k313_15 ?_)
          refine V_mono (h9.2 c12) (fun u10 m10 h10 => ?_) (fun _ _ h => h)
          refine V_mono h10 (fun u11 m11 h11 => ?_) (fun _ _ h => h)
          refine V_of ?_
          refine VL_norm km202 k202_0 (VL_at (al := [(0, vR 11 (283)), (1, vI v1), (2, vI (n32 0))]) (st := []) km202 k202_0 ?_)
          refine And.intro h11.1 ?_
          exact h11.2
      · refine VL_norm km175 k175_2 (VL_at (al := []) (st := []) km175 k175_2 ?_)
        refine VL_norm km175 k175_4 (VL_at (al := []) (st := [vI (n32 1)]) km175 k175_4 ?_)
        refine And.intro xrt21 ?_
        refine And.intro xrt21 ?_
        refine And.intro (fun c => absurd c (by decide)) (fun _ => ?_)
        refine VL_norm km313 k313_2 (VL_at (al := [(0, vR 11 (283)), (1, vI v1)]) (st := []) km313 k313_2 ?_)
        refine VL_norm km313 k313_4 (VL_at (al := [(0, vR 11 (283)), (1, vI v1)]) (st := [vI (n32 1)]) km313 k313_4 ?_)
        refine And.intro (fun c => absurd c (by decide)) (fun _ => ?_)
        refine VL_norm km313 k313_5 (VL_at (al := [(0, vR 11 (283)), (1, vI v1), (2, vI (n32 1))]) (st := []) km313 k313_5 ?_)
        refine V_of ?_
        refine VL_norm km202 k202_0 (VL_at (al := [(0, vR 11 (283)), (1, vI v1), (2, vI (n32 1))]) (st := []) km202 k202_0 ?_)
        refine And.intro (((h.2 c35).2 c34).2 c33).1 ?_
        refine V_of ?_
        refine VL_norm km202 k202_0 (VL_at (al := [(0, vR 11 (283)), (1, vI v1), (2, vI (n32 1))]) (st := []) km202 k202_0 ?_)
        refine And.intro (((h.2 c35).2 c34).2 c33).1 ?_
        refine V_mono (((h.2 c35).2 c34).2 c33).2 (fun u13 m13 h13 => ?_) (fun _ _ h => h)
        refine VL_norm km313 k313_7 (VL_at (al := [(0, vR 11 (283)), (1, vI v1), (2, vI (n32 1))]) (st := [vI (xti u13)]) km313 k313_7 ?_)
        refine And.intro (fun c => absurd c (by decide)) (fun _ => ?_)
        refine VL_norm km313 k313_8 (VL_at (al := [(0, vR 11 (283)), (1, vI v1), (3, vI (xti u13))]) (st := [vI (n32 1), vI (m13 283 6), vR 11 (283)]) km313 k313_8 ?_)
        refine V_of ?_
        refine VL_norm km202 k202_0 (VL_at (al := [(0, vR 11 (283)), (1, vI v1), (2, vI (n32 0))]) (st := []) km202 k202_0 ?_)
        refine And.intro h13.1 ?_
        refine And.intro (fun c32 => ?_) (fun c32 => ?_)
        · refine VL_norm km313 k313_9 (VL_at (al := [(0, vR 11 (283)), (1, vI v1), (3, vI (xti u13))]) (st := [vI (n32 1), vI (m13 283 6), vR 11 (283)]) km313 k313_9 ?_)
          refine V_of ?_
          refine VL_norm km202 k202_0 (VL_at (al := [(0, vR 11 (283)), (1, vI v1), (2, vI (n32 4))]) (st := []) km202 k202_0 ?_)
          refine And.intro (h13.2.1 c32).1 ?_
          refine And.intro (xin_k rfl) ?_
          refine And.intro (fun c27 => ?_) (fun c27 => ?_)
          · refine VL_norm km313 k313_12 (VL_at (al := [(0, vR 11 (283)), (1, vI v1), (3, vI (xti u13))]) (st := [vI (n32 1), vI (m13 283 6), vR 11 (283)]) km313 k313_12 ?_)
            refine VL_norm km313 k313_13 (VL_at (al := [(0, vR 11 (283)), (1, vI v1), (3, vI (xti u13))]) (st := [vI (n32 0), vI (n32 1), vI (m13 283 6), vR 11 (283)]) km313 k313_13 ?_)
            refine V_mono ((h13.2.1 c32).2.1 c27) (fun u14 m14 h14 => ?_) (fun _ _ h => h)
            refine And.intro (fun c17 => ?_) (fun c17 => ?_)
            · refine VL_norm km313 k313_14 (VL_at (al := []) (st := []) km313 k313_14 ?_)
              exact (h14.1 c17)
            · refine VL_norm km313 k313_15 (VL_at (al := [(0, vR 11 (283)), (1, vI v1), (3, vI (xti u13))]) (st := []) km313 k313_15 ?_)
              refine V_mono (h14.2 c17) (fun u15 m15 h15 => ?_) (fun _ _ h => h)
              refine V_mono h15 (fun u16 m16 h16 => ?_) (fun _ _ h => h)
              refine V_of ?_
              refine VL_norm km202 k202_0 (VL_at (al := [(0, vR 11 (283)), (1, vI v1), (2, vI (n32 0))]) (st := []) km202 k202_0 ?_)
              refine And.intro h13.1 ?_
              exact h16
          · refine VL_norm km313 k313_10 (VL_at (al := [(0, vR 11 (283)), (1, vI v1), (3, vI (xti u13))]) (st := [vI (n32 1), vI (m13 283 6), vR 11 (283)]) km313 k313_10 ?_)
            refine And.intro (fun c26 => ?_) (fun c26 => ?_)
            · refine VL_norm km313 k313_12 (VL_at (al := [(0, vR 11 (283)), (1, vI v1), (3, vI (xti u13))]) (st := [vI (n32 1), vI (m13 283 6), vR 11 (283)]) km313 k313_12 ?_)
              refine VL_norm km313 k313_13 (VL_at (al := [(0, vR 11 (283)), (1, vI v1), (3, vI (xti u13))]) (st := [vI (n32 0), vI (n32 1), vI (m13 283 6), vR 11 (283)]) km313 k313_13 ?_)
              refine V_mono (((h13.2.1 c32).2.2 c27).1 c26) (fun u18 m18 h18 => ?_) (fun _ _ h => h)
              refine And.intro (fun c21 => ?_) (fun c21 => ?_)
              · refine VL_norm km313 k313_14 (VL_at (al := []) (st := []) km313 k313_14 ?_)
                exact (h18.1 c21)
              · refine VL_norm km313 k313_15 (VL_at (al := [(0, vR 11 (283)), (1, vI v1), (3, vI (xti u13))]) (st := []) km313 k313_15 ?_)
                refine V_mono (h18.2 c21) (fun u19 m19 h19 => ?_) (fun _ _ h => h)
                refine V_mono h19 (fun u20 m20 h20 => ?_) (fun _ _ h => h)
                refine V_of ?_
                refine VL_norm km202 k202_0 (VL_at (al := [(0, vR 11 (283)), (1, vI v1), (2, vI (n32 0))]) (st := []) km202 k202_0 ?_)
                refine And.intro h13.1 ?_
                exact h20
            · refine VL_norm km313 k313_11 (VL_at (al := [(0, vR 11 (283)), (1, vI v1), (3, vI (xti u13))]) (st := [vI (n32 1), vI (m13 283 6), vR 11 (283)]) km313 k313_11 ?_)
              refine VL_norm km313 k313_13 (VL_at (al := [(0, vR 11 (283)), (1, vI v1), (3, vI (xti u13))]) (st := [vI (n32 1), vI (n32 1), vI (m13 283 6), vR 11 (283)]) km313 k313_13 ?_)
              refine V_mono (((h13.2.1 c32).2.2 c27).2 c26) (fun u22 m22 h22 => ?_) (fun _ _ h => h)
              refine And.intro (fun c25 => ?_) (fun c25 => ?_)
              · refine VL_norm km313 k313_14 (VL_at (al := []) (st := []) km313 k313_14 ?_)
                exact (h22.1 c25)
              · refine VL_norm km313 k313_15 (VL_at (al := [(0, vR 11 (283)), (1, vI v1), (3, vI (xti u13))]) (st := []) km313 k313_15 ?_)
                refine V_mono (h22.2 c25) (fun u23 m23 h23 => ?_) (fun _ _ h => h)
                refine V_mono h23 (fun u24 m24 h24 => ?_) (fun _ _ h => h)
                refine V_of ?_
                refine VL_norm km202 k202_0 (VL_at (al := [(0, vR 11 (283)), (1, vI v1), (2, vI (n32 0))]) (st := []) km202 k202_0 ?_)
                refine And.intro h13.1 ?_
                exact h24
        · refine VL_norm km313 k313_12 (VL_at (al := [(0, vR 11 (283)), (1, vI v1), (3, vI (xti u13))]) (st := [vI (n32 1), vI (m13 283 6), vR 11 (283)]) km313 k313_12 ?_)
          refine VL_norm km313 k313_13 (VL_at (al := [(0, vR 11 (283)), (1, vI v1), (3, vI (xti u13))]) (st := [vI (n32 0), vI (n32 1), vI (m13 283 6), vR 11 (283)]) km313 k313_13 ?_)
          refine V_mono (h13.2.2 c32) (fun u28 m28 h28 => ?_) (fun _ _ h => h)
          refine And.intro (fun c31 => ?_) (fun c31 => ?_)
          · refine VL_norm km313 k313_14 (VL_at (al := []) (st := []) km313 k313_14 ?_)
            exact (h28.1 c31)
          · refine VL_norm km313 k313_15 (VL_at (al := [(0, vR 11 (283)), (1, vI v1), (3, vI (xti u13))]) (st := []) km313 k313_15 ?_)
            refine V_mono (h28.2 c31) (fun u29 m29 h29 => ?_) (fun _ _ h => h)
            refine V_mono h29 (fun u30 m30 h30 => ?_) (fun _ _ h => h)
            refine V_of ?_
            refine VL_norm km202 k202_0 (VL_at (al := [(0, vR 11 (283)), (1, vI v1), (2, vI (n32 0))]) (st := []) km202 k202_0 ?_)
            refine And.intro h13.1 ?_
            exact h30
/-- BannerParadeModel.strengthen, label 0 -/
theorem w314_0 {D : Nat} {v1 : Int32} {v2 : Int32} {m : XM} {Q : Int32 → XM → Prop} {E : Nat → XM → Prop}
    (h : ((v2 < (-(n32 100)) → VI (D + 2) 243 [vR 11 (283), vI v1, vI (n32 0)] m (fun x1 m1 => ((x1 = (n32 0) → Q (n32 0) m1) ∧ (¬ x1 = (n32 0) → VU (D + 2) 309 [vR 11 (283)] m1 (fun m2 => VU (D + 2) 212 [vR 11 (283), vI v1, vI v2] m2 (fun m3 => (xin (((n32 15) + ((n32 7) * v1)) + (n32 4)) 243 = true ∧ Q (m3 284 (ix (((n32 15) + ((n32 7) * v1)) + (n32 4)))) m3)) E) E))) E) ∧ (¬ v2 < (-(n32 100)) → (((n32 100) < v2 → VI (D + 2) 243 [vR 11 (283), vI v1, vI (n32 0)] m (fun x5 m5 => ((x5 = (n32 0) → Q (n32 0) m5) ∧ (¬ x5 = (n32 0) → VU (D + 2) 309 [vR 11 (283)] m5 (fun m6 => VU (D + 2) 212 [vR 11 (283), vI v1, vI v2] m6 (fun m7 => (xin (((n32 15) + ((n32 7) * v1)) + (n32 4)) 243 = true ∧ Q (m7 284 (ix (((n32 15) + ((n32 7) * v1)) + (n32 4)))) m7)) E) E))) E) ∧ (¬ (n32 100) < v2 → VI (D + 2) 243 [vR 11 (283), vI v1, vI (n32 1)] m (fun x9 m9 => ((x9 = (n32 0) → Q (n32 0) m9) ∧ (¬ x9 = (n32 0) → VU (D + 2) 309 [vR 11 (283)] m9 (fun m10 => VU (D + 2) 212 [vR 11 (283), vI v1, vI v2] m10 (fun m11 => (xin (((n32 15) + ((n32 7) * v1)) + (n32 4)) 243 = true ∧ Q (m11 284 (ix (((n32 15) + ((n32 7) * v1)) + (n32 4)))) m11)) E) E))) E))))) :
    VI (D + 3) 314 [vR 11 (283), vI v1, vI v2] m Q E := by
  refine V_of (VL_at (al := [(0, vR 11 (283)), (1, vI v1), (2, vI v2)]) (st := []) km314 k314_0 ?_)
  refine V_of ?_
  refine VL_norm km175 k175_0 (VL_at (al := [(0, vI v2), (1, vI (-(n32 100))), (2, vI (n32 100))]) (st := []) km175 k175_0 ?_)
  refine And.intro (fun c14 => ?_) (fun c14 => ?_)
  · refine VL_norm km175 k175_3 (VL_at (al := []) (st := []) km175 k175_3 ?_)
    refine VL_norm km175 k175_4 (VL_at (al := []) (st := [vI (n32 0)]) km175 k175_4 ?_)
    refine And.intro xrt20 ?_
    refine V_mono (h.1 c14) (fun u1 m1 h1 => ?_) (fun _ _ h => h)
    refine And.intro (fun c4 => ?_) (fun c4 => ?_)
    · refine VL_norm km314 k314_1 (VL_at (al := []) (st := []) km314 k314_1 ?_)
      exact (h1.1 c4)
    · refine VL_norm km314 k314_2 (VL_at (al := [(0, vR 11 (283)), (1, vI v1), (2, vI v2)]) (st := []) km314 k314_2 ?_)
      refine V_mono (h1.2 c4) (fun u2 m2 h2 => ?_) (fun _ _ h => h)
      refine V_mono h2 (fun u3 m3 h3 => ?_) (fun _ _ h => h)
      refine V_of ?_
      refine VL_norm km202 k202_0 (VL_at (al := [(0, vR 11 (283)), (1, vI v1), (2, vI (n32 4))]) (st := []) km202 k202_0 ?_)
      refine And.intro h3.1 ?_
      exact h3.2
  · refine VL_norm km175 k175_1 (VL_at (al := [(0, vI v2), (2, vI (n32 100))]) (st := []) km175 k175_1 ?_)
    refine And.intro (fun c13 => ?_) (fun c13 => ?_)
    · refine VL_norm km175 k175_3 (VL_at (al := []) (st := []) km175 k175_3 ?_)
      refine VL_norm km175 k175_4 (VL_at (al := []) (st := [vI (n32 0)]) km175 k175_4 ?_)
      refine And.intro xrt20 ?_
      refine V_mono ((h.2 c14).1 c13) (fun u5 m5 h5 => ?_) (fun _ _ h => h)
      refine And.intro (fun c8 => ?_) (fun c8 => ?_)
      · refine VL_norm km314 k314_1 (VL_at (al := []) (st := []) km314 k314_1 ?_)
        exact (h5.1 c8)
      · refine VL_norm km314 k314_2 (VL_at (al := [(0, vR 11 (283)), (1, vI v1), (2, vI v2)]) (st := []) km314 k314_2 ?_)
        refine V_mono (h5.2 c8) (fun u6 m6 h6 => ?_) (fun _ _ h => h)
        refine V_mono h6 (fun u7 m7 h7 => ?_) (fun _ _ h => h)
        refine V_of ?_
        refine VL_norm km202 k202_0 (VL_at (al := [(0, vR 11 (283)), (1, vI v1), (2, vI (n32 4))]) (st := []) km202 k202_0 ?_)
        refine And.intro h7.1 ?_
        exact h7.2
    · refine VL_norm km175 k175_2 (VL_at (al := []) (st := []) km175 k175_2 ?_)
      refine VL_norm km175 k175_4 (VL_at (al := []) (st := [vI (n32 1)]) km175 k175_4 ?_)
      refine And.intro xrt21 ?_
      refine V_mono ((h.2 c14).2 c13) (fun u9 m9 h9 => ?_) (fun _ _ h => h)
      refine And.intro (fun c12 => ?_) (fun c12 => ?_)
      · refine VL_norm km314 k314_1 (VL_at (al := []) (st := []) km314 k314_1 ?_)
        exact (h9.1 c12)
      · refine VL_norm km314 k314_2 (VL_at (al := [(0, vR 11 (283)), (1, vI v1), (2, vI v2)]) (st := []) km314 k314_2 ?_)
        refine V_mono (h9.2 c12) (fun u10 m10 h10 => ?_) (fun _ _ h => h)
        refine V_mono h10 (fun u11 m11 h11 => ?_) (fun _ _ h => h)
        refine V_of ?_
        refine VL_norm km202 k202_0 (VL_at (al := [(0, vR 11 (283)), (1, vI v1), (2, vI (n32 4))]) (st := []) km202 k202_0 ?_)
        refine And.intro h11.1 ?_
        exact h11.2
/-- BannerParadeModel.rest, label 0 -/
theorem w315_0 {D : Nat} {v1 : Int32} {m : XM} {Q : Int32 → XM → Prop} {E : Nat → XM → Prop}
    (h : ((v1 < (n32 1) → VI (D + 1) 177 [vR 11 (283), vI (m 283 6), vI (n32 0)] m (fun x1 m1 => ((x1 = (n32 0) → Q (n32 0) m1) ∧ (¬ x1 = (n32 0) → VU (D + 1) 309 [vR 11 (283)] m1 (fun m2 => VLI (D + 2) 315 3 [(0, vR 11 (283)), (1, vI v1), (2, vI (n32 0)), (3, vI (n32 0))] [] m2 Q E) E))) E) ∧ (¬ v1 < (n32 1) → (((n32 100) < v1 → VI (D + 1) 177 [vR 11 (283), vI (m 283 6), vI (n32 0)] m (fun x4 m4 => ((x4 = (n32 0) → Q (n32 0) m4) ∧ (¬ x4 = (n32 0) → VU (D + 1) 309 [vR 11 (283)] m4 (fun m5 => VLI (D + 2) 315 3 [(0, vR 11 (283)), (1, vI v1), (2, vI (n32 0)), (3, vI (n32 0))] [] m5 Q E) E))) E) ∧ (¬ (n32 100) < v1 → VI (D + 1) 177 [vR 11 (283), vI (m 283 6), vI (n32 1)] m (fun x7 m7 => ((x7 = (n32 0) → Q (n32 0) m7) ∧ (¬ x7 = (n32 0) → VU (D + 1) 309 [vR 11 (283)] m7 (fun m8 => VLI (D + 2) 315 3 [(0, vR 11 (283)), (1, vI v1), (2, vI (n32 0)), (3, vI (n32 0))] [] m8 Q E) E))) E))))) :
    VI (D + 2) 315 [vR 11 (283), vI v1] m Q E := by
  refine V_of (VL_at (al := [(0, vR 11 (283)), (1, vI v1)]) (st := []) km315 k315_0 ?_)
  refine V_of ?_
  refine VL_norm km175 k175_0 (VL_at (al := [(0, vI v1), (1, vI (n32 1)), (2, vI (n32 100))]) (st := []) km175 k175_0 ?_)
  refine And.intro (fun c11 => ?_) (fun c11 => ?_)
  · refine VL_norm km175 k175_3 (VL_at (al := []) (st := []) km175 k175_3 ?_)
    refine VL_norm km175 k175_4 (VL_at (al := []) (st := [vI (n32 0)]) km175 k175_4 ?_)
    refine And.intro xrt20 ?_
    refine V_mono (h.1 c11) (fun u1 m1 h1 => ?_) (fun _ _ h => h)
    refine And.intro (fun c3 => ?_) (fun c3 => ?_)
    · refine VL_norm km315 k315_1 (VL_at (al := []) (st := []) km315 k315_1 ?_)
      exact (h1.1 c3)
    · refine VL_norm km315 k315_2 (VL_at (al := [(0, vR 11 (283)), (1, vI v1)]) (st := []) km315 k315_2 ?_)
      refine V_mono (h1.2 c3) (fun u2 m2 h2 => ?_) (fun _ _ h => h)
      exact VL_norm km315 k315_3 h2
  · refine VL_norm km175 k175_1 (VL_at (al := [(0, vI v1), (2, vI (n32 100))]) (st := []) km175 k175_1 ?_)
    refine And.intro (fun c10 => ?_) (fun c10 => ?_)
    · refine VL_norm km175 k175_3 (VL_at (al := []) (st := []) km175 k175_3 ?_)
      refine VL_norm km175 k175_4 (VL_at (al := []) (st := [vI (n32 0)]) km175 k175_4 ?_)
      refine And.intro xrt20 ?_
      refine V_mono ((h.2 c11).1 c10) (fun u4 m4 h4 => ?_) (fun _ _ h => h)
      refine And.intro (fun c6 => ?_) (fun c6 => ?_)
      · refine VL_norm km315 k315_1 (VL_at (al := []) (st := []) km315 k315_1 ?_)
        exact (h4.1 c6)
      · refine VL_norm km315 k315_2 (VL_at (al := [(0, vR 11 (283)), (1, vI v1)]) (st := []) km315 k315_2 ?_)
        refine V_mono (h4.2 c6) (fun u5 m5 h5 => ?_) (fun _ _ h => h)
        exact VL_norm km315 k315_3 h5
    · refine VL_norm km175 k175_2 (VL_at (al := []) (st := []) km175 k175_2 ?_)
      refine VL_norm km175 k175_4 (VL_at (al := []) (st := [vI (n32 1)]) km175 k175_4 ?_)
      refine And.intro xrt21 ?_
      refine V_mono ((h.2 c11).2 c10) (fun u7 m7 h7 => ?_) (fun _ _ h => h)
      refine And.intro (fun c9 => ?_) (fun c9 => ?_)
      · refine VL_norm km315 k315_1 (VL_at (al := []) (st := []) km315 k315_1 ?_)
        exact (h7.1 c9)
      · refine VL_norm km315 k315_2 (VL_at (al := [(0, vR 11 (283)), (1, vI v1)]) (st := []) km315 k315_2 ?_)
        refine V_mono (h7.2 c9) (fun u8 m8 h8 => ?_) (fun _ _ h => h)
        exact VL_norm km315 k315_3 h8
/-- BannerParadeModel.rest, label 3 -/
theorem w315_3 {D : Nat} {v1 : Int32} {v2 : Int32} {v3 : Int32} {m : XM} {Q : Int32 → XM → Prop} {E : Nat → XM → Prop}
    (h : (((m 284 (ix (n32 6))) ≤ v3 → Q v2 m) ∧ (¬ (m 284 (ix (n32 6))) ≤ v3 → VU (D + 1) 212 [vR 11 (283), vI v3, vI v1] m (fun m1 => (xin (((n32 15) + ((n32 7) * v3)) + (n32 4)) 243 = true ∧ VLI (D + 2) 315 3 [(0, vR 11 (283)), (1, vI v1), (2, vI (v2 + (m1 284 (ix (((n32 15) + ((n32 7) * v3)) + (n32 4)))))), (3, vI (v3 + (n32 1)))] [] m1 Q E)) E))) :
    VLI (D + 2) 315 3 [(0, vR 11 (283)), (1, vI v1), (2, vI v2), (3, vI v3)] [] m Q E := by
  refine VL_at (al := [(0, vR 11 (283)), (1, vI v1), (2, vI v2), (3, vI v3)]) (st := []) km315 k315_3 ?_
  refine And.intro (xin_k rfl) ?_
  refine And.intro (fun c2 => ?_) (fun c2 => ?_)
  · refine VL_norm km315 k315_5 (VL_at (al := [(2, vI v2)]) (st := []) km315 k315_5 ?_)
    exact (h.1 c2)
  · refine VL_norm km315 k315_4 (VL_at (al := [(0, vR 11 (283)), (1, vI v1), (2, vI v2), (3, vI v3)]) (st := []) km315 k315_4 ?_)
    refine V_mono (h.2 c2) (fun u1 m1 h1 => ?_) (fun _ _ h => h)
    refine V_of ?_
    refine VL_norm km202 k202_0 (VL_at (al := [(0, vR 11 (283)), (1, vI v3), (2, vI (n32 4))]) (st := []) km202 k202_0 ?_)
    refine And.intro h1.1 ?_
    exact VL_norm km315 k315_3 h1.2
/-- BannerParadeModel.setStep, label 0 -/
theorem w316_0 {D : Nat} {v1 : Int32} {v2 : Int32} {m : XM} {Q : Int32 → XM → Prop} {E : Nat → XM → Prop}
    (h : ((v2 < (n32 1) → VI (D + 2) 243 [vR 11 (283), vI v1, vI (n32 0)] m (fun x1 m1 => ((x1 = (n32 0) → Q (n32 0) m1) ∧ (¬ x1 = (n32 0) → VU (D + 2) 309 [vR 11 (283)] m1 (fun m2 => (xin (((n32 15) + ((n32 7) * v1)) + (n32 2)) 243 = true ∧ Q (m2 284 (ix (((n32 15) + ((n32 7) * v1)) + (n32 2)))) (um m2 (284) (ix (((n32 15) + ((n32 7) * v1)) + (n32 2))) v2))) E))) E) ∧ (¬ v2 < (n32 1) → (((n32 200) < v2 → VI (D + 2) 243 [vR 11 (283), vI v1, vI (n32 0)] m (fun x4 m4 => ((x4 = (n32 0) → Q (n32 0) m4) ∧ (¬ x4 = (n32 0) → VU (D + 2) 309 [vR 11 (283)] m4 (fun m5 => (xin (((n32 15) + ((n32 7) * v1)) + (n32 2)) 243 = true ∧ Q (m5 284 (ix (((n32 15) + ((n32 7) * v1)) + (n32 2)))) (um m5 (284) (ix (((n32 15) + ((n32 7) * v1)) + (n32 2))) v2))) E))) E) ∧ (¬ (n32 200) < v2 → VI (D + 2) 243 [vR 11 (283), vI v1, vI (n32 1)] m (fun x7 m7 => ((x7 = (n32 0) → Q (n32 0) m7) ∧ (¬ x7 = (n32 0) → VU (D + 2) 309 [vR 11 (283)] m7 (fun m8 => (xin (((n32 15) + ((n32 7) * v1)) + (n32 2)) 243 = true ∧ Q (m8 284 (ix (((n32 15) + ((n32 7) * v1)) + (n32 2)))) (um m8 (284) (ix (((n32 15) + ((n32 7) * v1)) + (n32 2))) v2))) E))) E))))) :
    VI (D + 3) 316 [vR 11 (283), vI v1, vI v2] m Q E := by
  refine V_of (VL_at (al := [(0, vR 11 (283)), (1, vI v1), (2, vI v2)]) (st := []) km316 k316_0 ?_)
  refine V_of ?_
  refine VL_norm km175 k175_0 (VL_at (al := [(0, vI v2), (1, vI (n32 1)), (2, vI (n32 200))]) (st := []) km175 k175_0 ?_)
  refine And.intro (fun c11 => ?_) (fun c11 => ?_)
  · refine VL_norm km175 k175_3 (VL_at (al := []) (st := []) km175 k175_3 ?_)
    refine VL_norm km175 k175_4 (VL_at (al := []) (st := [vI (n32 0)]) km175 k175_4 ?_)
    refine And.intro xrt20 ?_
    refine V_mono (h.1 c11) (fun u1 m1 h1 => ?_) (fun _ _ h => h)
    refine And.intro (fun c3 => ?_) (fun c3 => ?_)
    · refine VL_norm km316 k316_1 (VL_at (al := []) (st := []) km316 k316_1 ?_)
      exact (h1.1 c3)
    · refine VL_norm km316 k316_2 (VL_at (al := [(0, vR 11 (283)), (1, vI v1), (2, vI v2)]) (st := []) km316 k316_2 ?_)
      refine V_mono (h1.2 c3) (fun u2 m2 h2 => ?_) (fun _ _ h => h)
      refine V_of ?_
      refine VL_norm km202 k202_0 (VL_at (al := [(0, vR 11 (283)), (1, vI v1), (2, vI (n32 2))]) (st := []) km202 k202_0 ?_)
      refine And.intro h2.1 ?_
      refine V_of ?_
      refine VL_norm km203 k203_0 (VL_at (al := [(0, vR 11 (283)), (1, vI v1), (2, vI (n32 2)), (3, vI v2)]) (st := []) km203 k203_0 ?_)
      refine And.intro h2.1 ?_
      exact h2.2
  · refine VL_norm km175 k175_1 (VL_at (al := [(0, vI v2), (2, vI (n32 200))]) (st := []) km175 k175_1 ?_)
    refine And.intro (fun c10 => ?_) (fun c10 => ?_)
    · refine VL_norm km175 k175_3 (VL_at (al := []) (st := []) km175 k175_3 ?_)
      refine VL_norm km175 k175_4 (VL_at (al := []) (st := [vI (n32 0)]) km175 k175_4 ?_)
      refine And.intro xrt20 ?_
      refine V_mono ((h.2 c11).1 c10) (fun u4 m4 h4 => ?_) (fun _ _ h => h)
      refine And.intro (fun c6 => ?_) (fun c6 => ?_)
      · refine VL_norm km316 k316_1 (VL_at (al := []) (st := []) km316 k316_1 ?_)
        exact (h4.1 c6)
      · refine VL_norm km316 k316_2 (VL_at (al := [(0, vR 11 (283)), (1, vI v1), (2, vI v2)]) (st := []) km316 k316_2 ?_)
        refine V_mono (h4.2 c6) (fun u5 m5 h5 => ?_) (fun _ _ h => h)
        refine V_of ?_
        refine VL_norm km202 k202_0 (VL_at (al := [(0, vR 11 (283)), (1, vI v1), (2, vI (n32 2))]) (st := []) km202 k202_0 ?_)
        refine And.intro h5.1 ?_
        refine V_of ?_
        refine VL_norm km203 k203_0 (VL_at (al := [(0, vR 11 (283)), (1, vI v1), (2, vI (n32 2)), (3, vI v2)]) (st := []) km203 k203_0 ?_)
        refine And.intro h5.1 ?_
        exact h5.2
    · refine VL_norm km175 k175_2 (VL_at (al := []) (st := []) km175 k175_2 ?_)
      refine VL_norm km175 k175_4 (VL_at (al := []) (st := [vI (n32 1)]) km175 k175_4 ?_)
      refine And.intro xrt21 ?_
      refine V_mono ((h.2 c11).2 c10) (fun u7 m7 h7 => ?_) (fun _ _ h => h)
      refine And.intro (fun c9 => ?_) (fun c9 => ?_)
      · refine VL_norm km316 k316_1 (VL_at (al := []) (st := []) km316 k316_1 ?_)
        exact (h7.1 c9)
      · refine VL_norm km316 k316_2 (VL_at (al := [(0, vR 11 (283)), (1, vI v1), (2, vI v2)]) (st := []) km316 k316_2 ?_)
        refine V_mono (h7.2 c9) (fun u8 m8 h8 => ?_) (fun _ _ h => h)
        refine V_of ?_
        refine VL_norm km202 k202_0 (VL_at (al := [(0, vR 11 (283)), (1, vI v1), (2, vI (n32 2))]) (st := []) km202 k202_0 ?_)
        refine And.intro h8.1 ?_
        refine V_of ?_
        refine VL_norm km203 k203_0 (VL_at (al := [(0, vR 11 (283)), (1, vI v1), (2, vI (n32 2)), (3, vI v2)]) (st := []) km203 k203_0 ?_)
        refine And.intro h8.1 ?_
        exact h8.2
/-- BannerParadeModel.addPlan, label 0 -/
theorem w317_0 {D : Nat} {v1 : Int32} {v2 : Int32} {m : XM} {Q : Int32 → XM → Prop} {E : Nat → XM → Prop}
    (h : ((v1 ≤ (m 284 (ix (n32 9))) → VI (D + 2) 243 [vR 11 (283), vI v2, vI (n32 0)] m (fun x1 m1 => ((x1 = (n32 0) → Q (n32 0) m1) ∧ (¬ x1 = (n32 0) → VU (D + 2) 309 [vR 11 (283)] m1 (fun m2 => (xin ((n32 171) + ((n32 3) * (m2 284 (ix (n32 8))))) 243 = true ∧ (xin (((n32 171) + ((n32 3) * (m2 284 (ix (n32 8))))) + (n32 1)) 243 = true ∧ (xin (((n32 171) + ((n32 3) * (m2 284 (ix (n32 8))))) + (n32 2)) 243 = true ∧ (∀ μ3 : XM, μ3 = um (um (um m2 (284) (ix ((n32 171) + ((n32 3) * (m2 284 (ix (n32 8)))))) v1) (284) (ix (((n32 171) + ((n32 3) * (m2 284 (ix (n32 8))))) + (n32 1))) v2) (284) (ix (((n32 171) + ((n32 3) * (m2 284 (ix (n32 8))))) + (n32 2))) (n32 0) → Q (((um μ3 (284) (ix (n32 8)) ((μ3 284 (ix (n32 8))) + (n32 1))) 284 (ix (n32 8))) - (n32 1)) (um μ3 (284) (ix (n32 8)) ((μ3 284 (ix (n32 8))) + (n32 1)))))))) E))) E) ∧ (¬ v1 ≤ (m 284 (ix (n32 9))) → (((n32 5000) < v1 → VI (D + 2) 243 [vR 11 (283), vI v2, vI (n32 0)] m (fun x5 m5 => ((x5 = (n32 0) → Q (n32 0) m5) ∧ (¬ x5 = (n32 0) → VU (D + 2) 309 [vR 11 (283)] m5 (fun m6 => (xin ((n32 171) + ((n32 3) * (m6 284 (ix (n32 8))))) 243 = true ∧ (xin (((n32 171) + ((n32 3) * (m6 284 (ix (n32 8))))) + (n32 1)) 243 = true ∧ (xin (((n32 171) + ((n32 3) * (m6 284 (ix (n32 8))))) + (n32 2)) 243 = true ∧ (∀ μ7 : XM, μ7 = um (um (um m6 (284) (ix ((n32 171) + ((n32 3) * (m6 284 (ix (n32 8)))))) v1) (284) (ix (((n32 171) + ((n32 3) * (m6 284 (ix (n32 8))))) + (n32 1))) v2) (284) (ix (((n32 171) + ((n32 3) * (m6 284 (ix (n32 8))))) + (n32 2))) (n32 0) → Q (((um μ7 (284) (ix (n32 8)) ((μ7 284 (ix (n32 8))) + (n32 1))) 284 (ix (n32 8))) - (n32 1)) (um μ7 (284) (ix (n32 8)) ((μ7 284 (ix (n32 8))) + (n32 1)))))))) E))) E) ∧ (¬ (n32 5000) < v1 → ((((m 284 (ix (n32 6))) - (n32 1)) ≤ v2 → VI (D + 2) 243 [vR 11 (283), vI v2, vI (n32 0)] m (fun x9 m9 => ((x9 = (n32 0) → Q (n32 0) m9) ∧ (¬ x9 = (n32 0) → VU (D + 2) 309 [vR 11 (283)] m9 (fun m10 => (xin ((n32 171) + ((n32 3) * (m10 284 (ix (n32 8))))) 243 = true ∧ (xin (((n32 171) + ((n32 3) * (m10 284 (ix (n32 8))))) + (n32 1)) 243 = true ∧ (xin (((n32 171) + ((n32 3) * (m10 284 (ix (n32 8))))) + (n32 2)) 243 = true ∧ (∀ μ11 : XM, μ11 = um (um (um m10 (284) (ix ((n32 171) + ((n32 3) * (m10 284 (ix (n32 8)))))) v1) (284) (ix (((n32 171) + ((n32 3) * (m10 284 (ix (n32 8))))) + (n32 1))) v2) (284) (ix (((n32 171) + ((n32 3) * (m10 284 (ix (n32 8))))) + (n32 2))) (n32 0) → Q (((um μ11 (284) (ix (n32 8)) ((μ11 284 (ix (n32 8))) + (n32 1))) 284 (ix (n32 8))) - (n32 1)) (um μ11 (284) (ix (n32 8)) ((μ11 284 (ix (n32 8))) + (n32 1)))))))) E))) E) ∧ (¬ ((m 284 (ix (n32 6))) - (n32 1)) ≤ v2 → (((n32 12) ≤ (m 284 (ix (n32 8))) → VI (D + 2) 243 [vR 11 (283), vI v2, vI (n32 0)] m (fun x13 m13 => ((x13 = (n32 0) → Q (n32 0) m13) ∧ (¬ x13 = (n32 0) → VU (D + 2) 309 [vR 11 (283)] m13 (fun m14 => (xin ((n32 171) + ((n32 3) * (m14 284 (ix (n32 8))))) 243 = true ∧ (xin (((n32 171) + ((n32 3) * (m14 284 (ix (n32 8))))) + (n32 1)) 243 = true ∧ (xin (((n32 171) + ((n32 3) * (m14 284 (ix (n32 8))))) + (n32 2)) 243 = true ∧ (∀ μ15 : XM, μ15 = um (um (um m14 (284) (ix ((n32 171) + ((n32 3) * (m14 284 (ix (n32 8)))))) v1) (284) (ix (((n32 171) + ((n32 3) * (m14 284 (ix (n32 8))))) + (n32 1))) v2) (284) (ix (((n32 171) + ((n32 3) * (m14 284 (ix (n32 8))))) + (n32 2))) (n32 0) → Q (((um μ15 (284) (ix (n32 8)) ((μ15 284 (ix (n32 8))) + (n32 1))) 284 (ix (n32 8))) - (n32 1)) (um μ15 (284) (ix (n32 8)) ((μ15 284 (ix (n32 8))) + (n32 1)))))))) E))) E) ∧ (¬ (n32 12) ≤ (m 284 (ix (n32 8))) → VI (D + 2) 243 [vR 11 (283), vI v2, vI (n32 1)] m (fun x17 m17 => ((x17 = (n32 0) → Q (n32 0) m17) ∧ (¬ x17 = (n32 0) → VU (D + 2) 309 [vR 11 (283)] m17 (fun m18 => (xin ((n32 171) + ((n32 3) * (m18 284 (ix (n32 8))))) 243 = true ∧ (xin (((n32 171) + ((n32 3) * (m18 284 (ix (n32 8))))) + (n32 1)) 243 = true ∧ (xin (((n32 171) + ((n32 3) * (m18 284 (ix (n32 8))))) + (n32 2)) 243 = true ∧ (∀ μ19 : XM, μ19 = um (um (um m18 (284) (ix ((n32 171) + ((n32 3) * (m18 284 (ix (n32 8)))))) v1) (284) (ix (((n32 171) + ((n32 3) * (m18 284 (ix (n32 8))))) + (n32 1))) v2) (284) (ix (((n32 171) + ((n32 3) * (m18 284 (ix (n32 8))))) + (n32 2))) (n32 0) → Q (((um μ19 (284) (ix (n32 8)) ((μ19 284 (ix (n32 8))) + (n32 1))) 284 (ix (n32 8))) - (n32 1)) (um μ19 (284) (ix (n32 8)) ((μ19 284 (ix (n32 8))) + (n32 1)))))))) E))) E))))))))) :
    VI (D + 3) 317 [vR 11 (283), vI v1, vI v2] m Q E := by
  refine V_of (VL_at (al := [(0, vR 11 (283)), (1, vI v1), (2, vI v2)]) (st := []) km317 k317_0 ?_)
  refine And.intro (xin_k rfl) ?_
  refine And.intro (fun c24 => ?_) (fun c24 => ?_)
  · refine VL_norm km317 k317_5 (VL_at (al := [(0, vR 11 (283)), (1, vI v1), (2, vI v2)]) (st := [vI v2, vR 11 (283)]) km317 k317_5 ?_)
    refine VL_norm km317 k317_6 (VL_at (al := [(0, vR 11 (283)), (1, vI v1), (2, vI v2)]) (st := [vI (n32 0), vI v2, vR 11 (283)]) km317 k317_6 ?_)
    refine V_mono (h.1 c24) (fun u1 m1 h1 => ?_) (fun _ _ h => h)
    refine And.intro (fun c4 => ?_) (fun c4 => ?_)
    · refine VL_norm km317 k317_7 (VL_at (al := []) (st := []) km317 k317_7 ?_)
      exact (h1.1 c4)
    · refine VL_norm km317 k317_8 (VL_at (al := [(0, vR 11 (283)), (1, vI v1), (2, vI v2)]) (st := []) km317 k317_8 ?_)
      refine V_mono (h1.2 c4) (fun u2 m2 h2 => ?_) (fun _ _ h => h)
      refine V_of ?_
      refine VL_norm km199 k199_0 (VL_at (al := [(0, vR 11 (283)), (1, vI v1), (2, vI v2)]) (st := []) km199 k199_0 ?_)
      refine And.intro (xin_k rfl) ?_
      refine And.intro h2.1 ?_
      refine And.intro h2.2.1 ?_
      refine And.intro h2.2.2.1 ?_
      refine And.intro (xin_k rfl) ?_
      refine And.intro (xin_k rfl) ?_
      refine And.intro (xin_k rfl) ?_
      exact (h2.2.2.2 (um (um (um m2 (284) (ix ((n32 171) + ((n32 3) * (m2 284 (ix (n32 8)))))) v1) (284) (ix (((n32 171) + ((n32 3) * (m2 284 (ix (n32 8))))) + (n32 1))) v2) (284) (ix (((n32 171) + ((n32 3) * (m2 284 (ix (n32 8))))) + (n32 2))) (n32 0)) rfl)
  · refine VL_norm km317 k317_1 (VL_at (al := [(0, vR 11 (283)), (1, vI v1), (2, vI v2)]) (st := [vI v2, vR 11 (283)]) km317 k317_1 ?_)
    refine And.intro (fun c23 => ?_) (fun c23 => ?_)
    · refine VL_norm km317 k317_5 (VL_at (al := [(0, vR 11 (283)), (1, vI v1), (2, vI v2)]) (st := [vI v2, vR 11 (283)]) km317 k317_5 ?_)
      refine VL_norm km317 k317_6 (VL_at (al := [(0, vR 11 (283)), (1, vI v1), (2, vI v2)]) (st := [vI (n32 0), vI v2, vR 11 (283)]) km317 k317_6 ?_)
      refine V_mono ((h.2 c24).1 c23) (fun u5 m5 h5 => ?_) (fun _ _ h => h)
      refine And.intro (fun c8 => ?_) (fun c8 => ?_)
      · refine VL_norm km317 k317_7 (VL_at (al := []) (st := []) km317 k317_7 ?_)
        exact (h5.1 c8)
      · refine VL_norm km317 k317_8 (VL_at (al := [(0, vR 11 (283)), (1, vI v1), (2, vI v2)]) (st := []) km317 k317_8 ?_)
        refine V_mono (h5.2 c8) (fun u6 m6 h6 => ?_) (fun _ _ h => h)
        refine V_of ?_
        refine VL_norm km199 k199_0 (VL_at (al := [(0, vR 11 (283)), (1, vI v1), (2, vI v2)]) (st := []) km199 k199_0 ?_)
        refine And.intro (xin_k rfl) ?_
        refine And.intro h6.1 ?_
        refine And.intro h6.2.1 ?_
        refine And.intro h6.2.2.1 ?_
        refine And.intro (xin_k rfl) ?_
        refine And.intro (xin_k rfl) ?_
        refine And.intro (xin_k rfl) ?_
        exact (h6.2.2.2 (um (um (um m6 (284) (ix ((n32 171) + ((n32 3) * (m6 284 (ix (n32 8)))))) v1) (284) (ix (((n32 171) + ((n32 3) * (m6 284 (ix (n32 8))))) + (n32 1))) v2) (284) (ix (((n32 171) + ((n32 3) * (m6 284 (ix (n32 8))))) + (n32 2))) (n32 0)) rfl)
    · refine VL_norm km317 k317_2 (VL_at (al := [(0, vR 11 (283)), (1, vI v1), (2, vI v2)]) (st := [vI v2, vR 11 (283)]) km317 k317_2 ?_)
      refine And.intro (xin_k rfl) ?_
      refine And.intro (fun c22 => ?_) (fun c22 => ?_)
      · refine VL_norm km317 k317_5 (VL_at (al := [(0, vR 11 (283)), (1, vI v1), (2, vI v2)]) (st := [vI v2, vR 11 (283)]) km317 k317_5 ?_)
        refine VL_norm km317 k317_6 (VL_at (al := [(0, vR 11 (283)), (1, vI v1), (2, vI v2)]) (st := [vI (n32 0), vI v2, vR 11 (283)]) km317 k317_6 ?_)
        refine V_mono (((h.2 c24).2 c23).1 c22) (fun u9 m9 h9 => ?_) (fun _ _ h => h)
        refine And.intro (fun c12 => ?_) (fun c12 => ?_)
        · refine VL_norm km317 k317_7 (VL_at (al := []) (st := []) km317 k317_7 ?_)
          exact (h9.1 c12)
        · refine VL_norm km317 k317_8 (VL_at (al := [(0, vR 11 (283)), (1, vI v1), (2, vI v2)]) (st := []) km317 k317_8 ?_)
          refine V_mono (h9.2 c12) (fun u10 m10 h10 => ?_) (fun _ _ h => h)
          refine V_of ?_
          refine VL_norm km199 k199_0 (VL_at (al := [(0, vR 11 (283)), (1, vI v1), (2, vI v2)]) (st := []) km199 k199_0 ?_)
          refine And.intro (xin_k rfl) ?_
          refine And.intro h10.1 ?_
          refine And.intro h10.2.1 ?_
          refine And.intro h10.2.2.1 ?_
          refine And.intro (xin_k rfl) ?_
          refine And.intro (xin_k rfl) ?_
          refine And.intro (xin_k rfl) ?_
          exact (h10.2.2.2 (um (um (um m10 (284) (ix ((n32 171) + ((n32 3) * (m10 284 (ix (n32 8)))))) v1) (284) (ix (((n32 171) + ((n32 3) * (m10 284 (ix (n32 8))))) + (n32 1))) v2) (284) (ix (((n32 171) + ((n32 3) * (m10 284 (ix (n32 8))))) + (n32 2))) (n32 0)) rfl)
      · refine VL_norm km317 k317_3 (VL_at (al := [(0, vR 11 (283)), (1, vI v1), (2, vI v2)]) (st := [vI v2, vR 11 (283)]) km317 k317_3 ?_)
        refine And.intro (xin_k rfl) ?_
        refine And.intro (fun c21 => ?_) (fun c21 => ?_)
        · refine VL_norm km317 k317_5 (VL_at (al := [(0, vR 11 (283)), (1, vI v1), (2, vI v2)]) (st := [vI v2, vR 11 (283)]) km317 k317_5 ?_)
          refine VL_norm km317 k317_6 (VL_at (al := [(0, vR 11 (283)), (1, vI v1), (2, vI v2)]) (st := [vI (n32 0), vI v2, vR 11 (283)]) km317 k317_6 ?_)
          refine V_mono ((((h.2 c24).2 c23).2 c22).1 c21) (fun u13 m13 h13 => ?_) (fun _ _ h => h)
          refine And.intro (fun c16 => ?_) (fun c16 => ?_)
          · refine VL_norm km317 k317_7 (VL_at (al := []) (st := []) km317 k317_7 ?_)
            exact (h13.1 c16)
          · refine VL_norm km317 k317_8 (VL_at (al := [(0, vR 11 (283)), (1, vI v1), (2, vI v2)]) (st := []) km317 k317_8 ?_)
            refine V_mono (h13.2 c16) (fun u14 m14 h14 => ?_) (fun _ _ h => h)
            refine V_of ?_
            refine VL_norm km199 k199_0 (VL_at (al := [(0, vR 11 (283)), (1, vI v1), (2, vI v2)]) (st := []) km199 k199_0 ?_)
            refine And.intro (xin_k rfl) ?_
            refine And.intro h14.1 ?_
            refine And.intro h14.2.1 ?_
            refine And.intro h14.2.2.1 ?_
            refine And.intro (xin_k rfl) ?_
            refine And.intro (xin_k rfl) ?_
            refine And.intro (xin_k rfl) ?_
            exact (h14.2.2.2 (um (um (um m14 (284) (ix ((n32 171) + ((n32 3) * (m14 284 (ix (n32 8)))))) v1) (284) (ix (((n32 171) + ((n32 3) * (m14 284 (ix (n32 8))))) + (n32 1))) v2) (284) (ix (((n32 171) + ((n32 3) * (m14 284 (ix (n32 8))))) + (n32 2))) (n32 0)) rfl)
        · refine VL_norm km317 k317_4 (VL_at (al := [(0, vR 11 (283)), (1, vI v1), (2, vI v2)]) (st := [vI v2, vR 11 (283)]) km317 k317_4 ?_)
          refine VL_norm km317 k317_6 (VL_at (al := [(0, vR 11 (283)), (1, vI v1), (2, vI v2)]) (st := [vI (n32 1), vI v2, vR 11 (283)]) km317 k317_6 ?_)
          refine V_mono ((((h.2 c24).2 c23).2 c22).2 c21) (fun u17 m17 h17 => ?_) (fun _ _ h => h)
          refine And.intro (fun c20 => ?_) (fun c20 => ?_)
          · refine VL_norm km317 k317_7 (VL_at (al := []) (st := []) km317 k317_7 ?_)
            exact (h17.1 c20)
          · refine VL_norm km317 k317_8 (VL_at (al := [(0, vR 11 (283)), (1, vI v1), (2, vI v2)]) (st := []) km317 k317_8 ?_)
            refine V_mono (h17.2 c20) (fun u18 m18 h18 => ?_) (fun _ _ h => h)
            refine V_of ?_
            refine VL_norm km199 k199_0 (VL_at (al := [(0, vR 11 (283)), (1, vI v1), (2, vI v2)]) (st := []) km199 k199_0 ?_)
            refine And.intro (xin_k rfl) ?_
            refine And.intro h18.1 ?_
            refine And.intro h18.2.1 ?_
            refine And.intro h18.2.2.1 ?_
            refine And.intro (xin_k rfl) ?_
            refine And.intro (xin_k rfl) ?_
            refine And.intro (xin_k rfl) ?_
            exact (h18.2.2.2 (um (um (um m18 (284) (ix ((n32 171) + ((n32 3) * (m18 284 (ix (n32 8)))))) v1) (284) (ix (((n32 171) + ((n32 3) * (m18 284 (ix (n32 8))))) + (n32 1))) v2) (284) (ix (((n32 171) + ((n32 3) * (m18 284 (ix (n32 8))))) + (n32 2))) (n32 0)) rfl)
/-- BannerParadeModel.set, label 0 -/
theorem w318_0 {D : Nat} {v1 : Int32} {v2 : Int32} {m : XM} {Q : Int32 → XM → Prop} {E : Nat → XM → Prop}
    (h : ((v1 < (n32 0) → VI (D + 1) 177 [vR 11 (283), vI (m 283 6), vI (n32 0)] m (fun x1 m1 => ((x1 = (n32 0) → Q (n32 0) m1) ∧ (¬ x1 = (n32 0) → VU (D + 1) 309 [vR 11 (283)] m1 (fun m2 => (xin v1 243 = true ∧ Q (m2 284 (ix v1)) (um m2 (284) (ix v1) v2))) E))) E) ∧ (¬ v1 < (n32 0) → (((n32 5) < v1 → VI (D + 1) 177 [vR 11 (283), vI (m 283 6), vI (n32 0)] m (fun x4 m4 => ((x4 = (n32 0) → Q (n32 0) m4) ∧ (¬ x4 = (n32 0) → VU (D + 1) 309 [vR 11 (283)] m4 (fun m5 => (xin v1 243 = true ∧ Q (m5 284 (ix v1)) (um m5 (284) (ix v1) v2))) E))) E) ∧ (¬ (n32 5) < v1 → VI (D + 1) 192 [vI v1] m (fun x7 m7 => VI (D + 1) 193 [vI v1] m7 (fun x8 m8 => ((v2 < x7 → VI (D + 1) 177 [vR 11 (283), vI (m 283 6), vI (n32 0)] m8 (fun x9 m9 => ((x9 = (n32 0) → Q (n32 0) m9) ∧ (¬ x9 = (n32 0) → VU (D + 1) 309 [vR 11 (283)] m9 (fun m10 => (xin v1 243 = true ∧ Q (m10 284 (ix v1)) (um m10 (284) (ix v1) v2))) E))) E) ∧ (¬ v2 < x7 → ((x8 < v2 → VI (D + 1) 177 [vR 11 (283), vI (m 283 6), vI (n32 0)] m8 (fun x12 m12 => ((x12 = (n32 0) → Q (n32 0) m12) ∧ (¬ x12 = (n32 0) → VU (D + 1) 309 [vR 11 (283)] m12 (fun m13 => (xin v1 243 = true ∧ Q (m13 284 (ix v1)) (um m13 (284) (ix v1) v2))) E))) E) ∧ (¬ x8 < v2 → VI (D + 1) 177 [vR 11 (283), vI (m 283 6), vI (n32 1)] m8 (fun x15 m15 => ((x15 = (n32 0) → Q (n32 0) m15) ∧ (¬ x15 = (n32 0) → VU (D + 1) 309 [vR 11 (283)] m15 (fun m16 => (xin v1 243 = true ∧ Q (m16 284 (ix v1)) (um m16 (284) (ix v1) v2))) E))) E))))) E) E))))) :
    VI (D + 2) 318 [vR 11 (283), vI v1, vI v2] m Q E := by
  refine V_of (VL_at (al := [(0, vR 11 (283)), (1, vI v1), (2, vI v2)]) (st := []) km318 k318_0 ?_)
  refine V_of ?_
  refine VL_norm km175 k175_0 (VL_at (al := [(0, vI v1), (1, vI (n32 0)), (2, vI (n32 5))]) (st := []) km175 k175_0 ?_)
  refine And.intro (fun c21 => ?_) (fun c21 => ?_)
  · refine VL_norm km175 k175_3 (VL_at (al := []) (st := []) km175 k175_3 ?_)
    refine VL_norm km175 k175_4 (VL_at (al := []) (st := [vI (n32 0)]) km175 k175_4 ?_)
    refine And.intro xrt20 ?_
    refine And.intro (fun _ => ?_) (fun c => absurd (by decide) c)
    refine VL_norm km318 k318_3 (VL_at (al := [(0, vR 11 (283)), (1, vI v1), (2, vI v2)]) (st := [vI (m 283 6), vR 11 (283)]) km318 k318_3 ?_)
    refine VL_norm km318 k318_4 (VL_at (al := [(0, vR 11 (283)), (1, vI v1), (2, vI v2)]) (st := [vI (n32 0), vI (m 283 6), vR 11 (283)]) km318 k318_4 ?_)
    refine V_mono (h.1 c21) (fun u1 m1 h1 => ?_) (fun _ _ h => h)
    refine And.intro (fun c3 => ?_) (fun c3 => ?_)
    · refine VL_norm km318 k318_5 (VL_at (al := []) (st := []) km318 k318_5 ?_)
      exact (h1.1 c3)
    · refine VL_norm km318 k318_6 (VL_at (al := [(0, vR 11 (283)), (1, vI v1), (2, vI v2)]) (st := []) km318 k318_6 ?_)
      refine V_mono (h1.2 c3) (fun u2 m2 h2 => ?_) (fun _ _ h => h)
      refine And.intro h2.1 ?_
      refine And.intro h2.1 ?_
      exact h2.2
  · refine VL_norm km175 k175_1 (VL_at (al := [(0, vI v1), (2, vI (n32 5))]) (st := []) km175 k175_1 ?_)
    refine And.intro (fun c20 => ?_) (fun c20 => ?_)
    · refine VL_norm km175 k175_3 (VL_at (al := []) (st := []) km175 k175_3 ?_)
      refine VL_norm km175 k175_4 (VL_at (al := []) (st := [vI (n32 0)]) km175 k175_4 ?_)
      refine And.intro xrt20 ?_
      refine And.intro (fun _ => ?_) (fun c => absurd (by decide) c)
      refine VL_norm km318 k318_3 (VL_at (al := [(0, vR 11 (283)), (1, vI v1), (2, vI v2)]) (st := [vI (m 283 6), vR 11 (283)]) km318 k318_3 ?_)
      refine VL_norm km318 k318_4 (VL_at (al := [(0, vR 11 (283)), (1, vI v1), (2, vI v2)]) (st := [vI (n32 0), vI (m 283 6), vR 11 (283)]) km318 k318_4 ?_)
      refine V_mono ((h.2 c21).1 c20) (fun u4 m4 h4 => ?_) (fun _ _ h => h)
      refine And.intro (fun c6 => ?_) (fun c6 => ?_)
      · refine VL_norm km318 k318_5 (VL_at (al := []) (st := []) km318 k318_5 ?_)
        exact (h4.1 c6)
      · refine VL_norm km318 k318_6 (VL_at (al := [(0, vR 11 (283)), (1, vI v1), (2, vI v2)]) (st := []) km318 k318_6 ?_)
        refine V_mono (h4.2 c6) (fun u5 m5 h5 => ?_) (fun _ _ h => h)
        refine And.intro h5.1 ?_
        refine And.intro h5.1 ?_
        exact h5.2
    · refine VL_norm km175 k175_2 (VL_at (al := []) (st := []) km175 k175_2 ?_)
      refine VL_norm km175 k175_4 (VL_at (al := []) (st := [vI (n32 1)]) km175 k175_4 ?_)
      refine And.intro xrt21 ?_
      refine And.intro (fun c => absurd c (by decide)) (fun _ => ?_)
      refine VL_norm km318 k318_1 (VL_at (al := [(0, vR 11 (283)), (1, vI v1), (2, vI v2)]) (st := [vI (m 283 6), vR 11 (283)]) km318 k318_1 ?_)
      refine V_mono ((h.2 c21).2 c20) (fun u7 m7 h7 => ?_) (fun _ _ h => h)
      refine V_mono h7 (fun u8 m8 h8 => ?_) (fun _ _ h => h)
      refine V_of ?_
      refine VL_norm km175 k175_0 (VL_at (al := [(0, vI v2), (1, vI (xti u7)), (2, vI (xti u8))]) (st := []) km175 k175_0 ?_)
      refine And.intro (fun c19 => ?_) (fun c19 => ?_)
      · refine VL_norm km175 k175_3 (VL_at (al := []) (st := []) km175 k175_3 ?_)
        refine VL_norm km175 k175_4 (VL_at (al := []) (st := [vI (n32 0)]) km175 k175_4 ?_)
        refine And.intro xrt20 ?_
        refine And.intro (fun _ => ?_) (fun c => absurd (by decide) c)
        refine VL_norm km318 k318_3 (VL_at (al := [(0, vR 11 (283)), (1, vI v1), (2, vI v2)]) (st := [vI (m 283 6), vR 11 (283)]) km318 k318_3 ?_)
        refine VL_norm km318 k318_4 (VL_at (al := [(0, vR 11 (283)), (1, vI v1), (2, vI v2)]) (st := [vI (n32 0), vI (m 283 6), vR 11 (283)]) km318 k318_4 ?_)
        refine V_mono (h8.1 c19) (fun u9 m9 h9 => ?_) (fun _ _ h => h)
        refine And.intro (fun c11 => ?_) (fun c11 => ?_)
        · refine VL_norm km318 k318_5 (VL_at (al := []) (st := []) km318 k318_5 ?_)
          exact (h9.1 c11)
        · refine VL_norm km318 k318_6 (VL_at (al := [(0, vR 11 (283)), (1, vI v1), (2, vI v2)]) (st := []) km318 k318_6 ?_)
          refine V_mono (h9.2 c11) (fun u10 m10 h10 => ?_) (fun _ _ h => h)
          refine And.intro h10.1 ?_
          refine And.intro h10.1 ?_
          exact h10.2
      · refine VL_norm km175 k175_1 (VL_at (al := [(0, vI v2), (2, vI (xti u8))]) (st := []) km175 k175_1 ?_)
        refine And.intro (fun c18 => ?_) (fun c18 => ?_)
        · refine VL_norm km175 k175_3 (VL_at (al := []) (st := []) km175 k175_3 ?_)
          refine VL_norm km175 k175_4 (VL_at (al := []) (st := [vI (n32 0)]) km175 k175_4 ?_)
          refine And.intro xrt20 ?_
          refine And.intro (fun _ => ?_) (fun c => absurd (by decide) c)
          refine VL_norm km318 k318_3 (VL_at (al := [(0, vR 11 (283)), (1, vI v1), (2, vI v2)]) (st := [vI (m 283 6), vR 11 (283)]) km318 k318_3 ?_)
          refine VL_norm km318 k318_4 (VL_at (al := [(0, vR 11 (283)), (1, vI v1), (2, vI v2)]) (st := [vI (n32 0), vI (m 283 6), vR 11 (283)]) km318 k318_4 ?_)
          refine V_mono ((h8.2 c19).1 c18) (fun u12 m12 h12 => ?_) (fun _ _ h => h)
          refine And.intro (fun c14 => ?_) (fun c14 => ?_)
          · refine VL_norm km318 k318_5 (VL_at (al := []) (st := []) km318 k318_5 ?_)
            exact (h12.1 c14)
          · refine VL_norm km318 k318_6 (VL_at (al := [(0, vR 11 (283)), (1, vI v1), (2, vI v2)]) (st := []) km318 k318_6 ?_)
            refine V_mono (h12.2 c14) (fun u13 m13 h13 => ?_) (fun _ _ h => h)
            refine And.intro h13.1 ?_
            refine And.intro h13.1 ?_
            exact h13.2
        · refine VL_norm km175 k175_2 (VL_at (al := []) (st := []) km175 k175_2 ?_)
          refine VL_norm km175 k175_4 (VL_at (al := []) (st := [vI (n32 1)]) km175 k175_4 ?_)
          refine And.intro xrt21 ?_
          refine And.intro (fun c => absurd c (by decide)) (fun _ => ?_)
          refine VL_norm km318 k318_2 (VL_at (al := [(0, vR 11 (283)), (1, vI v1), (2, vI v2)]) (st := [vI (m 283 6), vR 11 (283)]) km318 k318_2 ?_)
          refine VL_norm km318 k318_4 (VL_at (al := [(0, vR 11 (283)), (1, vI v1), (2, vI v2)]) (st := [vI (n32 1), vI (m 283 6), vR 11 (283)]) km318 k318_4 ?_)
          refine V_mono ((h8.2 c19).2 c18) (fun u15 m15 h15 => ?_) (fun _ _ h => h)
          refine And.intro (fun c17 => ?_) (fun c17 => ?_)
          · refine VL_norm km318 k318_5 (VL_at (al := []) (st := []) km318 k318_5 ?_)
            exact (h15.1 c17)
          · refine VL_norm km318 k318_6 (VL_at (al := [(0, vR 11 (283)), (1, vI v1), (2, vI v2)]) (st := []) km318 k318_6 ?_)
            refine V_mono (h15.2 c17) (fun u16 m16 h16 => ?_) (fun _ _ h => h)
            refine And.intro h16.1 ?_
            refine And.intro h16.1 ?_
            exact h16.2
