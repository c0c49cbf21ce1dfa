/-! Verification conditions (written by program: wip/whole/mkw.py). -/
/-- BannerParade$Ground.copyFrom, label 0 -/
theorem w4_0 {D : Nat} {a0 : Nat} {a1 : Nat} {m : XM} {Q : XM → Prop} {E : Nat → XM → Prop}
    (h : VU D 172 [vR 200012 (a1 + 1), vR 200012 (a0 + 1)] (um m (a0) 0 (m a1 0)) (fun m1 => VU D 172 [vR 200012 (a1 + 2), vR 200012 (a0 + 2)] m1 (fun m2 => VU D 172 [vR 200012 (a1 + 3), vR 200012 (a0 + 3)] m2 (fun m3 => Q m3) E) E) E) :
    VU (D + 1) 4 [vR 1 (a0), vR 1 (a1)] m Q E := by
  refine V_of (VL_at (al := [(0, vR 1 (a0)), (1, vR 1 (a1))]) (st := []) km4 k4_0 ?_)
  refine V_mono h (fun u1 m1 h1 => ?_) (fun _ _ h => h)
  refine V_mono h1 (fun u2 m2 h2 => ?_) (fun _ _ h => h)
  refine V_mono h2 (fun u3 m3 h3 => ?_) (fun _ _ h => h)
  exact h3
/-- BannerParade$Ground.removeAt, label 0 -/
theorem w6_0 {D : Nat} {a0 : Nat} {v1 : Int32} {m : XM} {Q : XM → Prop} {E : Nat → XM → Prop}
    (h : ((v1 < (n32 0) → Q m) ∧ (¬ v1 < (n32 0) → ((v1 < (m a0 0) → VLU D 6 4 [(0, vR 1 (a0)), (2, vI v1)] [] m Q E) ∧ (¬ v1 < (m a0 0) → Q m))))) :
    VU D 6 [vR 1 (a0), vI v1] m Q E := by
  refine V_of (VL_at (al := [(0, vR 1 (a0)), (1, vI v1)]) (st := []) km6 k6_0 ?_)
  refine And.intro (fun c2 => ?_) (fun c2 => ?_)
  · refine VL_norm km6 k6_2 (VL_at (al := []) (st := []) km6 k6_2 ?_)
    exact (h.1 c2)
  · refine VL_norm km6 k6_1 (VL_at (al := [(0, vR 1 (a0)), (1, vI v1)]) (st := []) km6 k6_1 ?_)
    refine And.intro (fun c1 => ?_) (fun c1 => ?_)
    · refine VL_norm km6 k6_3 (VL_at (al := [(0, vR 1 (a0)), (1, vI v1)]) (st := []) km6 k6_3 ?_)
      exact VL_norm km6 k6_4 ((h.2 c2).1 c1)
    · refine VL_norm km6 k6_2 (VL_at (al := []) (st := []) km6 k6_2 ?_)
      exact ((h.2 c2).2 c1)
/-- BannerParade$Ground.removeAt, label 4 -/
theorem w6_4 {D : Nat} {a0 : Nat} {v2 : Int32} {m : XM} {Q : XM → Prop} {E : Nat → XM → Prop}
    (h : (((m a0 0) ≤ (v2 + (n32 1)) → Q (um m (a0) 0 ((m a0 0) - (n32 1)))) ∧ (¬ (m a0 0) ≤ (v2 + (n32 1)) → (xin (v2 + (n32 1)) 12 = true ∧ (xin v2 12 = true ∧ (∀ μ1 : XM, μ1 = um (um m (a0 + 1) (ix v2) (m (a0 + 1) (ix (v2 + (n32 1))))) (a0 + 2) (ix v2) ((um m (a0 + 1) (ix v2) (m (a0 + 1) (ix (v2 + (n32 1))))) (a0 + 2) (ix (v2 + (n32 1)))) → VLU D 6 4 [(0, vR 1 (a0)), (2, vI (v2 + (n32 1)))] [] (um μ1 (a0 + 3) (ix v2) (μ1 (a0 + 3) (ix (v2 + (n32 1))))) Q E)))))) :
    VLU D 6 4 [(0, vR 1 (a0)), (2, vI v2)] [] m Q E := by
  refine VL_at (al := [(0, vR 1 (a0)), (2, vI v2)]) (st := []) km6 k6_4 ?_
  refine And.intro (fun c2 => ?_) (fun c2 => ?_)
  · refine VL_norm km6 k6_6 (VL_at (al := [(0, vR 1 (a0))]) (st := []) km6 k6_6 ?_)
    exact (h.1 c2)
  · refine VL_norm km6 k6_5 (VL_at (al := [(0, vR 1 (a0)), (2, vI v2)]) (st := []) km6 k6_5 ?_)
    refine And.intro (h.2 c2).1 ?_
    refine And.intro (h.2 c2).2.1 ?_
    refine And.intro (h.2 c2).1 ?_
    refine And.intro (h.2 c2).2.1 ?_
    refine And.intro (h.2 c2).1 ?_
    refine And.intro (h.2 c2).2.1 ?_
    exact VL_norm km6 k6_4 ((h.2 c2).2.2 (um (um m (a0 + 1) (ix v2) (m (a0 + 1) (ix (v2 + (n32 1))))) (a0 + 2) (ix v2) ((um m (a0 + 1) (ix v2) (m (a0 + 1) (ix (v2 + (n32 1))))) (a0 + 2) (ix (v2 + (n32 1))))) rfl)
/-- BannerParade$Ground.between, label 0 -/
theorem w7_0 {D : Nat} {a0 : Nat} {v1 : Int32} {v2 : Int32} {m : XM} {Q : Int32 → XM → Prop} {E : Nat → XM → Prop}
    (h : VLI D 7 1 [(0, vR 1 (a0)), (1, vI v1), (2, vI v2), (3, vI (n32 0)), (4, vI (n32 0))] [] m Q E) :
    VI D 7 [vR 1 (a0), vI v1, vI v2] m Q E := by
  refine V_of (VL_at (al := [(0, vR 1 (a0)), (1, vI v1), (2, vI v2)]) (st := []) km7 k7_0 ?_)
  exact VL_norm km7 k7_1 h
/-- BannerParade$Ground.between, label 1 -/
theorem w7_1 {D : Nat} {a0 : Nat} {v1 : Int32} {v2 : Int32} {v3 : Int32} {v4 : Int32} {m : XM} {Q : Int32 → XM → Prop} {E : Nat → XM → Prop}
    (h : (((m a0 0) ≤ v4 → Q v3 m) ∧ (¬ (m a0 0) ≤ v4 → (xin v4 12 = true ∧ (((m (a0 + 2) (ix v4)) < v1 → VLI D 7 1 [(0, vR 1 (a0)), (1, vI v1), (2, vI v2), (3, vI v3), (4, vI (v4 + (n32 1)))] [] m Q E) ∧ (¬ (m (a0 + 2) (ix v4)) < v1 → ((v2 < (m (a0 + 2) (ix v4)) → VLI D 7 1 [(0, vR 1 (a0)), (1, vI v1), (2, vI v2), (3, vI v3), (4, vI (v4 + (n32 1)))] [] m Q E) ∧ (¬ v2 < (m (a0 + 2) (ix v4)) → VLI D 7 1 [(0, vR 1 (a0)), (1, vI v1), (2, vI v2), (3, vI (v3 + (n32 1))), (4, vI (v4 + (n32 1)))] [] m Q E)))))))) :
    VLI D 7 1 [(0, vR 1 (a0)), (1, vI v1), (2, vI v2), (3, vI v3), (4, vI v4)] [] m Q E := by
  refine VL_at (al := [(0, vR 1 (a0)), (1, vI v1), (2, vI v2), (3, vI v3), (4, vI v4)]) (st := []) km7 k7_1 ?_
  refine And.intro (fun c3 => ?_) (fun c3 => ?_)
  · refine VL_norm km7 k7_6 (VL_at (al := [(3, vI v3)]) (st := []) km7 k7_6 ?_)
    exact (h.1 c3)
  · refine VL_norm km7 k7_2 (VL_at (al := [(0, vR 1 (a0)), (1, vI v1), (2, vI v2), (3, vI v3), (4, vI v4)]) (st := []) km7 k7_2 ?_)
    refine And.intro (h.2 c3).1 ?_
    refine And.intro (fun c2 => ?_) (fun c2 => ?_)
    · refine VL_norm km7 k7_5 (VL_at (al := [(0, vR 1 (a0)), (1, vI v1), (2, vI v2), (3, vI v3), (4, vI v4)]) (st := []) km7 k7_5 ?_)
      exact VL_norm km7 k7_1 ((h.2 c3).2.1 c2)
    · refine VL_norm km7 k7_3 (VL_at (al := [(0, vR 1 (a0)), (1, vI v1), (2, vI v2), (3, vI v3), (4, vI v4)]) (st := []) km7 k7_3 ?_)
      refine And.intro (h.2 c3).1 ?_
      refine And.intro (fun c1 => ?_) (fun c1 => ?_)
      · refine VL_norm km7 k7_5 (VL_at (al := [(0, vR 1 (a0)), (1, vI v1), (2, vI v2), (3, vI v3), (4, vI v4)]) (st := []) km7 k7_5 ?_)
        exact VL_norm km7 k7_1 (((h.2 c3).2.2 c2).1 c1)
      · refine VL_norm km7 k7_4 (VL_at (al := [(0, vR 1 (a0)), (1, vI v1), (2, vI v2), (3, vI v3), (4, vI v4)]) (st := []) km7 k7_4 ?_)
        refine VL_norm km7 k7_5 (VL_at (al := [(0, vR 1 (a0)), (1, vI v1), (2, vI v2), (3, vI (v3 + (n32 1))), (4, vI v4)]) (st := []) km7 k7_5 ?_)
        exact VL_norm km7 k7_1 (((h.2 c3).2.2 c2).2 c1)
/-- BannerParade$Ground.bestBetween, label 0 -/
theorem w8_0 {D : Nat} {a0 : Nat} {v1 : Int32} {v2 : Int32} {m : XM} {Q : Int32 → XM → Prop} {E : Nat → XM → Prop}
    (h : VLI D 8 1 [(0, vR 1 (a0)), (1, vI v1), (2, vI v2), (3, vI (-(n32 1))), (4, vI (n32 0))] [] m Q E) :
    VI D 8 [vR 1 (a0), vI v1, vI v2] m Q E := by
  refine V_of (VL_at (al := [(0, vR 1 (a0)), (1, vI v1), (2, vI v2)]) (st := []) km8 k8_0 ?_)
  exact VL_norm km8 k8_1 h
/-- BannerParade$Ground.bestBetween, label 1 -/
theorem w8_1 {D : Nat} {a0 : Nat} {v1 : Int32} {v2 : Int32} {v3 : Int32} {v4 : Int32} {m : XM} {Q : Int32 → XM → Prop} {E : Nat → XM → Prop}
    (h : (((m a0 0) ≤ v4 → Q v3 m) ∧ (¬ (m a0 0) ≤ v4 → (xin v4 12 = true ∧ (((m (a0 + 2) (ix v4)) < v1 → VLI D 8 1 [(0, vR 1 (a0)), (1, vI v1), (2, vI v2), (3, vI v3), (4, vI (v4 + (n32 1)))] [] m Q E) ∧ (¬ (m (a0 + 2) (ix v4)) < v1 → ((v2 < (m (a0 + 2) (ix v4)) → VLI D 8 1 [(0, vR 1 (a0)), (1, vI v1), (2, vI v2), (3, vI v3), (4, vI (v4 + (n32 1)))] [] m Q E) ∧ (¬ v2 < (m (a0 + 2) (ix v4)) → ((v3 = (-(n32 1)) → VLI D 8 1 [(0, vR 1 (a0)), (1, vI v1), (2, vI v2), (3, vI v4), (4, vI (v4 + (n32 1)))] [] m Q E) ∧ (¬ v3 = (-(n32 1)) → (xin v3 12 = true ∧ (((m (a0 + 2) (ix v4)) ≤ (m (a0 + 2) (ix v3)) → VLI D 8 1 [(0, vR 1 (a0)), (1, vI v1), (2, vI v2), (3, vI v3), (4, vI (v4 + (n32 1)))] [] m Q E) ∧ (¬ (m (a0 + 2) (ix v4)) ≤ (m (a0 + 2) (ix v3)) → VLI D 8 1 [(0, vR 1 (a0)), (1, vI v1), (2, vI v2), (3, vI v4), (4, vI (v4 + (n32 1)))] [] m Q E))))))))))))) :
    VLI D 8 1 [(0, vR 1 (a0)), (1, vI v1), (2, vI v2), (3, vI v3), (4, vI v4)] [] m Q E := by
  refine VL_at (al := [(0, vR 1 (a0)), (1, vI v1), (2, vI v2), (3, vI v3), (4, vI v4)]) (st := []) km8 k8_1 ?_
  refine And.intro (fun c5 => ?_) (fun c5 => ?_)
  · refine VL_norm km8 k8_11 (VL_at (al := [(3, vI v3)]) (st := []) km8 k8_11 ?_)
    exact (h.1 c5)
  · refine VL_norm km8 k8_2 (VL_at (al := [(0, vR 1 (a0)), (1, vI v1), (2, vI v2), (3, vI v3), (4, vI v4)]) (st := []) km8 k8_2 ?_)
    refine And.intro (h.2 c5).1 ?_
    refine And.intro (fun c4 => ?_) (fun c4 => ?_)
    · refine VL_norm km8 k8_5 (VL_at (al := [(0, vR 1 (a0)), (1, vI v1), (2, vI v2), (3, vI v3), (4, vI v4)]) (st := []) km8 k8_5 ?_)
      refine VL_norm km8 k8_6 (VL_at (al := [(0, vR 1 (a0)), (1, vI v1), (2, vI v2), (3, vI v3), (4, vI v4)]) (st := [vI (n32 0)]) km8 k8_6 ?_)
      refine And.intro (fun _ => ?_) (fun c => absurd (by decide) c)
      refine VL_norm km8 k8_10 (VL_at (al := [(0, vR 1 (a0)), (1, vI v1), (2, vI v2), (3, vI v3), (4, vI v4)]) (st := []) km8 k8_10 ?_)
      exact VL_norm km8 k8_1 ((h.2 c5).2.1 c4)
    · refine VL_norm km8 k8_3 (VL_at (al := [(0, vR 1 (a0)), (1, vI v1), (2, vI v2), (3, vI v3), (4, vI v4)]) (st := []) km8 k8_3 ?_)
      refine And.intro (h.2 c5).1 ?_
      refine And.intro (fun c3 => ?_) (fun c3 => ?_)
      · refine VL_norm km8 k8_5 (VL_at (al := [(0, vR 1 (a0)), (1, vI v1), (2, vI v2), (3, vI v3), (4, vI v4)]) (st := []) km8 k8_5 ?_)
        refine VL_norm km8 k8_6 (VL_at (al := [(0, vR 1 (a0)), (1, vI v1), (2, vI v2), (3, vI v3), (4, vI v4)]) (st := [vI (n32 0)]) km8 k8_6 ?_)
        refine And.intro (fun _ => ?_) (fun c => absurd (by decide) c)
        refine VL_norm km8 k8_10 (VL_at (al := [(0, vR 1 (a0)), (1, vI v1), (2, vI v2), (3, vI v3), (4, vI v4)]) (st := []) km8 k8_10 ?_)
        exact VL_norm km8 k8_1 (((h.2 c5).2.2 c4).1 c3)
      · refine VL_norm km8 k8_4 (VL_at (al := [(0, vR 1 (a0)), (1, vI v1), (2, vI v2), (3, vI v3), (4, vI v4)]) (st := []) km8 k8_4 ?_)
        refine VL_norm km8 k8_6 (VL_at (al := [(0, vR 1 (a0)), (1, vI v1), (2, vI v2), (3, vI v3), (4, vI v4)]) (st := [vI (n32 1)]) km8 k8_6 ?_)
        refine And.intro (fun c => absurd c (by decide)) (fun _ => ?_)
        refine VL_norm km8 k8_7 (VL_at (al := [(0, vR 1 (a0)), (1, vI v1), (2, vI v2), (3, vI v3), (4, vI v4)]) (st := []) km8 k8_7 ?_)
        refine And.intro (fun c2 => ?_) (fun c2 => ?_)
        · refine VL_norm km8 k8_9 (VL_at (al := [(0, vR 1 (a0)), (1, vI v1), (2, vI v2), (4, vI v4)]) (st := []) km8 k8_9 ?_)
          refine VL_norm km8 k8_10 (VL_at (al := [(0, vR 1 (a0)), (1, vI v1), (2, vI v2), (3, vI v4), (4, vI v4)]) (st := []) km8 k8_10 ?_)
          exact VL_norm km8 k8_1 ((((h.2 c5).2.2 c4).2 c3).1 c2)
        · refine VL_norm km8 k8_8 (VL_at (al := [(0, vR 1 (a0)), (1, vI v1), (2, vI v2), (3, vI v3), (4, vI v4)]) (st := []) km8 k8_8 ?_)
          refine And.intro (h.2 c5).1 ?_
          refine And.intro ((((h.2 c5).2.2 c4).2 c3).2 c2).1 ?_
          refine And.intro (fun c1 => ?_) (fun c1 => ?_)
          · refine VL_norm km8 k8_10 (VL_at (al := [(0, vR 1 (a0)), (1, vI v1), (2, vI v2), (3, vI v3), (4, vI v4)]) (st := []) km8 k8_10 ?_)
            exact VL_norm km8 k8_1 (((((h.2 c5).2.2 c4).2 c3).2 c2).2.1 c1)
          · refine VL_norm km8 k8_9 (VL_at (al := [(0, vR 1 (a0)), (1, vI v1), (2, vI v2), (4, vI v4)]) (st := []) km8 k8_9 ?_)
            refine VL_norm km8 k8_10 (VL_at (al := [(0, vR 1 (a0)), (1, vI v1), (2, vI v2), (3, vI v4), (4, vI v4)]) (st := []) km8 k8_10 ?_)
            exact VL_norm km8 k8_1 (((((h.2 c5).2.2 c4).2 c3).2 c2).2.2 c1)
/-- BannerParade$Memory.forgetSlots, label 0 -/
theorem w12_0 {D : Nat} {a0 : Nat} {m : XM} {Q : XM → Prop} {E : Nat → XM → Prop}
    (h : VLU D 12 1 [(0, vR 2 (a0)), (1, vI (n32 0))] [] m Q E) :
    VU D 12 [vR 2 (a0)] m Q E := by
  refine V_of (VL_at (al := [(0, vR 2 (a0))]) (st := []) km12 k12_0 ?_)
  exact VL_norm km12 k12_1 h
/-- BannerParade$Memory.forgetSlots, label 1 -/
theorem w12_1 {D : Nat} {a0 : Nat} {v1 : Int32} {m : XM} {Q : XM → Prop} {E : Nat → XM → Prop}
    (h : (((n32 2) ≤ v1 → Q m) ∧ (¬ (n32 2) ≤ v1 → (xin v1 2 = true ∧ VLU D 12 1 [(0, vR 2 (a0)), (1, vI (v1 + (n32 1)))] [] (um m (a0 + 3) (ix v1) (n32 0)) Q E)))) :
    VLU D 12 1 [(0, vR 2 (a0)), (1, vI v1)] [] m Q E := by
  refine VL_at (al := [(0, vR 2 (a0)), (1, vI v1)]) (st := []) km12 k12_1 ?_
  refine And.intro (fun c1 => ?_) (fun c1 => ?_)
  · refine VL_norm km12 k12_3 (VL_at (al := []) (st := []) km12 k12_3 ?_)
    exact (h.1 c1)
  · refine VL_norm km12 k12_2 (VL_at (al := [(0, vR 2 (a0)), (1, vI v1)]) (st := []) km12 k12_2 ?_)
    refine And.intro (h.2 c1).1 (And.intro (Or.inl rfl) ?_)
    exact VL_norm km12 k12_1 (h.2 c1).2
/-- BannerParade$Memory.remember, label 0 -/
theorem w13_0 {D : Nat} {a0 : Nat} {a1 : Nat} {m : XM} {Q : XM → Prop} {E : Nat → XM → Prop}
    (h : (xin (((m a0 0) + (m a0 1)) - ((m a0 0) + (m a0 1)) / (n32 8) * (n32 8)) 8 = true ∧ VU (D + 3) 17 [vR 8 (a1), vR 8 (a0 + 1 + 3 + 20 * ix (((m a0 0) + (m a0 1)) - ((m a0 0) + (m a0 1)) / (n32 8) * (n32 8)))] m (fun m1 => (((n32 8) ≤ (m1 a0 1) → Q (um m1 (a0) 0 (((m1 a0 0) + (n32 1)) - ((m1 a0 0) + (n32 1)) / (n32 8) * (n32 8)))) ∧ (¬ (n32 8) ≤ (m1 a0 1) → Q (um m1 (a0) 1 ((m1 a0 1) + (n32 1)))))) E)) :
    VU (D + 4) 13 [vR 2 (a0), vR 8 (a1)] m Q E := by
  refine V_of (VL_at (al := [(0, vR 2 (a0)), (1, vR 8 (a1))]) (st := []) km13 k13_0 ?_)
  refine And.intro (by decide) ?_
  refine And.intro h.1 ?_
  refine V_mono h.2 (fun u1 m1 h1 => ?_) (fun _ _ h => h)
  refine And.intro (fun c2 => ?_) (fun c2 => ?_)
  · refine VL_norm km13 k13_2 (VL_at (al := [(0, vR 2 (a0))]) (st := []) km13 k13_2 ?_)
    refine And.intro (by decide) ?_
    refine VL_norm km13 k13_3 (VL_at (al := []) (st := []) km13 k13_3 ?_)
    exact (h1.1 c2)
  · refine VL_norm km13 k13_1 (VL_at (al := [(0, vR 2 (a0))]) (st := []) km13 k13_1 ?_)
    refine VL_norm km13 k13_3 (VL_at (al := []) (st := []) km13 k13_3 ?_)
    exact (h1.2 c2)
/-- BannerParade$Memory.takeBack, label 0 -/
theorem w14_0 {D : Nat} {a0 : Nat} {a1 : Nat} {m : XM} {Q : XM → Prop} {E : Nat → XM → Prop}
    (h : (((m a0 1) ≤ (n32 0) → Q m) ∧ (¬ (m a0 1) ≤ (n32 0) → (xin ((((um m (a0) 1 ((m a0 1) - (n32 1))) a0 0) + ((um m (a0) 1 ((m a0 1) - (n32 1))) a0 1)) - (((um m (a0) 1 ((m a0 1) - (n32 1))) a0 0) + ((um m (a0) 1 ((m a0 1) - (n32 1))) a0 1)) / (n32 8) * (n32 8)) 8 = true ∧ VU (D + 3) 17 [vR 8 (a0 + 1 + 3 + 20 * ix ((((um m (a0) 1 ((m a0 1) - (n32 1))) a0 0) + ((um m (a0) 1 ((m a0 1) - (n32 1))) a0 1)) - (((um m (a0) 1 ((m a0 1) - (n32 1))) a0 0) + ((um m (a0) 1 ((m a0 1) - (n32 1))) a0 1)) / (n32 8) * (n32 8))), vR 8 (a1)] (um m (a0) 1 ((m a0 1) - (n32 1))) (fun m1 => Q m1) E)))) :
    VU (D + 4) 14 [vR 2 (a0), vR 8 (a1)] m Q E := by
  refine V_of (VL_at (al := [(0, vR 2 (a0)), (1, vR 8 (a1))]) (st := []) km14 k14_0 ?_)
  refine And.intro (fun c2 => ?_) (fun c2 => ?_)
  · refine VL_norm km14 k14_2 (VL_at (al := []) (st := []) km14 k14_2 ?_)
    exact (h.1 c2)
  · refine VL_norm km14 k14_1 (VL_at (al := [(0, vR 2 (a0)), (1, vR 8 (a1))]) (st := []) km14 k14_1 ?_)
    refine And.intro (by decide) ?_
    refine And.intro (h.2 c2).1 ?_
    refine V_mono (h.2 c2).2 (fun u1 m1 h1 => ?_) (fun _ _ h => h)
    refine VL_norm km14 k14_2 (VL_at (al := []) (st := []) km14 k14_2 ?_)
    exact h1
/-- BannerParade$Memory.fillSlot, label 0 -/
theorem w15_0 {D : Nat} {a0 : Nat} {v1 : Int32} {a2 : Nat} {m : XM} {Q : XM → Prop} {E : Nat → XM → Prop}
    (h : (xin v1 2 = true ∧ VU (D + 3) 17 [vR 8 (a2), vR 8 (a0 + 2 + 162 + 20 * ix v1)] m (fun m1 => (xin v1 2 = true ∧ Q (um m1 (a0 + 3) (ix v1) (n32 1)))) E)) :
    VU (D + 4) 15 [vR 2 (a0), vI v1, vR 8 (a2)] m Q E := by
  refine V_of (VL_at (al := [(0, vR 2 (a0)), (1, vI v1), (2, vR 8 (a2))]) (st := []) km15 k15_0 ?_)
  refine And.intro h.1 ?_
  refine V_mono h.2 (fun u1 m1 h1 => ?_) (fun _ _ h => h)
  refine And.intro h1.1 (And.intro (Or.inr rfl) ?_)
  exact h1.2
/-- BannerParade$Memory.readSlot, label 0 -/
theorem w16_0 {D : Nat} {a0 : Nat} {v1 : Int32} {a2 : Nat} {m : XM} {Q : XM → Prop} {E : Nat → XM → Prop}
    (h : (xin v1 2 = true ∧ VU (D + 3) 17 [vR 8 (a0 + 2 + 162 + 20 * ix v1), vR 8 (a2)] m (fun m1 => Q m1) E)) :
    VU (D + 4) 16 [vR 2 (a0), vI v1, vR 8 (a2)] m Q E := by
  refine V_of (VL_at (al := [(0, vR 2 (a0)), (1, vI v1), (2, vR 8 (a2))]) (st := []) km16 k16_0 ?_)
  refine And.intro h.1 ?_
  refine V_mono h.2 (fun u1 m1 h1 => ?_) (fun _ _ h => h)
  exact h1
/-- BannerParade$Memory.copyState, label 0 -/
theorem w17_0 {D : Nat} {a0 : Nat} {a1 : Nat} {m : XM} {Q : XM → Prop} {E : Nat → XM → Prop}
    (h : VU (D + 2) 68 [vR 8 (a1), vR 8 (a0)] m (fun m1 => Q m1) E) :
    VU (D + 3) 17 [vR 8 (a0), vR 8 (a1)] m Q E := by
  refine V_of (VL_at (al := [(0, vR 8 (a0)), (1, vR 8 (a1))]) (st := []) km17 k17_0 ?_)
  refine VL_norm km17 k17_1 (VL_at (al := [(0, vR 8 (a0)), (1, vR 8 (a1))]) (st := []) km17 k17_1 ?_)
  refine VL_norm km17 k17_2 (VL_at (al := [(0, vR 8 (a0)), (1, vR 8 (a1))]) (st := []) km17 k17_2 ?_)
  refine V_mono h (fun u1 m1 h1 => ?_) (fun _ _ h => h)
  refine VL_norm km17 k17_3 (VL_at (al := []) (st := []) km17 k17_3 ?_)
  exact h1
/-- BannerParade$Parser.parseText, label 0 -/
theorem w19_0 {D : Nat} {a0 : Nat} {v1 : Int32} {m : XM} {Q : Int32 → XM → Prop} {E : Nat → XM → Prop}
    (h : VU (D + 6) 69 [vR 8 (a0 + 3)] (um (um m (a0) 3 (n32 0)) (a0) 4 (-(n32 1))) (fun m1 => VU (D + 6) 83 [vR 9 (a0 + 1), vI v1] (um m1 (a0 + 23) 0 (n32 0)) (fun m2 => VI (D + 6) 21 [vR 3 (a0)] m2 (fun x3 m3 => ((x3 = (n32 0) → Q (n32 0) m3) ∧ (¬ x3 = (n32 0) → VU (D + 6) 84 [vR 9 (a0 + 1)] m3 (fun m4 => VLI (D + 7) 19 3 [(0, vR 3 (a0)), (2, vI (n32 0))] [] m4 Q E) E))) E) E) E) :
    VI (D + 7) 19 [vR 3 (a0), vI v1] m Q E := by
  refine V_of (VL_at (al := [(0, vR 3 (a0)), (1, vI v1)]) (st := []) km19 k19_0 ?_)
  refine V_mono h (fun u1 m1 h1 => ?_) (fun _ _ h => h)
  refine V_mono h1 (fun u2 m2 h2 => ?_) (fun _ _ h => h)
  refine V_mono h2 (fun u3 m3 h3 => ?_) (fun _ _ h => h)
  refine And.intro (fun c5 => ?_) (fun c5 => ?_)
  · refine VL_norm km19 k19_1 (VL_at (al := []) (st := []) km19 k19_1 ?_)
    refine And.intro xrt20 ?_
    exact (h3.1 c5)
  · refine VL_norm km19 k19_2 (VL_at (al := [(0, vR 3 (a0))]) (st := []) km19 k19_2 ?_)
    refine V_mono (h3.2 c5) (fun u4 m4 h4 => ?_) (fun _ _ h => h)
    exact VL_norm km19 k19_3 h4
/-- BannerParade$Parser.parseText, label 3 -/
theorem w19_3 {D : Nat} {a0 : Nat} {v2 : Int32} {m : XM} {Q : Int32 → XM → Prop} {E : Nat → XM → Prop}
    (h : (((n32 700) ≤ v2 → (((m (a0 + 1) 5) = (n32 0) → Q (n32 1) m) ∧ (¬ (m (a0 + 1) 5) = (n32 0) → VI (D + 6) 20 [vR 3 (a0), vI (n32 1)] m (fun x1 m1 => ((x1 = (n32 0) → Q (n32 0) m1) ∧ (¬ x1 = (n32 0) → Q (n32 1) m1))) E))) ∧ (¬ (n32 700) ≤ v2 → (((m (a0 + 1) 5) = (n32 3) → VI (D + 6) 22 [vR 3 (a0)] m (fun x4 m4 => ((x4 = (n32 0) → Q (n32 0) m4) ∧ (¬ x4 = (n32 0) → VU (D + 6) 84 [vR 9 (a0 + 1)] m4 (fun m5 => VLI (D + 7) 19 3 [(0, vR 3 (a0)), (2, vI (v2 + (n32 1)))] [] m5 Q E) E))) E) ∧ (¬ (m (a0 + 1) 5) = (n32 3) → (((m (a0 + 1) 5) = (n32 0) → Q (n32 1) m) ∧ (¬ (m (a0 + 1) 5) = (n32 0) → VI (D + 6) 20 [vR 3 (a0), vI (n32 1)] m (fun x7 m7 => ((x7 = (n32 0) → Q (n32 0) m7) ∧ (¬ x7 = (n32 0) → Q (n32 1) m7))) E))))))) :
    VLI (D + 7) 19 3 [(0, vR 3 (a0)), (2, vI v2)] [] m Q E := by
  refine VL_at (al := [(0, vR 3 (a0)), (2, vI v2)]) (st := []) km19 k19_3 ?_
  refine And.intro (fun c11 => ?_) (fun c11 => ?_)
  · refine VL_norm km19 k19_8 (VL_at (al := [(0, vR 3 (a0))]) (st := []) km19 k19_8 ?_)
    refine And.intro (fun c3 => ?_) (fun c3 => ?_)
    · refine VL_norm km19 k19_10 (VL_at (al := []) (st := []) km19 k19_10 ?_)
      refine VL_norm km19 k19_12 (VL_at (al := []) (st := [vI (n32 1)]) km19 k19_12 ?_)
      refine And.intro xrt21 ?_
      exact ((h.1 c11).1 c3)
    · refine VL_norm km19 k19_9 (VL_at (al := [(0, vR 3 (a0))]) (st := []) km19 k19_9 ?_)
      refine V_mono ((h.1 c11).2 c3) (fun u1 m1 h1 => ?_) (fun _ _ h => h)
      refine And.intro (fun c2 => ?_) (fun c2 => ?_)
      · refine VL_norm km19 k19_11 (VL_at (al := []) (st := []) km19 k19_11 ?_)
        refine VL_norm km19 k19_12 (VL_at (al := []) (st := [vI (n32 0)]) km19 k19_12 ?_)
        refine And.intro xrt20 ?_
        exact (h1.1 c2)
      · refine VL_norm km19 k19_10 (VL_at (al := []) (st := []) km19 k19_10 ?_)
        refine VL_norm km19 k19_12 (VL_at (al := []) (st := [vI (n32 1)]) km19 k19_12 ?_)
        refine And.intro xrt21 ?_
        exact (h1.2 c2)
  · refine VL_norm km19 k19_4 (VL_at (al := [(0, vR 3 (a0)), (2, vI v2)]) (st := []) km19 k19_4 ?_)
    refine And.intro (fun c10 => ?_) (fun c10 => ?_)
    · refine VL_norm km19 k19_5 (VL_at (al := [(0, vR 3 (a0)), (2, vI v2)]) (st := []) km19 k19_5 ?_)
      refine V_mono ((h.2 c11).1 c10) (fun u4 m4 h4 => ?_) (fun _ _ h => h)
      refine And.intro (fun c6 => ?_) (fun c6 => ?_)
      · refine VL_norm km19 k19_6 (VL_at (al := []) (st := []) km19 k19_6 ?_)
        refine And.intro xrt20 ?_
        exact (h4.1 c6)
      · refine VL_norm km19 k19_7 (VL_at (al := [(0, vR 3 (a0)), (2, vI v2)]) (st := []) km19 k19_7 ?_)
        refine V_mono (h4.2 c6) (fun u5 m5 h5 => ?_) (fun _ _ h => h)
        exact VL_norm km19 k19_3 h5
    · refine VL_norm km19 k19_8 (VL_at (al := [(0, vR 3 (a0))]) (st := []) km19 k19_8 ?_)
      refine And.intro (fun c9 => ?_) (fun c9 => ?_)
      · refine VL_norm km19 k19_10 (VL_at (al := []) (st := []) km19 k19_10 ?_)
        refine VL_norm km19 k19_12 (VL_at (al := []) (st := [vI (n32 1)]) km19 k19_12 ?_)
        refine And.intro xrt21 ?_
        exact (((h.2 c11).2 c10).1 c9)
      · refine VL_norm km19 k19_9 (VL_at (al := [(0, vR 3 (a0))]) (st := []) km19 k19_9 ?_)
        refine V_mono (((h.2 c11).2 c10).2 c9) (fun u7 m7 h7 => ?_) (fun _ _ h => h)
        refine And.intro (fun c8 => ?_) (fun c8 => ?_)
        · refine VL_norm km19 k19_11 (VL_at (al := []) (st := []) km19 k19_11 ?_)
          refine VL_norm km19 k19_12 (VL_at (al := []) (st := [vI (n32 0)]) km19 k19_12 ?_)
          refine And.intro xrt20 ?_
          exact (h7.1 c8)
        · refine VL_norm km19 k19_10 (VL_at (al := []) (st := []) km19 k19_10 ?_)
          refine VL_norm km19 k19_12 (VL_at (al := []) (st := [vI (n32 1)]) km19 k19_12 ?_)
          refine And.intro xrt21 ?_
          exact (h7.2 c8)
/-- BannerParade$Parser.refuse, label 0 -/
theorem w20_0 {D : Nat} {a0 : Nat} {v1 : Int32} {m : XM} {Q : Int32 → XM → Prop} {E : Nat → XM → Prop}
    (h : Q (n32 0) (um (um m (a0) 3 v1) (a0) 4 ((um m (a0) 3 v1) (a0 + 1) 3))) :
    VI D 20 [vR 3 (a0), vI v1] m Q E := by
  refine V_of (VL_at (al := [(0, vR 3 (a0)), (1, vI v1)]) (st := []) km20 k20_0 ?_)
  refine And.intro xrt20 ?_
  exact h
/-- BannerParade$Parser.parseHead, label 0 -/
theorem w21_0 {D : Nat} {a0 : Nat} {m : XM} {Q : Int32 → XM → Prop} {E : Nat → XM → Prop}
    (h : VU (D + 4) 84 [vR 9 (a0 + 1)] m (fun m1 => VI (D + 4) 89 [vR 9 (a0 + 1), vR 30 (1000011)] m1 (fun x2 m2 => ((x2 = (n32 0) → VI (D + 4) 20 [vR 3 (a0), vI (n32 1)] m2 (fun x3 m3 => (xrt 2 x3 = true ∧ Q x3 m3)) E) ∧ (¬ x2 = (n32 0) → VLI (D + 5) 21 3 [(0, vR 3 (a0)), (1, vI (n32 0))] [] m2 Q E))) E) E) :
    VI (D + 5) 21 [vR 3 (a0)] m Q E := by
  refine V_of (VL_at (al := [(0, vR 3 (a0))]) (st := []) km21 k21_0 ?_)
  refine V_mono h (fun u1 m1 h1 => ?_) (fun _ _ h => h)
  refine V_mono h1 (fun u2 m2 h2 => ?_) (fun _ _ h => h)
  refine And.intro (fun c4 => ?_) (fun c4 => ?_)
  · refine VL_norm km21 k21_1 (VL_at (al := [(0, vR 3 (a0))]) (st := []) km21 k21_1 ?_)
    refine V_mono (h2.1 c4) (fun u3 m3 h3 => ?_) (fun _ _ h => h)
    refine And.intro h3.1 ?_
    exact h3.2
  · refine VL_norm km21 k21_2 (VL_at (al := [(0, vR 3 (a0))]) (st := []) km21 k21_2 ?_)
    exact VL_norm km21 k21_3 (h2.2 c4)
/-- BannerParade$Parser.parseHead, label 3 -/
theorem w21_3 {D : Nat} {a0 : Nat} {v1 : Int32} {m : XM} {Q : Int32 → XM → Prop} {E : Nat → XM → Prop}
    (h : (((n32 6) ≤ v1 → Q (n32 1) m) ∧ (¬ (n32 6) ≤ v1 → (xin v1 6 = true ∧ VI (D + 4) 26 [vR 3 (a0), vI (c40 (ix v1)), vI (c41 (ix v1))] m (fun x1 m1 => ((x1 = (n32 0) → Q (n32 0) m1) ∧ (¬ x1 = (n32 0) → VLI (D + 5) 21 3 [(0, vR 3 (a0)), (1, vI (v1 + (n32 1)))] [] (um m1 (a0 + 3 + 1) (ix v1) (m1 (a0 + 1) 6)) Q E))) E)))) :
    VLI (D + 5) 21 3 [(0, vR 3 (a0)), (1, vI v1)] [] m Q E := by
  refine VL_at (al := [(0, vR 3 (a0)), (1, vI v1)]) (st := []) km21 k21_3 ?_
  refine And.intro (fun c3 => ?_) (fun c3 => ?_)
  · refine VL_norm km21 k21_7 (VL_at (al := []) (st := []) km21 k21_7 ?_)
    refine And.intro xrt21 ?_
    exact (h.1 c3)
  · refine VL_norm km21 k21_4 (VL_at (al := [(0, vR 3 (a0)), (1, vI v1)]) (st := []) km21 k21_4 ?_)
    refine And.intro (h.2 c3).1 ?_
    refine And.intro (h.2 c3).1 ?_
    refine V_mono (h.2 c3).2 (fun u1 m1 h1 => ?_) (fun _ _ h => h)
    refine And.intro (fun c2 => ?_) (fun c2 => ?_)
    · refine VL_norm km21 k21_5 (VL_at (al := []) (st := []) km21 k21_5 ?_)
      refine And.intro xrt20 ?_
      exact (h1.1 c2)
    · refine VL_norm km21 k21_6 (VL_at (al := [(0, vR 3 (a0)), (1, vI v1)]) (st := []) km21 k21_6 ?_)
      refine And.intro (h.2 c3).1 ?_
      exact VL_norm km21 k21_3 (h1.2 c2)
/-- BannerParade$Parser.parseLine, label 0 -/
theorem w22_0 {D : Nat} {a0 : Nat} {m : XM} {Q : Int32 → XM → Prop} {E : Nat → XM → Prop}
    (h : VU (D + 5) 84 [vR 9 (a0 + 1)] m (fun m1 => VI (D + 5) 89 [vR 9 (a0 + 1), vR 30 (1000012)] m1 (fun x2 m2 => ((x2 = (n32 0) → VI (D + 5) 89 [vR 9 (a0 + 1), vR 30 (1000013)] m2 (fun x3 m3 => ((x3 = (n32 0) → VI (D + 5) 89 [vR 9 (a0 + 1), vR 30 (1000016)] m3 (fun x4 m4 => ((x4 = (n32 0) → VI (D + 5) 20 [vR 3 (a0), vI (n32 1)] m4 (fun x5 m5 => (xrt 2 x5 = true ∧ Q x5 m5)) E) ∧ (¬ x4 = (n32 0) → (((n32 12) ≤ (m4 (a0 + 3 + 16) 0) → VI (D + 5) 20 [vR 3 (a0), vI (n32 4)] m4 (fun x6 m6 => (xrt 2 x6 = true ∧ Q x6 m6)) E) ∧ (¬ (n32 12) ≤ (m4 (a0 + 3 + 16) 0) → VI (D + 5) 25 [vR 3 (a0)] m4 (fun x7 m7 => (xrt 2 x7 = true ∧ Q x7 m7)) E))))) E) ∧ (¬ x3 = (n32 0) → (((n32 6) ≤ (m3 (a0 + 23) 0) → VI (D + 5) 20 [vR 3 (a0), vI (n32 4)] m3 (fun x10 m10 => (xrt 2 x10 = true ∧ Q x10 m10)) E) ∧ (¬ (n32 6) ≤ (m3 (a0 + 23) 0) → VI (D + 5) 24 [vR 3 (a0)] m3 (fun x11 m11 => (xrt 2 x11 = true ∧ Q x11 m11)) E))))) E) ∧ (¬ x2 = (n32 0) → (((n32 12) ≤ (m2 (a0 + 3 + 3) 0) → VI (D + 5) 20 [vR 3 (a0), vI (n32 4)] m2 (fun x14 m14 => (xrt 2 x14 = true ∧ Q x14 m14)) E) ∧ (¬ (n32 12) ≤ (m2 (a0 + 3 + 3) 0) → VI (D + 5) 23 [vR 3 (a0)] m2 (fun x15 m15 => (xrt 2 x15 = true ∧ Q x15 m15)) E))))) E) E) :
    VI (D + 6) 22 [vR 3 (a0)] m Q E := by
  refine V_of (VL_at (al := [(0, vR 3 (a0))]) (st := []) km22 k22_0 ?_)
  refine V_mono h (fun u1 m1 h1 => ?_) (fun _ _ h => h)
  refine V_mono h1 (fun u2 m2 h2 => ?_) (fun _ _ h => h)
  refine And.intro (fun c17 => ?_) (fun c17 => ?_)
  · refine VL_norm km22 k22_5 (VL_at (al := [(0, vR 3 (a0))]) (st := []) km22 k22_5 ?_)
    refine V_mono (h2.1 c17) (fun u3 m3 h3 => ?_) (fun _ _ h => h)
    refine And.intro (fun c13 => ?_) (fun c13 => ?_)
    · refine VL_norm km22 k22_10 (VL_at (al := [(0, vR 3 (a0))]) (st := []) km22 k22_10 ?_)
      refine V_mono (h3.1 c13) (fun u4 m4 h4 => ?_) (fun _ _ h => h)
      refine And.intro (fun c9 => ?_) (fun c9 => ?_)
      · refine VL_norm km22 k22_15 (VL_at (al := [(0, vR 3 (a0))]) (st := []) km22 k22_15 ?_)
        refine V_mono (h4.1 c9) (fun u5 m5 h5 => ?_) (fun _ _ h => h)
        refine And.intro h5.1 ?_
        exact h5.2
      · refine VL_norm km22 k22_11 (VL_at (al := [(0, vR 3 (a0))]) (st := []) km22 k22_11 ?_)
        refine And.intro (fun c8 => ?_) (fun c8 => ?_)
        · refine VL_norm km22 k22_13 (VL_at (al := [(0, vR 3 (a0))]) (st := []) km22 k22_13 ?_)
          refine V_mono ((h4.2 c9).1 c8) (fun u6 m6 h6 => ?_) (fun _ _ h => h)
          refine VL_norm km22 k22_14 (VL_at (al := []) (st := [vI (xti u6)]) km22 k22_14 ?_)
          refine And.intro h6.1 ?_
          exact h6.2
        · refine VL_norm km22 k22_12 (VL_at (al := [(0, vR 3 (a0))]) (st := []) km22 k22_12 ?_)
          refine V_mono ((h4.2 c9).2 c8) (fun u7 m7 h7 => ?_) (fun _ _ h => h)
          refine VL_norm km22 k22_14 (VL_at (al := []) (st := [vI (xti u7)]) km22 k22_14 ?_)
          refine And.intro h7.1 ?_
          exact h7.2
    · refine VL_norm km22 k22_6 (VL_at (al := [(0, vR 3 (a0))]) (st := []) km22 k22_6 ?_)
      refine And.intro (fun c12 => ?_) (fun c12 => ?_)
      · refine VL_norm km22 k22_8 (VL_at (al := [(0, vR 3 (a0))]) (st := []) km22 k22_8 ?_)
        refine V_mono ((h3.2 c13).1 c12) (fun u10 m10 h10 => ?_) (fun _ _ h => h)
        refine VL_norm km22 k22_9 (VL_at (al := []) (st := [vI (xti u10)]) km22 k22_9 ?_)
        refine And.intro h10.1 ?_
        exact h10.2
      · refine VL_norm km22 k22_7 (VL_at (al := [(0, vR 3 (a0))]) (st := []) km22 k22_7 ?_)
        refine V_mono ((h3.2 c13).2 c12) (fun u11 m11 h11 => ?_) (fun _ _ h => h)
        refine VL_norm km22 k22_9 (VL_at (al := []) (st := [vI (xti u11)]) km22 k22_9 ?_)
        refine And.intro h11.1 ?_
        exact h11.2
  · refine VL_norm km22 k22_1 (VL_at (al := [(0, vR 3 (a0))]) (st := []) km22 k22_1 ?_)
    refine And.intro (fun c16 => ?_) (fun c16 => ?_)
    · refine VL_norm km22 k22_3 (VL_at (al := [(0, vR 3 (a0))]) (st := []) km22 k22_3 ?_)
      refine V_mono ((h2.2 c17).1 c16) (fun u14 m14 h14 => ?_) (fun _ _ h => h)
      refine VL_norm km22 k22_4 (VL_at (al := []) (st := [vI (xti u14)]) km22 k22_4 ?_)
      refine And.intro h14.1 ?_
      exact h14.2
    · refine VL_norm km22 k22_2 (VL_at (al := [(0, vR 3 (a0))]) (st := []) km22 k22_2 ?_)
      refine V_mono ((h2.2 c17).2 c16) (fun u15 m15 h15 => ?_) (fun _ _ h => h)
      refine VL_norm km22 k22_4 (VL_at (al := []) (st := [vI (xti u15)]) km22 k22_4 ?_)
      refine And.intro h15.1 ?_
      exact h15.2
/-- BannerParade$Parser.parseBearer, label 0 -/
theorem w23_0 {D : Nat} {a0 : Nat} {m : XM} {Q : Int32 → XM → Prop} {E : Nat → XM → Prop}
    (h : VU (D + 2) 84 [vR 9 (a0 + 1)] m (fun m1 => (((m1 (a0 + 1) 5) = (n32 1) → ((((m1 (a0 + 1) 4) - (m1 (a0 + 1) 3)) = (n32 1) → VI (D + 2) 88 [vR 9 (a0 + 1), vI (n32 0)] m1 (fun x2 m2 => VI (D + 2) 26 [vR 3 (a0), vI (n32 1), vI (n32 200)] m2 (fun x3 m3 => ((x3 = (n32 0) → Q (n32 0) m3) ∧ (¬ x3 = (n32 0) → VI (D + 2) 26 [vR 3 (a0), vI (n32 0), vI (n32 20)] m3 (fun x4 m4 => ((x4 = (n32 0) → Q (n32 0) m4) ∧ (¬ x4 = (n32 0) → VU (D + 2) 49 [vR 7 (a0 + 3 + 3), vI (x2 - (n32 96)), vI (m3 (a0 + 1) 6), vI (m4 (a0 + 1) 6), vI (m4 (a0 + 3 + 1) (ix (n32 0)))] m4 (fun m5 => Q (n32 1) m5) E))) E))) E) E) ∧ (¬ ((m1 (a0 + 1) 4) - (m1 (a0 + 1) 3)) = (n32 1) → VI (D + 2) 20 [vR 3 (a0), vI (n32 1)] m1 (fun x8 m8 => (xrt 2 x8 = true ∧ Q x8 m8)) E))) ∧ (¬ (m1 (a0 + 1) 5) = (n32 1) → VI (D + 2) 20 [vR 3 (a0), vI (n32 1)] m1 (fun x10 m10 => (xrt 2 x10 = true ∧ Q x10 m10)) E))) E) :
    VI (D + 3) 23 [vR 3 (a0)] m Q E := by
  refine V_of (VL_at (al := [(0, vR 3 (a0))]) (st := []) km23 k23_0 ?_)
  refine V_mono h (fun u1 m1 h1 => ?_) (fun _ _ h => h)
  refine V_of ?_
  refine VL_norm km87 k87_0 (VL_at (al := [(0, vR 9 (a0 + 1))]) (st := []) km87 k87_0 ?_)
  refine And.intro (fun c11 => ?_) (fun c11 => ?_)
  · refine VL_norm km87 k87_1 (VL_at (al := [(0, vR 9 (a0 + 1))]) (st := []) km87 k87_1 ?_)
    refine VL_norm km87 k87_3 (VL_at (al := []) (st := [vI ((m1 (a0 + 1) 4) - (m1 (a0 + 1) 3))]) km87 k87_3 ?_)
    refine And.intro (fun c9 => ?_) (fun c9 => ?_)
    · refine VL_norm km23 k23_2 (VL_at (al := [(0, vR 3 (a0))]) (st := []) km23 k23_2 ?_)
      refine V_mono ((h1.1 c11).1 c9) (fun u2 m2 h2 => ?_) (fun _ _ h => h)
      refine V_mono h2 (fun u3 m3 h3 => ?_) (fun _ _ h => h)
      refine And.intro (fun c7 => ?_) (fun c7 => ?_)
      · refine VL_norm km23 k23_3 (VL_at (al := []) (st := []) km23 k23_3 ?_)
        refine And.intro xrt20 ?_
        exact (h3.1 c7)
      · refine VL_norm km23 k23_4 (VL_at (al := [(0, vR 3 (a0)), (1, vI ((xti u2) - (n32 96)))]) (st := []) km23 k23_4 ?_)
        refine V_mono (h3.2 c7) (fun u4 m4 h4 => ?_) (fun _ _ h => h)
        refine And.intro (fun c6 => ?_) (fun c6 => ?_)
        · refine VL_norm km23 k23_5 (VL_at (al := []) (st := []) km23 k23_5 ?_)
          refine And.intro xrt20 ?_
          exact (h4.1 c6)
        · refine VL_norm km23 k23_6 (VL_at (al := [(0, vR 3 (a0)), (1, vI ((xti u2) - (n32 96))), (2, vI (m3 (a0 + 1) 6))]) (st := []) km23 k23_6 ?_)
          refine And.intro (xin_k rfl) ?_
          refine V_mono (h4.2 c6) (fun u5 m5 h5 => ?_) (fun _ _ h => h)
          refine And.intro xrt21 ?_
          exact h5
    · refine VL_norm km23 k23_1 (VL_at (al := [(0, vR 3 (a0))]) (st := []) km23 k23_1 ?_)
      refine V_mono ((h1.1 c11).2 c9) (fun u8 m8 h8 => ?_) (fun _ _ h => h)
      refine And.intro h8.1 ?_
      exact h8.2
  · refine VL_norm km87 k87_2 (VL_at (al := []) (st := []) km87 k87_2 ?_)
    refine VL_norm km87 k87_3 (VL_at (al := []) (st := [vI (n32 0)]) km87 k87_3 ?_)
    refine And.intro (fun c => absurd c (by decide)) (fun _ => ?_)
    refine VL_norm km23 k23_1 (VL_at (al := [(0, vR 3 (a0))]) (st := []) km23 k23_1 ?_)
    refine V_mono (h1.2 c11) (fun u10 m10 h10 => ?_) (fun _ _ h => h)
    refine And.intro h10.1 ?_
    exact h10.2
/-- BannerParade$Parser.parseStand, label 0 -/
theorem w24_0 {D : Nat} {a0 : Nat} {m : XM} {Q : Int32 → XM → Prop} {E : Nat → XM → Prop}
    (h : VU (D + 4) 84 [vR 9 (a0 + 1)] m (fun m1 => VI (D + 4) 89 [vR 9 (a0 + 1), vR 30 (1000014)] m1 (fun x2 m2 => ((x2 = (n32 0) → VI (D + 4) 89 [vR 9 (a0 + 1), vR 30 (1000015)] m2 (fun x3 m3 => ((x3 = (n32 0) → VI (D + 4) 20 [vR 3 (a0), vI (n32 1)] m3 (fun x4 m4 => (xrt 2 x4 = true ∧ Q x4 m4)) E) ∧ (¬ x3 = (n32 0) → VI (D + 4) 26 [vR 3 (a0), vI (n32 0), vI (n32 9999)] m3 (fun x5 m5 => ((x5 = (n32 0) → Q (n32 0) m5) ∧ (¬ x5 = (n32 0) → VU (D + 4) 84 [vR 9 (a0 + 1)] m5 (fun m6 => (((m6 (a0 + 1) 5) = (n32 1) → (((m6 (a0 + 23) 0) < (n32 6) → (xin (m6 (a0 + 23) 0) 6 = true ∧ (xin ((um m6 (a0 + 23 + 1) (ix (m6 (a0 + 23) 0)) (n32 0)) (a0 + 23) 0) 6 = true ∧ (xin ((um (um m6 (a0 + 23 + 1) (ix (m6 (a0 + 23) 0)) (n32 0)) (a0 + 23 + 2) (ix ((um m6 (a0 + 23 + 1) (ix (m6 (a0 + 23) 0)) (n32 0)) (a0 + 23) 0)) (m5 (a0 + 1) 6)) (a0 + 23) 0) 6 = true ∧ (∀ μ7 : XM, μ7 = um (um (um m6 (a0 + 23 + 1) (ix (m6 (a0 + 23) 0)) (n32 0)) (a0 + 23 + 2) (ix ((um m6 (a0 + 23 + 1) (ix (m6 (a0 + 23) 0)) (n32 0)) (a0 + 23) 0)) (m5 (a0 + 1) 6)) (a0 + 23 + 3) (ix ((um (um m6 (a0 + 23 + 1) (ix (m6 (a0 + 23) 0)) (n32 0)) (a0 + 23 + 2) (ix ((um m6 (a0 + 23 + 1) (ix (m6 (a0 + 23) 0)) (n32 0)) (a0 + 23) 0)) (m5 (a0 + 1) 6)) (a0 + 23) 0)) (n32 0) → VLI (D + 5) 24 11 [(0, vR 3 (a0)), (3, vI (n32 0))] [] (um μ7 (a0 + 23) 0 ((μ7 (a0 + 23) 0) + (n32 1))) Q E))))) ∧ (¬ (m6 (a0 + 23) 0) < (n32 6) → VLI (D + 5) 24 11 [(0, vR 3 (a0)), (3, vI (n32 0))] [] m6 Q E))) ∧ (¬ (m6 (a0 + 1) 5) = (n32 1) → VI (D + 4) 20 [vR 3 (a0), vI (n32 1)] m6 (fun x9 m9 => (xrt 2 x9 = true ∧ Q x9 m9)) E))) E))) E))) E) ∧ (¬ x2 = (n32 0) → VI (D + 4) 26 [vR 3 (a0), vI (n32 0), vI (n32 9999)] m2 (fun x13 m13 => ((x13 = (n32 0) → Q (n32 0) m13) ∧ (¬ x13 = (n32 0) → VU (D + 4) 84 [vR 9 (a0 + 1)] m13 (fun m14 => (((m14 (a0 + 1) 5) = (n32 1) → (((m14 (a0 + 23) 0) < (n32 6) → (xin (m14 (a0 + 23) 0) 6 = true ∧ (xin ((um m14 (a0 + 23 + 1) (ix (m14 (a0 + 23) 0)) (n32 1)) (a0 + 23) 0) 6 = true ∧ (xin ((um (um m14 (a0 + 23 + 1) (ix (m14 (a0 + 23) 0)) (n32 1)) (a0 + 23 + 2) (ix ((um m14 (a0 + 23 + 1) (ix (m14 (a0 + 23) 0)) (n32 1)) (a0 + 23) 0)) (m13 (a0 + 1) 6)) (a0 + 23) 0) 6 = true ∧ (∀ μ15 : XM, μ15 = um (um (um m14 (a0 + 23 + 1) (ix (m14 (a0 + 23) 0)) (n32 1)) (a0 + 23 + 2) (ix ((um m14 (a0 + 23 + 1) (ix (m14 (a0 + 23) 0)) (n32 1)) (a0 + 23) 0)) (m13 (a0 + 1) 6)) (a0 + 23 + 3) (ix ((um (um m14 (a0 + 23 + 1) (ix (m14 (a0 + 23) 0)) (n32 1)) (a0 + 23 + 2) (ix ((um m14 (a0 + 23 + 1) (ix (m14 (a0 + 23) 0)) (n32 1)) (a0 + 23) 0)) (m13 (a0 + 1) 6)) (a0 + 23) 0)) (n32 0) → VLI (D + 5) 24 11 [(0, vR 3 (a0)), (3, vI (n32 0))] [] (um μ15 (a0 + 23) 0 ((μ15 (a0 + 23) 0) + (n32 1))) Q E))))) ∧ (¬ (m14 (a0 + 23) 0) < (n32 6) → VLI (D + 5) 24 11 [(0, vR 3 (a0)), (3, vI (n32 0))] [] m14 Q E))) ∧ (¬ (m14 (a0 + 1) 5) = (n32 1) → VI (D + 4) 20 [vR 3 (a0), vI (n32 1)] m14 (fun x17 m17 => (xrt 2 x17 = true ∧ Q x17 m17)) E))) E))) E))) E) E) :
    VI (D + 5) 24 [vR 3 (a0)] m Q E := by
  refine V_of (VL_at (al := [(0, vR 3 (a0))]) (st := []) km24 k24_0 ?_)
  refine V_mono h (fun u1 m1 h1 => ?_) (fun _ _ h => h)
  refine V_mono h1 (fun u2 m2 h2 => ?_) (fun _ _ h => h)
  refine And.intro (fun c20 => ?_) (fun c20 => ?_)
  · refine VL_norm km24 k24_1 (VL_at (al := [(0, vR 3 (a0)), (1, vI (xti u2))]) (st := []) km24 k24_1 ?_)
    refine V_mono (h2.1 c20) (fun u3 m3 h3 => ?_) (fun _ _ h => h)
    refine And.intro (fun c12 => ?_) (fun c12 => ?_)
    · refine VL_norm km24 k24_2 (VL_at (al := [(0, vR 3 (a0))]) (st := []) km24 k24_2 ?_)
      refine V_mono (h3.1 c12) (fun u4 m4 h4 => ?_) (fun _ _ h => h)
      refine And.intro h4.1 ?_
      exact h4.2
    · refine VL_norm km24 k24_3 (VL_at (al := [(0, vR 3 (a0)), (1, vI (xti u2))]) (st := []) km24 k24_3 ?_)
      refine V_mono (h3.2 c12) (fun u5 m5 h5 => ?_) (fun _ _ h => h)
      refine And.intro (fun c11 => ?_) (fun c11 => ?_)
      · refine VL_norm km24 k24_4 (VL_at (al := []) (st := []) km24 k24_4 ?_)
        refine And.intro xrt20 ?_
        exact (h5.1 c11)
      · refine VL_norm km24 k24_5 (VL_at (al := [(0, vR 3 (a0)), (1, vI (xti u2))]) (st := []) km24 k24_5 ?_)
        refine V_mono (h5.2 c11) (fun u6 m6 h6 => ?_) (fun _ _ h => h)
        refine And.intro (fun c10 => ?_) (fun c10 => ?_)
        · refine VL_norm km24 k24_7 (VL_at (al := [(0, vR 3 (a0)), (1, vI (xti u2)), (2, vI (m5 (a0 + 1) 6))]) (st := []) km24 k24_7 ?_)
          refine And.intro (fun _ => ?_) (fun c => absurd c20 c)
          refine VL_norm km24 k24_9 (VL_at (al := [(0, vR 3 (a0)), (2, vI (m5 (a0 + 1) 6))]) (st := [vR 6 (a0 + 23)]) km24 k24_9 ?_)
          refine VL_norm km24 k24_10 (VL_at (al := [(0, vR 3 (a0)), (2, vI (m5 (a0 + 1) 6))]) (st := [vI (n32 0), vR 6 (a0 + 23)]) km24 k24_10 ?_)
          refine V_of ?_
          refine VL_norm km43 k43_0 (VL_at (al := [(0, vR 6 (a0 + 23)), (1, vI (n32 0)), (2, vI (m5 (a0 + 1) 6))]) (st := []) km43 k43_0 ?_)
          refine And.intro (fun c8 => ?_) (fun c8 => ?_)
          · refine VL_norm km43 k43_2 (VL_at (al := [(0, vR 6 (a0 + 23)), (1, vI (n32 0)), (2, vI (m5 (a0 + 1) 6))]) (st := []) km43 k43_2 ?_)
            refine And.intro ((h6.1 c10).1 c8).1 ?_
            refine And.intro ((h6.1 c10).1 c8).2.1 ?_
            refine And.intro ((h6.1 c10).1 c8).2.2.1 ?_
            exact VL_norm km24 k24_11 (((h6.1 c10).1 c8).2.2.2 (um (um (um m6 (a0 + 23 + 1) (ix (m6 (a0 + 23) 0)) (n32 0)) (a0 + 23 + 2) (ix ((um m6 (a0 + 23 + 1) (ix (m6 (a0 + 23) 0)) (n32 0)) (a0 + 23) 0)) (m5 (a0 + 1) 6)) (a0 + 23 + 3) (ix ((um (um m6 (a0 + 23 + 1) (ix (m6 (a0 + 23) 0)) (n32 0)) (a0 + 23 + 2) (ix ((um m6 (a0 + 23 + 1) (ix (m6 (a0 + 23) 0)) (n32 0)) (a0 + 23) 0)) (m5 (a0 + 1) 6)) (a0 + 23) 0)) (n32 0)) rfl)
          · refine VL_norm km43 k43_1 (VL_at (al := []) (st := []) km43 k43_1 ?_)
            exact VL_norm km24 k24_11 ((h6.1 c10).2 c8)
        · refine VL_norm km24 k24_6 (VL_at (al := [(0, vR 3 (a0))]) (st := []) km24 k24_6 ?_)
          refine V_mono (h6.2 c10) (fun u9 m9 h9 => ?_) (fun _ _ h => h)
          refine And.intro h9.1 ?_
          exact h9.2
  · refine VL_norm km24 k24_3 (VL_at (al := [(0, vR 3 (a0)), (1, vI (xti u2))]) (st := []) km24 k24_3 ?_)
    refine V_mono (h2.2 c20) (fun u13 m13 h13 => ?_) (fun _ _ h => h)
    refine And.intro (fun c19 => ?_) (fun c19 => ?_)
    · refine VL_norm km24 k24_4 (VL_at (al := []) (st := []) km24 k24_4 ?_)
      refine And.intro xrt20 ?_
      exact (h13.1 c19)
    · refine VL_norm km24 k24_5 (VL_at (al := [(0, vR 3 (a0)), (1, vI (xti u2))]) (st := []) km24 k24_5 ?_)
      refine V_mono (h13.2 c19) (fun u14 m14 h14 => ?_) (fun _ _ h => h)
      refine And.intro (fun c18 => ?_) (fun c18 => ?_)
      · refine VL_norm km24 k24_7 (VL_at (al := [(0, vR 3 (a0)), (1, vI (xti u2)), (2, vI (m13 (a0 + 1) 6))]) (st := []) km24 k24_7 ?_)
        refine And.intro (fun c => absurd c c20) (fun _ => ?_)
        refine VL_norm km24 k24_8 (VL_at (al := [(0, vR 3 (a0)), (2, vI (m13 (a0 + 1) 6))]) (st := [vR 6 (a0 + 23)]) km24 k24_8 ?_)
        refine VL_norm km24 k24_10 (VL_at (al := [(0, vR 3 (a0)), (2, vI (m13 (a0 + 1) 6))]) (st := [vI (n32 1), vR 6 (a0 + 23)]) km24 k24_10 ?_)
        refine V_of ?_
        refine VL_norm km43 k43_0 (VL_at (al := [(0, vR 6 (a0 + 23)), (1, vI (n32 1)), (2, vI (m13 (a0 + 1) 6))]) (st := []) km43 k43_0 ?_)
        refine And.intro (fun c16 => ?_) (fun c16 => ?_)
        · refine VL_norm km43 k43_2 (VL_at (al := [(0, vR 6 (a0 + 23)), (1, vI (n32 1)), (2, vI (m13 (a0 + 1) 6))]) (st := []) km43 k43_2 ?_)
          refine And.intro ((h14.1 c18).1 c16).1 ?_
          refine And.intro ((h14.1 c18).1 c16).2.1 ?_
          refine And.intro ((h14.1 c18).1 c16).2.2.1 ?_
          exact VL_norm km24 k24_11 (((h14.1 c18).1 c16).2.2.2 (um (um (um m14 (a0 + 23 + 1) (ix (m14 (a0 + 23) 0)) (n32 1)) (a0 + 23 + 2) (ix ((um m14 (a0 + 23 + 1) (ix (m14 (a0 + 23) 0)) (n32 1)) (a0 + 23) 0)) (m13 (a0 + 1) 6)) (a0 + 23 + 3) (ix ((um (um m14 (a0 + 23 + 1) (ix (m14 (a0 + 23) 0)) (n32 1)) (a0 + 23 + 2) (ix ((um m14 (a0 + 23 + 1) (ix (m14 (a0 + 23) 0)) (n32 1)) (a0 + 23) 0)) (m13 (a0 + 1) 6)) (a0 + 23) 0)) (n32 0)) rfl)
        · refine VL_norm km43 k43_1 (VL_at (al := []) (st := []) km43 k43_1 ?_)
          exact VL_norm km24 k24_11 ((h14.1 c18).2 c16)
      · refine VL_norm km24 k24_6 (VL_at (al := [(0, vR 3 (a0))]) (st := []) km24 k24_6 ?_)
        refine V_mono (h14.2 c18) (fun u17 m17 h17 => ?_) (fun _ _ h => h)
        refine And.intro h17.1 ?_
        exact h17.2
/-- BannerParade$Parser.parseStand, label 11 -/
theorem w24_11 {D : Nat} {a0 : Nat} {v3 : Int32} {m : XM} {Q : Int32 → XM → Prop} {E : Nat → XM → Prop}
    (h : (((m (a0 + 1) 5) = (n32 1) → ((((m (a0 + 1) 4) - (m (a0 + 1) 3)) ≤ v3 → Q (n32 1) m) ∧ (¬ ((m (a0 + 1) 4) - (m (a0 + 1) 3)) ≤ v3 → VI (D + 4) 88 [vR 9 (a0 + 1), vI v3] m (fun x1 m1 => ((((m1 (a0 + 23) 0) - (n32 1)) < (n32 0) → VLI (D + 5) 24 11 [(0, vR 3 (a0)), (3, vI (v3 + (n32 1)))] [] m1 Q E) ∧ (¬ ((m1 (a0 + 23) 0) - (n32 1)) < (n32 0) → (xin ((m1 (a0 + 23) 0) - (n32 1)) 6 = true ∧ (((m1 (a0 + 23 + 3) (ix ((m1 (a0 + 23) 0) - (n32 1)))) < (n32 8) → (xin ((((m1 (a0 + 23) 0) - (n32 1)) * (n32 8)) + (m1 (a0 + 23 + 3) (ix ((m1 (a0 + 23) 0) - (n32 1))))) 48 = true ∧ (∀ μ2 : XM, μ2 = um (um m1 (a0 + 23 + 4) (ix ((((m1 (a0 + 23) 0) - (n32 1)) * (n32 8)) + (m1 (a0 + 23 + 3) (ix ((m1 (a0 + 23) 0) - (n32 1)))))) x1) (a0 + 23 + 3) (ix ((m1 (a0 + 23) 0) - (n32 1))) (((um m1 (a0 + 23 + 4) (ix ((((m1 (a0 + 23) 0) - (n32 1)) * (n32 8)) + (m1 (a0 + 23 + 3) (ix ((m1 (a0 + 23) 0) - (n32 1)))))) x1) (a0 + 23 + 3) (ix ((m1 (a0 + 23) 0) - (n32 1)))) + (n32 1)) → VLI (D + 5) 24 11 [(0, vR 3 (a0)), (3, vI (v3 + (n32 1)))] [] μ2 Q E))) ∧ (¬ (m1 (a0 + 23 + 3) (ix ((m1 (a0 + 23) 0) - (n32 1)))) < (n32 8) → VLI (D + 5) 24 11 [(0, vR 3 (a0)), (3, vI (v3 + (n32 1)))] [] m1 Q E)))))) E))) ∧ (¬ (m (a0 + 1) 5) = (n32 1) → (((n32 0) ≤ v3 → Q (n32 1) m) ∧ (¬ (n32 0) ≤ v3 → VI (D + 4) 88 [vR 9 (a0 + 1), vI v3] m (fun x6 m6 => ((((m6 (a0 + 23) 0) - (n32 1)) < (n32 0) → VLI (D + 5) 24 11 [(0, vR 3 (a0)), (3, vI (v3 + (n32 1)))] [] m6 Q E) ∧ (¬ ((m6 (a0 + 23) 0) - (n32 1)) < (n32 0) → (xin ((m6 (a0 + 23) 0) - (n32 1)) 6 = true ∧ (((m6 (a0 + 23 + 3) (ix ((m6 (a0 + 23) 0) - (n32 1)))) < (n32 8) → (xin ((((m6 (a0 + 23) 0) - (n32 1)) * (n32 8)) + (m6 (a0 + 23 + 3) (ix ((m6 (a0 + 23) 0) - (n32 1))))) 48 = true ∧ (∀ μ7 : XM, μ7 = um (um m6 (a0 + 23 + 4) (ix ((((m6 (a0 + 23) 0) - (n32 1)) * (n32 8)) + (m6 (a0 + 23 + 3) (ix ((m6 (a0 + 23) 0) - (n32 1)))))) x6) (a0 + 23 + 3) (ix ((m6 (a0 + 23) 0) - (n32 1))) (((um m6 (a0 + 23 + 4) (ix ((((m6 (a0 + 23) 0) - (n32 1)) * (n32 8)) + (m6 (a0 + 23 + 3) (ix ((m6 (a0 + 23) 0) - (n32 1)))))) x6) (a0 + 23 + 3) (ix ((m6 (a0 + 23) 0) - (n32 1)))) + (n32 1)) → VLI (D + 5) 24 11 [(0, vR 3 (a0)), (3, vI (v3 + (n32 1)))] [] μ7 Q E))) ∧ (¬ (m6 (a0 + 23 + 3) (ix ((m6 (a0 + 23) 0) - (n32 1)))) < (n32 8) → VLI (D + 5) 24 11 [(0, vR 3 (a0)), (3, vI (v3 + (n32 1)))] [] m6 Q E)))))) E))))) :
    VLI (D + 5) 24 11 [(0, vR 3 (a0)), (3, vI v3)] [] m Q E := by
  refine VL_at (al := [(0, vR 3 (a0)), (3, vI v3)]) (st := []) km24 k24_11 ?_
  refine V_of ?_
  refine VL_norm km87 k87_0 (VL_at (al := [(0, vR 9 (a0 + 1))]) (st := []) km87 k87_0 ?_)
  refine And.intro (fun c11 => ?_) (fun c11 => ?_)
  · refine VL_norm km87 k87_1 (VL_at (al := [(0, vR 9 (a0 + 1))]) (st := []) km87 k87_1 ?_)
    refine VL_norm km87 k87_3 (VL_at (al := []) (st := [vI ((m (a0 + 1) 4) - (m (a0 + 1) 3))]) km87 k87_3 ?_)
    refine And.intro (fun c5 => ?_) (fun c5 => ?_)
    · refine VL_norm km24 k24_13 (VL_at (al := []) (st := []) km24 k24_13 ?_)
      refine And.intro xrt21 ?_
      exact ((h.1 c11).1 c5)
    · refine VL_norm km24 k24_12 (VL_at (al := [(0, vR 3 (a0)), (3, vI v3)]) (st := []) km24 k24_12 ?_)
      refine V_mono ((h.1 c11).2 c5) (fun u1 m1 h1 => ?_) (fun _ _ h => h)
      refine V_of ?_
      refine VL_norm km44 k44_0 (VL_at (al := [(0, vR 6 (a0 + 23)), (1, vI (xti u1))]) (st := []) km44 k44_0 ?_)
      refine And.intro (fun c4 => ?_) (fun c4 => ?_)
      · refine VL_norm km44 k44_2 (VL_at (al := []) (st := []) km44 k44_2 ?_)
        exact VL_norm km24 k24_11 (h1.1 c4)
      · refine VL_norm km44 k44_1 (VL_at (al := [(0, vR 6 (a0 + 23)), (1, vI (xti u1)), (2, vI ((m1 (a0 + 23) 0) - (n32 1)))]) (st := []) km44 k44_1 ?_)
        refine And.intro (h1.2 c4).1 ?_
        refine And.intro (fun c3 => ?_) (fun c3 => ?_)
        · refine VL_norm km44 k44_3 (VL_at (al := [(0, vR 6 (a0 + 23)), (1, vI (xti u1)), (2, vI ((m1 (a0 + 23) 0) - (n32 1)))]) (st := []) km44 k44_3 ?_)
          refine And.intro (h1.2 c4).1 ?_
          refine And.intro ((h1.2 c4).2.1 c3).1 ?_
          refine And.intro (h1.2 c4).1 ?_
          refine And.intro (h1.2 c4).1 ?_
          exact VL_norm km24 k24_11 (((h1.2 c4).2.1 c3).2 (um (um m1 (a0 + 23 + 4) (ix ((((m1 (a0 + 23) 0) - (n32 1)) * (n32 8)) + (m1 (a0 + 23 + 3) (ix ((m1 (a0 + 23) 0) - (n32 1)))))) (xti u1)) (a0 + 23 + 3) (ix ((m1 (a0 + 23) 0) - (n32 1))) (((um m1 (a0 + 23 + 4) (ix ((((m1 (a0 + 23) 0) - (n32 1)) * (n32 8)) + (m1 (a0 + 23 + 3) (ix ((m1 (a0 + 23) 0) - (n32 1)))))) (xti u1)) (a0 + 23 + 3) (ix ((m1 (a0 + 23) 0) - (n32 1)))) + (n32 1))) rfl)
        · refine VL_norm km44 k44_2 (VL_at (al := []) (st := []) km44 k44_2 ?_)
          exact VL_norm km24 k24_11 ((h1.2 c4).2.2 c3)
  · refine VL_norm km87 k87_2 (VL_at (al := []) (st := []) km87 k87_2 ?_)
    refine VL_norm km87 k87_3 (VL_at (al := []) (st := [vI (n32 0)]) km87 k87_3 ?_)
    refine And.intro (fun c10 => ?_) (fun c10 => ?_)
    · refine VL_norm km24 k24_13 (VL_at (al := []) (st := []) km24 k24_13 ?_)
      refine And.intro xrt21 ?_
      exact ((h.2 c11).1 c10)
    · refine VL_norm km24 k24_12 (VL_at (al := [(0, vR 3 (a0)), (3, vI v3)]) (st := []) km24 k24_12 ?_)
      refine V_mono ((h.2 c11).2 c10) (fun u6 m6 h6 => ?_) (fun _ _ h => h)
      refine V_of ?_
      refine VL_norm km44 k44_0 (VL_at (al := [(0, vR 6 (a0 + 23)), (1, vI (xti u6))]) (st := []) km44 k44_0 ?_)
      refine And.intro (fun c9 => ?_) (fun c9 => ?_)
      · refine VL_norm km44 k44_2 (VL_at (al := []) (st := []) km44 k44_2 ?_)
        exact VL_norm km24 k24_11 (h6.1 c9)
      · refine VL_norm km44 k44_1 (VL_at (al := [(0, vR 6 (a0 + 23)), (1, vI (xti u6)), (2, vI ((m6 (a0 + 23) 0) - (n32 1)))]) (st := []) km44 k44_1 ?_)
        refine And.intro (h6.2 c9).1 ?_
        refine And.intro (fun c8 => ?_) (fun c8 => ?_)
        · refine VL_norm km44 k44_3 (VL_at (al := [(0, vR 6 (a0 + 23)), (1, vI (xti u6)), (2, vI ((m6 (a0 + 23) 0) - (n32 1)))]) (st := []) km44 k44_3 ?_)
          refine And.intro (h6.2 c9).1 ?_
          refine And.intro ((h6.2 c9).2.1 c8).1 ?_
          refine And.intro (h6.2 c9).1 ?_
          refine And.intro (h6.2 c9).1 ?_
          exact VL_norm km24 k24_11 (((h6.2 c9).2.1 c8).2 (um (um m6 (a0 + 23 + 4) (ix ((((m6 (a0 + 23) 0) - (n32 1)) * (n32 8)) + (m6 (a0 + 23 + 3) (ix ((m6 (a0 + 23) 0) - (n32 1)))))) (xti u6)) (a0 + 23 + 3) (ix ((m6 (a0 + 23) 0) - (n32 1))) (((um m6 (a0 + 23 + 4) (ix ((((m6 (a0 + 23) 0) - (n32 1)) * (n32 8)) + (m6 (a0 + 23 + 3) (ix ((m6 (a0 + 23) 0) - (n32 1)))))) (xti u6)) (a0 + 23 + 3) (ix ((m6 (a0 + 23) 0) - (n32 1)))) + (n32 1))) rfl)
        · refine VL_norm km44 k44_2 (VL_at (al := []) (st := []) km44 k44_2 ?_)
          exact VL_norm km24 k24_11 ((h6.2 c9).2.2 c8)
/-- BannerParade$Parser.parsePlan, label 0 -/
theorem w25_0 {D : Nat} {a0 : Nat} {m : XM} {Q : Int32 → XM → Prop} {E : Nat → XM → Prop}
    (h : VI (D + 2) 26 [vR 3 (a0), vI (n32 1), vI (n32 5000)] m (fun x1 m1 => ((x1 = (n32 0) → Q (n32 0) m1) ∧ (¬ x1 = (n32 0) → VI (D + 2) 26 [vR 3 (a0), vI (n32 0), vI ((m1 (a0 + 3 + 3) 0) - (n32 2))] m1 (fun x2 m2 => ((x2 = (n32 0) → Q (n32 0) m2) ∧ (¬ x2 = (n32 0) → (((m2 (a0 + 3 + 16) 0) < (n32 12) → (xin (m2 (a0 + 3 + 16) 0) 12 = true ∧ (xin ((um m2 (a0 + 3 + 16 + 1) (ix (m2 (a0 + 3 + 16) 0)) (m1 (a0 + 1) 6)) (a0 + 3 + 16) 0) 12 = true ∧ (∀ μ3 : XM, μ3 = um (um m2 (a0 + 3 + 16 + 1) (ix (m2 (a0 + 3 + 16) 0)) (m1 (a0 + 1) 6)) (a0 + 3 + 16 + 2) (ix ((um m2 (a0 + 3 + 16 + 1) (ix (m2 (a0 + 3 + 16) 0)) (m1 (a0 + 1) 6)) (a0 + 3 + 16) 0)) (m2 (a0 + 1) 6) → (xin (μ3 (a0 + 3 + 16) 0) 12 = true ∧ (∀ μ4 : XM, μ4 = um (um μ3 (a0 + 3 + 16 + 3) (ix (μ3 (a0 + 3 + 16) 0)) (n32 0)) (a0 + 3 + 16) 0 (((um μ3 (a0 + 3 + 16 + 3) (ix (μ3 (a0 + 3 + 16) 0)) (n32 0)) (a0 + 3 + 16) 0) + (n32 1)) → Q (n32 1) μ4)))))) ∧ (¬ (m2 (a0 + 3 + 16) 0) < (n32 12) → Q (n32 1) m2))))) E))) E) :
    VI (D + 3) 25 [vR 3 (a0)] m Q E := by
  refine V_of (VL_at (al := [(0, vR 3 (a0))]) (st := []) km25 k25_0 ?_)
  refine V_mono h (fun u1 m1 h1 => ?_) (fun _ _ h => h)
  refine And.intro (fun c7 => ?_) (fun c7 => ?_)
  · refine VL_norm km25 k25_1 (VL_at (al := []) (st := []) km25 k25_1 ?_)
    refine And.intro xrt20 ?_
    exact (h1.1 c7)
  · refine VL_norm km25 k25_2 (VL_at (al := [(0, vR 3 (a0))]) (st := []) km25 k25_2 ?_)
    refine V_mono (h1.2 c7) (fun u2 m2 h2 => ?_) (fun _ _ h => h)
    refine And.intro (fun c6 => ?_) (fun c6 => ?_)
    · refine VL_norm km25 k25_3 (VL_at (al := []) (st := []) km25 k25_3 ?_)
      refine And.intro xrt20 ?_
      exact (h2.1 c6)
    · refine VL_norm km25 k25_4 (VL_at (al := [(0, vR 3 (a0)), (1, vI (m1 (a0 + 1) 6))]) (st := []) km25 k25_4 ?_)
      refine V_of ?_
      refine VL_norm km29 k29_0 (VL_at (al := [(0, vR 4 (a0 + 3 + 16)), (1, vI (m1 (a0 + 1) 6)), (2, vI (m2 (a0 + 1) 6))]) (st := []) km29 k29_0 ?_)
      refine And.intro (fun c5 => ?_) (fun c5 => ?_)
      · refine VL_norm km29 k29_2 (VL_at (al := [(0, vR 4 (a0 + 3 + 16)), (1, vI (m1 (a0 + 1) 6)), (2, vI (m2 (a0 + 1) 6))]) (st := []) km29 k29_2 ?_)
        refine And.intro ((h2.2 c6).1 c5).1 ?_
        refine And.intro ((h2.2 c6).1 c5).2.1 ?_
        refine And.intro (((h2.2 c6).1 c5).2.2 (um (um m2 (a0 + 3 + 16 + 1) (ix (m2 (a0 + 3 + 16) 0)) (m1 (a0 + 1) 6)) (a0 + 3 + 16 + 2) (ix ((um m2 (a0 + 3 + 16 + 1) (ix (m2 (a0 + 3 + 16) 0)) (m1 (a0 + 1) 6)) (a0 + 3 + 16) 0)) (m2 (a0 + 1) 6)) rfl).1 ?_
        refine And.intro xrt21 ?_
        exact ((((h2.2 c6).1 c5).2.2 (um (um m2 (a0 + 3 + 16 + 1) (ix (m2 (a0 + 3 + 16) 0)) (m1 (a0 + 1) 6)) (a0 + 3 + 16 + 2) (ix ((um m2 (a0 + 3 + 16 + 1) (ix (m2 (a0 + 3 + 16) 0)) (m1 (a0 + 1) 6)) (a0 + 3 + 16) 0)) (m2 (a0 + 1) 6)) rfl).2 (um (um (um (um m2 (a0 + 3 + 16 + 1) (ix (m2 (a0 + 3 + 16) 0)) (m1 (a0 + 1) 6)) (a0 + 3 + 16 + 2) (ix ((um m2 (a0 + 3 + 16 + 1) (ix (m2 (a0 + 3 + 16) 0)) (m1 (a0 + 1) 6)) (a0 + 3 + 16) 0)) (m2 (a0 + 1) 6)) (a0 + 3 + 16 + 3) (ix ((um (um m2 (a0 + 3 + 16 + 1) (ix (m2 (a0 + 3 + 16) 0)) (m1 (a0 + 1) 6)) (a0 + 3 + 16 + 2) (ix ((um m2 (a0 + 3 + 16 + 1) (ix (m2 (a0 + 3 + 16) 0)) (m1 (a0 + 1) 6)) (a0 + 3 + 16) 0)) (m2 (a0 + 1) 6)) (a0 + 3 + 16) 0)) (n32 0)) (a0 + 3 + 16) 0 (((um (um (um m2 (a0 + 3 + 16 + 1) (ix (m2 (a0 + 3 + 16) 0)) (m1 (a0 + 1) 6)) (a0 + 3 + 16 + 2) (ix ((um m2 (a0 + 3 + 16 + 1) (ix (m2 (a0 + 3 + 16) 0)) (m1 (a0 + 1) 6)) (a0 + 3 + 16) 0)) (m2 (a0 + 1) 6)) (a0 + 3 + 16 + 3) (ix ((um (um m2 (a0 + 3 + 16 + 1) (ix (m2 (a0 + 3 + 16) 0)) (m1 (a0 + 1) 6)) (a0 + 3 + 16 + 2) (ix ((um m2 (a0 + 3 + 16 + 1) (ix (m2 (a0 + 3 + 16) 0)) (m1 (a0 + 1) 6)) (a0 + 3 + 16) 0)) (m2 (a0 + 1) 6)) (a0 + 3 + 16) 0)) (n32 0)) (a0 + 3 + 16) 0) + (n32 1))) rfl)
      · refine VL_norm km29 k29_1 (VL_at (al := []) (st := []) km29 k29_1 ?_)
        refine And.intro xrt21 ?_
        exact ((h2.2 c6).2 c5)
/-- BannerParade$Parser.parseNumber, label 0 -/
theorem w26_0 {D : Nat} {a0 : Nat} {v1 : Int32} {v2 : Int32} {m : XM} {Q : Int32 → XM → Prop} {E : Nat → XM → Prop}
    (h : VU (D + 1) 84 [vR 9 (a0 + 1)] m (fun m1 => (((m1 (a0 + 1) 5) = (n32 2) → (((m1 (a0 + 1) 6) < v1 → VI (D + 1) 20 [vR 3 (a0), vI (n32 2)] m1 (fun x2 m2 => (xrt 2 x2 = true ∧ Q x2 m2)) E) ∧ (¬ (m1 (a0 + 1) 6) < v1 → (((m1 (a0 + 1) 6) ≤ v2 → Q (n32 1) m1) ∧ (¬ (m1 (a0 + 1) 6) ≤ v2 → VI (D + 1) 20 [vR 3 (a0), vI (n32 2)] m1 (fun x3 m3 => (xrt 2 x3 = true ∧ Q x3 m3)) E))))) ∧ (¬ (m1 (a0 + 1) 5) = (n32 2) → VI (D + 1) 20 [vR 3 (a0), vI (n32 1)] m1 (fun x6 m6 => (xrt 2 x6 = true ∧ Q x6 m6)) E))) E) :
    VI (D + 2) 26 [vR 3 (a0), vI v1, vI v2] m Q E := by
  refine V_of (VL_at (al := [(0, vR 3 (a0)), (1, vI v1), (2, vI v2)]) (st := []) km26 k26_0 ?_)
  refine V_mono h (fun u1 m1 h1 => ?_) (fun _ _ h => h)
  refine And.intro (fun c7 => ?_) (fun c7 => ?_)
  · refine VL_norm km26 k26_2 (VL_at (al := [(0, vR 3 (a0)), (1, vI v1), (2, vI v2)]) (st := []) km26 k26_2 ?_)
    refine And.intro (fun c5 => ?_) (fun c5 => ?_)
    · refine VL_norm km26 k26_4 (VL_at (al := [(0, vR 3 (a0))]) (st := []) km26 k26_4 ?_)
      refine V_mono ((h1.1 c7).1 c5) (fun u2 m2 h2 => ?_) (fun _ _ h => h)
      refine And.intro h2.1 ?_
      exact h2.2
    · refine VL_norm km26 k26_3 (VL_at (al := [(0, vR 3 (a0)), (2, vI v2)]) (st := []) km26 k26_3 ?_)
      refine And.intro (fun c4 => ?_) (fun c4 => ?_)
      · refine VL_norm km26 k26_5 (VL_at (al := []) (st := []) km26 k26_5 ?_)
        refine And.intro xrt21 ?_
        exact (((h1.1 c7).2 c5).1 c4)
      · refine VL_norm km26 k26_4 (VL_at (al := [(0, vR 3 (a0))]) (st := []) km26 k26_4 ?_)
        refine V_mono (((h1.1 c7).2 c5).2 c4) (fun u3 m3 h3 => ?_) (fun _ _ h => h)
        refine And.intro h3.1 ?_
        exact h3.2
  · refine VL_norm km26 k26_1 (VL_at (al := [(0, vR 3 (a0))]) (st := []) km26 k26_1 ?_)
    refine V_mono (h1.2 c7) (fun u6 m6 h6 => ?_) (fun _ _ h => h)
    refine And.intro h6.1 ?_
    exact h6.2
/-- BannerParade$Plans.copyFrom, label 0 -/
theorem w28_0 {D : Nat} {a0 : Nat} {a1 : Nat} {m : XM} {Q : XM → Prop} {E : Nat → XM → Prop}
    (h : VU D 172 [vR 200012 (a1 + 1), vR 200012 (a0 + 1)] (um m (a0) 0 (m a1 0)) (fun m1 => VU D 172 [vR 200012 (a1 + 2), vR 200012 (a0 + 2)] m1 (fun m2 => VU D 172 [vR 200012 (a1 + 3), vR 200012 (a0 + 3)] m2 (fun m3 => Q m3) E) E) E) :
    VU (D + 1) 28 [vR 4 (a0), vR 4 (a1)] m Q E := by
  refine V_of (VL_at (al := [(0, vR 4 (a0)), (1, vR 4 (a1))]) (st := []) km28 k28_0 ?_)
  refine V_mono h (fun u1 m1 h1 => ?_) (fun _ _ h => h)
  refine V_mono h1 (fun u2 m2 h2 => ?_) (fun _ _ h => h)
  refine V_mono h2 (fun u3 m3 h3 => ?_) (fun _ _ h => h)
  exact h3
/-- BannerParade$Plans.withOutcome, label 0 -/
theorem w30_0 {D : Nat} {a0 : Nat} {v1 : Int32} {m : XM} {Q : Int32 → XM → Prop} {E : Nat → XM → Prop}
    (h : VLI D 30 1 [(0, vR 4 (a0)), (1, vI v1), (2, vI (n32 0)), (3, vI (n32 0))] [] m Q E) :
    VI D 30 [vR 4 (a0), vI v1] m Q E := by
  refine V_of (VL_at (al := [(0, vR 4 (a0)), (1, vI v1)]) (st := []) km30 k30_0 ?_)
  exact VL_norm km30 k30_1 h
/-- BannerParade$Plans.withOutcome, label 1 -/
theorem w30_1 {D : Nat} {a0 : Nat} {v1 : Int32} {v2 : Int32} {v3 : Int32} {m : XM} {Q : Int32 → XM → Prop} {E : Nat → XM → Prop}
    (h : (((m a0 0) ≤ v3 → Q v2 m) ∧ (¬ (m a0 0) ≤ v3 → (xin v3 12 = true ∧ (((m (a0 + 3) (ix v3)) = v1 → VLI D 30 1 [(0, vR 4 (a0)), (1, vI v1), (2, vI (v2 + (n32 1))), (3, vI (v3 + (n32 1)))] [] m Q E) ∧ (¬ (m (a0 + 3) (ix v3)) = v1 → VLI D 30 1 [(0, vR 4 (a0)), (1, vI v1), (2, vI v2), (3, vI (v3 + (n32 1)))] [] m Q E)))))) :
    VLI D 30 1 [(0, vR 4 (a0)), (1, vI v1), (2, vI v2), (3, vI v3)] [] m Q E := by
  refine VL_at (al := [(0, vR 4 (a0)), (1, vI v1), (2, vI v2), (3, vI v3)]) (st := []) km30 k30_1 ?_
  refine And.intro (fun c2 => ?_) (fun c2 => ?_)
  · refine VL_norm km30 k30_5 (VL_at (al := [(2, vI v2)]) (st := []) km30 k30_5 ?_)
    exact (h.1 c2)
  · refine VL_norm km30 k30_2 (VL_at (al := [(0, vR 4 (a0)), (1, vI v1), (2, vI v2), (3, vI v3)]) (st := []) km30 k30_2 ?_)
    refine And.intro (h.2 c2).1 ?_
    refine And.intro (fun c1 => ?_) (fun c1 => ?_)
    · refine VL_norm km30 k30_3 (VL_at (al := [(0, vR 4 (a0)), (1, vI v1), (2, vI v2), (3, vI v3)]) (st := []) km30 k30_3 ?_)
      refine VL_norm km30 k30_4 (VL_at (al := [(0, vR 4 (a0)), (1, vI v1), (2, vI (v2 + (n32 1))), (3, vI v3)]) (st := []) km30 k30_4 ?_)
      exact VL_norm km30 k30_1 ((h.2 c2).2.1 c1)
    · refine VL_norm km30 k30_4 (VL_at (al := [(0, vR 4 (a0)), (1, vI v1), (2, vI v2), (3, vI v3)]) (st := []) km30 k30_4 ?_)
      exact VL_norm km30 k30_1 ((h.2 c2).2.2 c1)
/-- BannerParade$Reading.read, label 0 -/
theorem w33_0 {D : Nat} {a0 : Nat} {a1 : Nat} {a2 : Nat} {v3 : Int32} {m : XM} {Q : XM → Prop} {E : Nat → XM → Prop}
    (h : VLU (D + 2) 33 1 [(0, vR 5 (a0)), (1, vR 8 (a1)), (2, vR 6 (a2)), (3, vI v3), (4, vR 7 (a1 + 3)), (5, vI (n32 0))] [] (um (um m (a0) 0 (n32 0)) (a0) 1 (n32 0)) Q E) :
    VU (D + 2) 33 [vR 5 (a0), vR 8 (a1), vR 6 (a2), vI v3] m Q E := by
  refine V_of (VL_at (al := [(0, vR 5 (a0)), (1, vR 8 (a1)), (2, vR 6 (a2)), (3, vI v3)]) (st := []) km33 k33_0 ?_)
  exact VL_norm km33 k33_1 h
/-- BannerParade$Reading.read, label 1 -/
theorem w33_1 {D : Nat} {a0 : Nat} {a1 : Nat} {a2 : Nat} {v3 : Int32} {a4 : Nat} {v5 : Int32} {m : XM} {Q : XM → Prop} {E : Nat → XM → Prop}
    (h : (((m a4 0) ≤ v5 → Q m) ∧ (¬ (m a4 0) ≤ v5 → (xin v3 6 = true ∧ (((m (a2 + 1) (ix v3)) = (n32 1) → VI (D + 1) 79 [vR 8 (a1), vI (((m a4 0) - (n32 1)) - v5), vI (m (a2 + 2) (ix v3))] m (fun x1 m1 => ((x1 = (n32 0) → VLU (D + 2) 33 1 [(0, vR 5 (a0)), (1, vR 8 (a1)), (2, vR 6 (a2)), (3, vI v3), (4, vR 7 (a4)), (5, vI (v5 + (n32 1)))] [] m1 Q E) ∧ (¬ x1 = (n32 0) → VU (D + 1) 34 [vR 5 (a0), vR 7 (a4), vI (((m a4 0) - (n32 1)) - v5), vI (m1 (a1 + 1) (ix (n32 2)))] m1 (fun m2 => VLU (D + 2) 33 1 [(0, vR 5 (a0)), (1, vR 8 (a1)), (2, vR 6 (a2)), (3, vI v3), (4, vR 7 (a4)), (5, vI (v5 + (n32 1)))] [] m2 Q E) E))) E) ∧ (¬ (m (a2 + 1) (ix v3)) = (n32 1) → VI (D + 1) 79 [vR 8 (a1), vI v5, vI (m (a2 + 2) (ix v3))] m (fun x4 m4 => ((x4 = (n32 0) → VLU (D + 2) 33 1 [(0, vR 5 (a0)), (1, vR 8 (a1)), (2, vR 6 (a2)), (3, vI v3), (4, vR 7 (a4)), (5, vI (v5 + (n32 1)))] [] m4 Q E) ∧ (¬ x4 = (n32 0) → VU (D + 1) 34 [vR 5 (a0), vR 7 (a4), vI v5, vI (m4 (a1 + 1) (ix (n32 2)))] m4 (fun m5 => VLU (D + 2) 33 1 [(0, vR 5 (a0)), (1, vR 8 (a1)), (2, vR 6 (a2)), (3, vI v3), (4, vR 7 (a4)), (5, vI (v5 + (n32 1)))] [] m5 Q E) E))) E)))))) :
    VLU (D + 2) 33 1 [(0, vR 5 (a0)), (1, vR 8 (a1)), (2, vR 6 (a2)), (3, vI v3), (4, vR 7 (a4)), (5, vI v5)] [] m Q E := by
  refine VL_at (al := [(0, vR 5 (a0)), (1, vR 8 (a1)), (2, vR 6 (a2)), (3, vI v3), (4, vR 7 (a4)), (5, vI v5)]) (st := []) km33 k33_1 ?_
  refine And.intro (fun c8 => ?_) (fun c8 => ?_)
  · refine VL_norm km33 k33_8 (VL_at (al := []) (st := []) km33 k33_8 ?_)
    exact (h.1 c8)
  · refine VL_norm km33 k33_2 (VL_at (al := [(0, vR 5 (a0)), (1, vR 8 (a1)), (2, vR 6 (a2)), (3, vI v3), (4, vR 7 (a4)), (5, vI v5)]) (st := []) km33 k33_2 ?_)
    refine And.intro (h.2 c8).1 ?_
    refine And.intro (fun c7 => ?_) (fun c7 => ?_)
    · refine VL_norm km33 k33_3 (VL_at (al := [(0, vR 5 (a0)), (1, vR 8 (a1)), (2, vR 6 (a2)), (3, vI v3), (4, vR 7 (a4)), (5, vI v5)]) (st := []) km33 k33_3 ?_)
      refine VL_norm km33 k33_5 (VL_at (al := [(0, vR 5 (a0)), (1, vR 8 (a1)), (2, vR 6 (a2)), (3, vI v3), (4, vR 7 (a4)), (5, vI v5)]) (st := [vI (((m a4 0) - (n32 1)) - v5)]) km33 k33_5 ?_)
      refine And.intro (h.2 c8).1 ?_
      refine V_mono ((h.2 c8).2.1 c7) (fun u1 m1 h1 => ?_) (fun _ _ h => h)
      refine And.intro (fun c3 => ?_) (fun c3 => ?_)
      · refine VL_norm km33 k33_7 (VL_at (al := [(0, vR 5 (a0)), (1, vR 8 (a1)), (2, vR 6 (a2)), (3, vI v3), (4, vR 7 (a4)), (5, vI v5)]) (st := []) km33 k33_7 ?_)
        exact VL_norm km33 k33_1 (h1.1 c3)
      · refine VL_norm km33 k33_6 (VL_at (al := [(0, vR 5 (a0)), (1, vR 8 (a1)), (2, vR 6 (a2)), (3, vI v3), (4, vR 7 (a4)), (5, vI v5), (6, vI (((m a4 0) - (n32 1)) - v5))]) (st := []) km33 k33_6 ?_)
        refine And.intro (xin_k rfl) ?_
        refine V_mono (h1.2 c3) (fun u2 m2 h2 => ?_) (fun _ _ h => h)
        refine VL_norm km33 k33_7 (VL_at (al := [(0, vR 5 (a0)), (1, vR 8 (a1)), (2, vR 6 (a2)), (3, vI v3), (4, vR 7 (a4)), (5, vI v5)]) (st := []) km33 k33_7 ?_)
        exact VL_norm km33 k33_1 h2
    · refine VL_norm km33 k33_4 (VL_at (al := [(0, vR 5 (a0)), (1, vR 8 (a1)), (2, vR 6 (a2)), (3, vI v3), (4, vR 7 (a4)), (5, vI v5)]) (st := []) km33 k33_4 ?_)
      refine VL_norm km33 k33_5 (VL_at (al := [(0, vR 5 (a0)), (1, vR 8 (a1)), (2, vR 6 (a2)), (3, vI v3), (4, vR 7 (a4)), (5, vI v5)]) (st := [vI v5]) km33 k33_5 ?_)
      refine And.intro (h.2 c8).1 ?_
      refine V_mono ((h.2 c8).2.2 c7) (fun u4 m4 h4 => ?_) (fun _ _ h => h)
      refine And.intro (fun c6 => ?_) (fun c6 => ?_)
      · refine VL_norm km33 k33_7 (VL_at (al := [(0, vR 5 (a0)), (1, vR 8 (a1)), (2, vR 6 (a2)), (3, vI v3), (4, vR 7 (a4)), (5, vI v5)]) (st := []) km33 k33_7 ?_)
        exact VL_norm km33 k33_1 (h4.1 c6)
      · refine VL_norm km33 k33_6 (VL_at (al := [(0, vR 5 (a0)), (1, vR 8 (a1)), (2, vR 6 (a2)), (3, vI v3), (4, vR 7 (a4)), (5, vI v5), (6, vI v5)]) (st := []) km33 k33_6 ?_)
        refine And.intro (xin_k rfl) ?_
        refine V_mono (h4.2 c6) (fun u5 m5 h5 => ?_) (fun _ _ h => h)
        refine VL_norm km33 k33_7 (VL_at (al := [(0, vR 5 (a0)), (1, vR 8 (a1)), (2, vR 6 (a2)), (3, vI v3), (4, vR 7 (a4)), (5, vI v5)]) (st := []) km33 k33_7 ?_)
        exact VL_norm km33 k33_1 h5
/-- BannerParade$Reading.addLetter, label 0 -/
theorem w34_0 {D : Nat} {a0 : Nat} {a1 : Nat} {v2 : Int32} {v3 : Int32} {m : XM} {Q : XM → Prop} {E : Nat → XM → Prop}
    (h : (((n32 12) ≤ (m a0 1) → Q m) ∧ (¬ (n32 12) ≤ (m a0 1) → ((((m a0 0) + (n32 1)) < (n32 24) → (((m a0 1) ≤ (n32 0) → (xin v2 12 = true ∧ (xin (m a0 0) 24 = true ∧ (xin ((um (um m (a0 + 1) (ix (m a0 0)) ((n32 96) + (m (a1 + 5) (ix v2)))) (a0) 0 (((um m (a0 + 1) (ix (m a0 0)) ((n32 96) + (m (a1 + 5) (ix v2)))) a0 0) + (n32 1))) a0 1) 12 = true ∧ (∀ μ1 : XM, μ1 = um (um (um m (a0 + 1) (ix (m a0 0)) ((n32 96) + (m (a1 + 5) (ix v2)))) (a0) 0 (((um m (a0 + 1) (ix (m a0 0)) ((n32 96) + (m (a1 + 5) (ix v2)))) a0 0) + (n32 1))) (a0 + 2) (ix ((um (um m (a0 + 1) (ix (m a0 0)) ((n32 96) + (m (a1 + 5) (ix v2)))) (a0) 0 (((um m (a0 + 1) (ix (m a0 0)) ((n32 96) + (m (a1 + 5) (ix v2)))) a0 0) + (n32 1))) a0 1)) v2 → Q (um μ1 (a0) 1 ((μ1 a0 1) + (n32 1)))))))) ∧ (¬ (m a0 1) ≤ (n32 0) → (xin v2 12 = true ∧ (xin ((m a0 1) - (n32 1)) 12 = true ∧ (xin (m (a0 + 2) (ix ((m a0 1) - (n32 1)))) 12 = true ∧ VI D 384 [vI ((m (a1 + 6) (ix v2)) - (m (a1 + 6) (ix (m (a0 + 2) (ix ((m a0 1) - (n32 1)))))))] m (fun x2 m2 => ((x2 ≤ v3 → (xin (m2 a0 0) 24 = true ∧ (∀ μ3 : XM, μ3 = um (um m2 (a0 + 1) (ix (m2 a0 0)) ((n32 96) + (m2 (a1 + 5) (ix v2)))) (a0) 0 (((um m2 (a0 + 1) (ix (m2 a0 0)) ((n32 96) + (m2 (a1 + 5) (ix v2)))) a0 0) + (n32 1)) → (xin (μ3 a0 1) 12 = true ∧ Q (um (um μ3 (a0 + 2) (ix (μ3 a0 1)) v2) (a0) 1 (((um μ3 (a0 + 2) (ix (μ3 a0 1)) v2) a0 1) + (n32 1))))))) ∧ (¬ x2 ≤ v3 → (xin (m2 a0 0) 24 = true ∧ (xin ((um (um m2 (a0 + 1) (ix (m2 a0 0)) (n32 32)) (a0) 0 (((um m2 (a0 + 1) (ix (m2 a0 0)) (n32 32)) a0 0) + (n32 1))) a0 0) 24 = true ∧ (∀ μ4 : XM, μ4 = um (um (um m2 (a0 + 1) (ix (m2 a0 0)) (n32 32)) (a0) 0 (((um m2 (a0 + 1) (ix (m2 a0 0)) (n32 32)) a0 0) + (n32 1))) (a0 + 1) (ix ((um (um m2 (a0 + 1) (ix (m2 a0 0)) (n32 32)) (a0) 0 (((um m2 (a0 + 1) (ix (m2 a0 0)) (n32 32)) a0 0) + (n32 1))) a0 0)) ((n32 96) + ((um (um m2 (a0 + 1) (ix (m2 a0 0)) (n32 32)) (a0) 0 (((um m2 (a0 + 1) (ix (m2 a0 0)) (n32 32)) a0 0) + (n32 1))) (a1 + 5) (ix v2))) → (xin ((um μ4 (a0) 0 ((μ4 a0 0) + (n32 1))) a0 1) 12 = true ∧ (∀ μ5 : XM, μ5 = um (um (um μ4 (a0) 0 ((μ4 a0 0) + (n32 1))) (a0 + 2) (ix ((um μ4 (a0) 0 ((μ4 a0 0) + (n32 1))) a0 1)) v2) (a0) 1 (((um (um μ4 (a0) 0 ((μ4 a0 0) + (n32 1))) (a0 + 2) (ix ((um μ4 (a0) 0 ((μ4 a0 0) + (n32 1))) a0 1)) v2) a0 1) + (n32 1)) → Q μ5)))))))) E)))))) ∧ (¬ ((m a0 0) + (n32 1)) < (n32 24) → Q m))))) :
    VU (D + 1) 34 [vR 5 (a0), vR 7 (a1), vI v2, vI v3] m Q E := by
  refine V_of (VL_at (al := [(0, vR 5 (a0)), (1, vR 7 (a1)), (2, vI v2), (3, vI v3)]) (st := []) km34 k34_0 ?_)
  refine And.intro (fun c9 => ?_) (fun c9 => ?_)
  · refine VL_norm km34 k34_2 (VL_at (al := []) (st := []) km34 k34_2 ?_)
    exact (h.1 c9)
  · refine VL_norm km34 k34_1 (VL_at (al := [(0, vR 5 (a0)), (1, vR 7 (a1)), (2, vI v2), (3, vI v3)]) (st := []) km34 k34_1 ?_)
    refine And.intro (fun c8 => ?_) (fun c8 => ?_)
    · refine VL_norm km34 k34_3 (VL_at (al := [(0, vR 5 (a0)), (1, vR 7 (a1)), (2, vI v2), (3, vI v3)]) (st := []) km34 k34_3 ?_)
      refine And.intro (fun c7 => ?_) (fun c7 => ?_)
      · refine VL_norm km34 k34_6 (VL_at (al := [(0, vR 5 (a0)), (1, vR 7 (a1)), (2, vI v2)]) (st := []) km34 k34_6 ?_)
        refine And.intro (((h.2 c9).1 c8).1 c7).1 ?_
        refine And.intro (((h.2 c9).1 c8).1 c7).2.1 ?_
        refine And.intro (((h.2 c9).1 c8).1 c7).2.2.1 ?_
        exact ((((h.2 c9).1 c8).1 c7).2.2.2 (um (um (um m (a0 + 1) (ix (m a0 0)) ((n32 96) + (m (a1 + 5) (ix v2)))) (a0) 0 (((um m (a0 + 1) (ix (m a0 0)) ((n32 96) + (m (a1 + 5) (ix v2)))) a0 0) + (n32 1))) (a0 + 2) (ix ((um (um m (a0 + 1) (ix (m a0 0)) ((n32 96) + (m (a1 + 5) (ix v2)))) (a0) 0 (((um m (a0 + 1) (ix (m a0 0)) ((n32 96) + (m (a1 + 5) (ix v2)))) a0 0) + (n32 1))) a0 1)) v2) rfl)
      · refine VL_norm km34 k34_4 (VL_at (al := [(0, vR 5 (a0)), (1, vR 7 (a1)), (2, vI v2), (3, vI v3)]) (st := []) km34 k34_4 ?_)
        refine And.intro (((h.2 c9).1 c8).2 c7).1 ?_
        refine And.intro (((h.2 c9).1 c8).2 c7).2.1 ?_
        refine And.intro (((h.2 c9).1 c8).2 c7).2.2.1 ?_
        refine V_mono (((h.2 c9).1 c8).2 c7).2.2.2 (fun u2 m2 h2 => ?_) (fun _ _ h => h)
        refine And.intro (fun c6 => ?_) (fun c6 => ?_)
        · refine VL_norm km34 k34_6 (VL_at (al := [(0, vR 5 (a0)), (1, vR 7 (a1)), (2, vI v2)]) (st := []) km34 k34_6 ?_)
          refine And.intro (((h.2 c9).1 c8).2 c7).1 ?_
          refine And.intro (h2.1 c6).1 ?_
          refine And.intro ((h2.1 c6).2 (um (um m2 (a0 + 1) (ix (m2 a0 0)) ((n32 96) + (m2 (a1 + 5) (ix v2)))) (a0) 0 (((um m2 (a0 + 1) (ix (m2 a0 0)) ((n32 96) + (m2 (a1 + 5) (ix v2)))) a0 0) + (n32 1))) rfl).1 ?_
          exact ((h2.1 c6).2 (um (um m2 (a0 + 1) (ix (m2 a0 0)) ((n32 96) + (m2 (a1 + 5) (ix v2)))) (a0) 0 (((um m2 (a0 + 1) (ix (m2 a0 0)) ((n32 96) + (m2 (a1 + 5) (ix v2)))) a0 0) + (n32 1))) rfl).2
        · refine VL_norm km34 k34_5 (VL_at (al := [(0, vR 5 (a0)), (1, vR 7 (a1)), (2, vI v2)]) (st := []) km34 k34_5 ?_)
          refine And.intro (h2.2 c6).1 ?_
          refine VL_norm km34 k34_6 (VL_at (al := [(0, vR 5 (a0)), (1, vR 7 (a1)), (2, vI v2)]) (st := []) km34 k34_6 ?_)
          refine And.intro (((h.2 c9).1 c8).2 c7).1 ?_
          refine And.intro (h2.2 c6).2.1 ?_
          refine And.intro ((h2.2 c6).2.2 (um (um (um m2 (a0 + 1) (ix (m2 a0 0)) (n32 32)) (a0) 0 (((um m2 (a0 + 1) (ix (m2 a0 0)) (n32 32)) a0 0) + (n32 1))) (a0 + 1) (ix ((um (um m2 (a0 + 1) (ix (m2 a0 0)) (n32 32)) (a0) 0 (((um m2 (a0 + 1) (ix (m2 a0 0)) (n32 32)) a0 0) + (n32 1))) a0 0)) ((n32 96) + ((um (um m2 (a0 + 1) (ix (m2 a0 0)) (n32 32)) (a0) 0 (((um m2 (a0 + 1) (ix (m2 a0 0)) (n32 32)) a0 0) + (n32 1))) (a1 + 5) (ix v2)))) rfl).1 ?_
          exact (((h2.2 c6).2.2 (um (um (um m2 (a0 + 1) (ix (m2 a0 0)) (n32 32)) (a0) 0 (((um m2 (a0 + 1) (ix (m2 a0 0)) (n32 32)) a0 0) + (n32 1))) (a0 + 1) (ix ((um (um m2 (a0 + 1) (ix (m2 a0 0)) (n32 32)) (a0) 0 (((um m2 (a0 + 1) (ix (m2 a0 0)) (n32 32)) a0 0) + (n32 1))) a0 0)) ((n32 96) + ((um (um m2 (a0 + 1) (ix (m2 a0 0)) (n32 32)) (a0) 0 (((um m2 (a0 + 1) (ix (m2 a0 0)) (n32 32)) a0 0) + (n32 1))) (a1 + 5) (ix v2)))) rfl).2 (um (um (um (um (um (um m2 (a0 + 1) (ix (m2 a0 0)) (n32 32)) (a0) 0 (((um m2 (a0 + 1) (ix (m2 a0 0)) (n32 32)) a0 0) + (n32 1))) (a0 + 1) (ix ((um (um m2 (a0 + 1) (ix (m2 a0 0)) (n32 32)) (a0) 0 (((um m2 (a0 + 1) (ix (m2 a0 0)) (n32 32)) a0 0) + (n32 1))) a0 0)) ((n32 96) + ((um (um m2 (a0 + 1) (ix (m2 a0 0)) (n32 32)) (a0) 0 (((um m2 (a0 + 1) (ix (m2 a0 0)) (n32 32)) a0 0) + (n32 1))) (a1 + 5) (ix v2)))) (a0) 0 (((um (um (um m2 (a0 + 1) (ix (m2 a0 0)) (n32 32)) (a0) 0 (((um m2 (a0 + 1) (ix (m2 a0 0)) (n32 32)) a0 0) + (n32 1))) (a0 + 1) (ix ((um (um m2 (a0 + 1) (ix (m2 a0 0)) (n32 32)) (a0) 0 (((um m2 (a0 + 1) (ix (m2 a0 0)) (n32 32)) a0 0) + (n32 1))) a0 0)) ((n32 96) + ((um (um m2 (a0 + 1) (ix (m2 a0 0)) (n32 32)) (a0) 0 (((um m2 (a0 + 1) (ix (m2 a0 0)) (n32 32)) a0 0) + (n32 1))) (a1 + 5) (ix v2)))) a0 0) + (n32 1))) (a0 + 2) (ix ((um (um (um (um m2 (a0 + 1) (ix (m2 a0 0)) (n32 32)) (a0) 0 (((um m2 (a0 + 1) (ix (m2 a0 0)) (n32 32)) a0 0) + (n32 1))) (a0 + 1) (ix ((um (um m2 (a0 + 1) (ix (m2 a0 0)) (n32 32)) (a0) 0 (((um m2 (a0 + 1) (ix (m2 a0 0)) (n32 32)) a0 0) + (n32 1))) a0 0)) ((n32 96) + ((um (um m2 (a0 + 1) (ix (m2 a0 0)) (n32 32)) (a0) 0 (((um m2 (a0 + 1) (ix (m2 a0 0)) (n32 32)) a0 0) + (n32 1))) (a1 + 5) (ix v2)))) (a0) 0 (((um (um (um m2 (a0 + 1) (ix (m2 a0 0)) (n32 32)) (a0) 0 (((um m2 (a0 + 1) (ix (m2 a0 0)) (n32 32)) a0 0) + (n32 1))) (a0 + 1) (ix ((um (um m2 (a0 + 1) (ix (m2 a0 0)) (n32 32)) (a0) 0 (((um m2 (a0 + 1) (ix (m2 a0 0)) (n32 32)) a0 0) + (n32 1))) a0 0)) ((n32 96) + ((um (um m2 (a0 + 1) (ix (m2 a0 0)) (n32 32)) (a0) 0 (((um m2 (a0 + 1) (ix (m2 a0 0)) (n32 32)) a0 0) + (n32 1))) (a1 + 5) (ix v2)))) a0 0) + (n32 1))) a0 1)) v2) (a0) 1 (((um (um (um (um (um m2 (a0 + 1) (ix (m2 a0 0)) (n32 32)) (a0) 0 (((um m2 (a0 + 1) (ix (m2 a0 0)) (n32 32)) a0 0) + (n32 1))) (a0 + 1) (ix ((um (um m2 (a0 + 1) (ix (m2 a0 0)) (n32 32)) (a0) 0 (((um m2 (a0 + 1) (ix (m2 a0 0)) (n32 32)) a0 0) + (n32 1))) a0 0)) ((n32 96) + ((um (um m2 (a0 + 1) (ix (m2 a0 0)) (n32 32)) (a0) 0 (((um m2 (a0 + 1) (ix (m2 a0 0)) (n32 32)) a0 0) + (n32 1))) (a1 + 5) (ix v2)))) (a0) 0 (((um (um (um m2 (a0 + 1) (ix (m2 a0 0)) (n32 32)) (a0) 0 (((um m2 (a0 + 1) (ix (m2 a0 0)) (n32 32)) a0 0) + (n32 1))) (a0 + 1) (ix ((um (um m2 (a0 + 1) (ix (m2 a0 0)) (n32 32)) (a0) 0 (((um m2 (a0 + 1) (ix (m2 a0 0)) (n32 32)) a0 0) + (n32 1))) a0 0)) ((n32 96) + ((um (um m2 (a0 + 1) (ix (m2 a0 0)) (n32 32)) (a0) 0 (((um m2 (a0 + 1) (ix (m2 a0 0)) (n32 32)) a0 0) + (n32 1))) (a1 + 5) (ix v2)))) a0 0) + (n32 1))) (a0 + 2) (ix ((um (um (um (um m2 (a0 + 1) (ix (m2 a0 0)) (n32 32)) (a0) 0 (((um m2 (a0 + 1) (ix (m2 a0 0)) (n32 32)) a0 0) + (n32 1))) (a0 + 1) (ix ((um (um m2 (a0 + 1) (ix (m2 a0 0)) (n32 32)) (a0) 0 (((um m2 (a0 + 1) (ix (m2 a0 0)) (n32 32)) a0 0) + (n32 1))) a0 0)) ((n32 96) + ((um (um m2 (a0 + 1) (ix (m2 a0 0)) (n32 32)) (a0) 0 (((um m2 (a0 + 1) (ix (m2 a0 0)) (n32 32)) a0 0) + (n32 1))) (a1 + 5) (ix v2)))) (a0) 0 (((um (um (um m2 (a0 + 1) (ix (m2 a0 0)) (n32 32)) (a0) 0 (((um m2 (a0 + 1) (ix (m2 a0 0)) (n32 32)) a0 0) + (n32 1))) (a0 + 1) (ix ((um (um m2 (a0 + 1) (ix (m2 a0 0)) (n32 32)) (a0) 0 (((um m2 (a0 + 1) (ix (m2 a0 0)) (n32 32)) a0 0) + (n32 1))) a0 0)) ((n32 96) + ((um (um m2 (a0 + 1) (ix (m2 a0 0)) (n32 32)) (a0) 0 (((um m2 (a0 + 1) (ix (m2 a0 0)) (n32 32)) a0 0) + (n32 1))) (a1 + 5) (ix v2)))) a0 0) + (n32 1))) a0 1)) v2) a0 1) + (n32 1))) rfl)
    · refine VL_norm km34 k34_2 (VL_at (al := []) (st := []) km34 k34_2 ?_)
      exact ((h.2 c9).2 c8)
/-- BannerParade$Reading.alike, label 0 -/
theorem w37_0 {D : Nat} {a0 : Nat} {a1 : Nat} {v2 : Int32} {m : XM} {Q : Int32 → XM → Prop} {E : Nat → XM → Prop}
    (h : VLI (D + 1) 37 1 [(0, vR 5 (a0)), (1, vR 6 (a1)), (2, vI v2), (3, vI (n32 0)), (4, vI (n32 0))] [] m Q E) :
    VI (D + 1) 37 [vR 5 (a0), vR 6 (a1), vI v2] m Q E := by
  refine V_of (VL_at (al := [(0, vR 5 (a0)), (1, vR 6 (a1)), (2, vI v2)]) (st := []) km37 k37_0 ?_)
  exact VL_norm km37 k37_1 h
/-- BannerParade$Reading.alike, label 1 -/
theorem w37_1 {D : Nat} {a0 : Nat} {a1 : Nat} {v2 : Int32} {v3 : Int32} {v4 : Int32} {m : XM} {Q : Int32 → XM → Prop} {E : Nat → XM → Prop}
    (h : (((m a0 0) ≤ v4 → Q v3 m) ∧ (¬ (m a0 0) ≤ v4 → (xin v2 6 = true ∧ (((m (a1 + 3) (ix v2)) ≤ v4 → Q v3 m) ∧ (¬ (m (a1 + 3) (ix v2)) ≤ v4 → (xin v4 24 = true ∧ ((v4 < (n32 0) → (((m (a0 + 1) (ix v4)) = (-(n32 1)) → VLI (D + 1) 37 1 [(0, vR 5 (a0)), (1, vR 6 (a1)), (2, vI v2), (3, vI (v3 + (n32 1))), (4, vI (v4 + (n32 1)))] [] m Q E) ∧ (¬ (m (a0 + 1) (ix v4)) = (-(n32 1)) → VLI (D + 1) 37 1 [(0, vR 5 (a0)), (1, vR 6 (a1)), (2, vI v2), (3, vI v3), (4, vI (v4 + (n32 1)))] [] m Q E))) ∧ (¬ v4 < (n32 0) → (xin ((v2 * (n32 8)) + v4) 48 = true ∧ (((m (a0 + 1) (ix v4)) = (m (a1 + 4) (ix ((v2 * (n32 8)) + v4))) → VLI (D + 1) 37 1 [(0, vR 5 (a0)), (1, vR 6 (a1)), (2, vI v2), (3, vI (v3 + (n32 1))), (4, vI (v4 + (n32 1)))] [] m Q E) ∧ (¬ (m (a0 + 1) (ix v4)) = (m (a1 + 4) (ix ((v2 * (n32 8)) + v4))) → VLI (D + 1) 37 1 [(0, vR 5 (a0)), (1, vR 6 (a1)), (2, vI v2), (3, vI v3), (4, vI (v4 + (n32 1)))] [] m Q E)))))))))))) :
    VLI (D + 1) 37 1 [(0, vR 5 (a0)), (1, vR 6 (a1)), (2, vI v2), (3, vI v3), (4, vI v4)] [] m Q E := by
  refine VL_at (al := [(0, vR 5 (a0)), (1, vR 6 (a1)), (2, vI v2), (3, vI v3), (4, vI v4)]) (st := []) km37 k37_1 ?_
  refine And.intro (fun c5 => ?_) (fun c5 => ?_)
  · refine VL_norm km37 k37_6 (VL_at (al := [(3, vI v3)]) (st := []) km37 k37_6 ?_)
    exact (h.1 c5)
  · refine VL_norm km37 k37_2 (VL_at (al := [(0, vR 5 (a0)), (1, vR 6 (a1)), (2, vI v2), (3, vI v3), (4, vI v4)]) (st := []) km37 k37_2 ?_)
    refine And.intro (h.2 c5).1 ?_
    refine And.intro (fun c4 => ?_) (fun c4 => ?_)
    · refine VL_norm km37 k37_6 (VL_at (al := [(3, vI v3)]) (st := []) km37 k37_6 ?_)
      exact ((h.2 c5).2.1 c4)
    · refine VL_norm km37 k37_3 (VL_at (al := [(0, vR 5 (a0)), (1, vR 6 (a1)), (2, vI v2), (3, vI v3), (4, vI v4)]) (st := []) km37 k37_3 ?_)
      refine And.intro ((h.2 c5).2.2 c4).1 ?_
      refine V_of ?_
      refine VL_norm km45 k45_0 (VL_at (al := [(0, vR 6 (a1)), (1, vI v2), (2, vI v4)]) (st := []) km45 k45_0 ?_)
      refine And.intro (fun c3 => ?_) (fun c3 => ?_)
      · refine VL_norm km45 k45_3 (VL_at (al := []) (st := []) km45 k45_3 ?_)
        refine VL_norm km45 k45_4 (VL_at (al := []) (st := [vI (-(n32 1))]) km45 k45_4 ?_)
        refine And.intro (fun c1 => ?_) (fun c1 => ?_)
        · refine VL_norm km37 k37_4 (VL_at (al := [(0, vR 5 (a0)), (1, vR 6 (a1)), (2, vI v2), (3, vI v3), (4, vI v4)]) (st := []) km37 k37_4 ?_)
          refine VL_norm km37 k37_5 (VL_at (al := [(0, vR 5 (a0)), (1, vR 6 (a1)), (2, vI v2), (3, vI (v3 + (n32 1))), (4, vI v4)]) (st := []) km37 k37_5 ?_)
          exact VL_norm km37 k37_1 ((((h.2 c5).2.2 c4).2.1 c3).1 c1)
        · refine VL_norm km37 k37_5 (VL_at (al := [(0, vR 5 (a0)), (1, vR 6 (a1)), (2, vI v2), (3, vI v3), (4, vI v4)]) (st := []) km37 k37_5 ?_)
          exact VL_norm km37 k37_1 ((((h.2 c5).2.2 c4).2.1 c3).2 c1)
      · refine VL_norm km45 k45_1 (VL_at (al := [(0, vR 6 (a1)), (1, vI v2), (2, vI v4)]) (st := []) km45 k45_1 ?_)
        refine And.intro (h.2 c5).1 ?_
        refine And.intro (fun c => absurd c c4) (fun _ => ?_)
        refine VL_norm km45 k45_2 (VL_at (al := [(0, vR 6 (a1)), (1, vI v2), (2, vI v4)]) (st := []) km45 k45_2 ?_)
        refine And.intro (((h.2 c5).2.2 c4).2.2 c3).1 ?_
        refine VL_norm km45 k45_4 (VL_at (al := []) (st := [vI (m (a1 + 4) (ix ((v2 * (n32 8)) + v4)))]) km45 k45_4 ?_)
        refine And.intro (fun c2 => ?_) (fun c2 => ?_)
        · refine VL_norm km37 k37_4 (VL_at (al := [(0, vR 5 (a0)), (1, vR 6 (a1)), (2, vI v2), (3, vI v3), (4, vI v4)]) (st := []) km37 k37_4 ?_)
          refine VL_norm km37 k37_5 (VL_at (al := [(0, vR 5 (a0)), (1, vR 6 (a1)), (2, vI v2), (3, vI (v3 + (n32 1))), (4, vI v4)]) (st := []) km37 k37_5 ?_)
          exact VL_norm km37 k37_1 ((((h.2 c5).2.2 c4).2.2 c3).2.1 c2)
        · refine VL_norm km37 k37_5 (VL_at (al := [(0, vR 5 (a0)), (1, vR 6 (a1)), (2, vI v2), (3, vI v3), (4, vI v4)]) (st := []) km37 k37_5 ?_)
          exact VL_norm km37 k37_1 ((((h.2 c5).2.2 c4).2.2 c3).2.2 c2)
/-- BannerParade$Reading.isWord, label 0 -/
theorem w39_0 {D : Nat} {a0 : Nat} {a1 : Nat} {v2 : Int32} {m : XM} {Q : Int32 → XM → Prop} {E : Nat → XM → Prop}
    (h : (xin v2 6 = true ∧ (((m a0 0) = (m (a1 + 3) (ix v2)) → VI (D + 1) 37 [vR 5 (a0), vR 6 (a1), vI v2] m (fun x1 m1 => ((x1 = (m1 a0 0) → Q (n32 1) m1) ∧ (¬ x1 = (m1 a0 0) → Q (n32 0) m1))) E) ∧ (¬ (m a0 0) = (m (a1 + 3) (ix v2)) → Q (n32 0) m)))) :
    VI (D + 2) 39 [vR 5 (a0), vR 6 (a1), vI v2] m Q E := by
  refine V_of (VL_at (al := [(0, vR 5 (a0)), (1, vR 6 (a1)), (2, vI v2)]) (st := []) km39 k39_0 ?_)
  refine And.intro h.1 ?_
  refine And.intro (fun c3 => ?_) (fun c3 => ?_)
  · refine VL_norm km39 k39_1 (VL_at (al := [(0, vR 5 (a0)), (1, vR 6 (a1)), (2, vI v2)]) (st := []) km39 k39_1 ?_)
    refine V_mono (h.2.1 c3) (fun u1 m1 h1 => ?_) (fun _ _ h => h)
    refine And.intro (fun c2 => ?_) (fun c2 => ?_)
    · refine VL_norm km39 k39_2 (VL_at (al := []) (st := []) km39 k39_2 ?_)
      refine VL_norm km39 k39_4 (VL_at (al := []) (st := [vI (n32 1)]) km39 k39_4 ?_)
      refine And.intro xrt21 ?_
      exact (h1.1 c2)
    · refine VL_norm km39 k39_3 (VL_at (al := []) (st := []) km39 k39_3 ?_)
      refine VL_norm km39 k39_4 (VL_at (al := []) (st := [vI (n32 0)]) km39 k39_4 ?_)
      refine And.intro xrt20 ?_
      exact (h1.2 c2)
  · refine VL_norm km39 k39_3 (VL_at (al := []) (st := []) km39 k39_3 ?_)
    refine VL_norm km39 k39_4 (VL_at (al := []) (st := [vI (n32 0)]) km39 k39_4 ?_)
    refine And.intro xrt20 ?_
    exact (h.2.2 c3)
/-- BannerParade$Reading.shareOfWord, label 0 -/
theorem w40_0 {D : Nat} {a0 : Nat} {a1 : Nat} {v2 : Int32} {m : XM} {Q : UInt32 → XM → Prop} {E : Nat → XM → Prop}
    (h : (xin v2 6 = true ∧ VI (D + 1) 385 [vI (m a0 0), vI (m (a1 + 3) (ix v2))] m (fun x1 m1 => ((x1 ≤ (n32 0) → Q FP.fconst0 m1) ∧ (¬ x1 ≤ (n32 0) → VI (D + 1) 37 [vR 5 (a0), vR 6 (a1), vI v2] m1 (fun x2 m2 => ((FP.fdiv ((FP.i2f x2)) ((FP.i2f x1))) &&& 0x7fffffff ≤ 0x7f800000 ∧ Q (FP.fdiv ((FP.i2f x2)) ((FP.i2f x1))) m2)) E))) E)) :
    VF (D + 2) 40 [vR 5 (a0), vR 6 (a1), vI v2] m Q E := by
  refine V_of (VL_at (al := [(0, vR 5 (a0)), (1, vR 6 (a1)), (2, vI v2)]) (st := []) km40 k40_0 ?_)
  refine And.intro h.1 ?_
  refine V_mono h.2 (fun u1 m1 h1 => ?_) (fun _ _ h => h)
  refine And.intro (fun c3 => ?_) (fun c3 => ?_)
  · refine VL_norm km40 k40_2 (VL_at (al := []) (st := []) km40 k40_2 ?_)
    refine VL_norm km40 k40_3 (VL_at (al := []) (st := [vF FP.fconst0]) km40 k40_3 ?_)
    exact (h1.1 c3)
  · refine VL_norm km40 k40_1 (VL_at (al := [(0, vR 5 (a0)), (1, vR 6 (a1)), (2, vI v2), (3, vI (xti u1))]) (st := []) km40 k40_1 ?_)
    refine V_mono (h1.2 c3) (fun u2 m2 h2 => ?_) (fun _ _ h => h)
    refine And.intro h2.1 ?_
    refine VL_norm km40 k40_3 (VL_at (al := []) (st := [vF (FP.fdiv ((FP.i2f (xti u2))) ((FP.i2f (xti u1))))]) km40 k40_3 ?_)
    exact h2.2
/-- BannerParade$Route.copyFrom, label 0 -/
theorem w42_0 {D : Nat} {a0 : Nat} {a1 : Nat} {m : XM} {Q : XM → Prop} {E : Nat → XM → Prop}
    (h : VU D 172 [vR 200006 (a1 + 1), vR 200006 (a0 + 1)] (um m (a0) 0 (m a1 0)) (fun m1 => VU D 172 [vR 200006 (a1 + 2), vR 200006 (a0 + 2)] m1 (fun m2 => VU D 172 [vR 200006 (a1 + 3), vR 200006 (a0 + 3)] m2 (fun m3 => VU D 172 [vR 200048 (a1 + 4), vR 200048 (a0 + 4)] m3 (fun m4 => Q m4) E) E) E) E) :
    VU (D + 1) 42 [vR 6 (a0), vR 6 (a1)] m Q E := by
  refine V_of (VL_at (al := [(0, vR 6 (a0)), (1, vR 6 (a1))]) (st := []) km42 k42_0 ?_)
  refine V_mono h (fun u1 m1 h1 => ?_) (fun _ _ h => h)
  refine V_mono h1 (fun u2 m2 h2 => ?_) (fun _ _ h => h)
  refine V_mono h2 (fun u3 m3 h3 => ?_) (fun _ _ h => h)
  refine V_mono h3 (fun u4 m4 h4 => ?_) (fun _ _ h => h)
  exact h4
/-- BannerParade$Row.copyFrom, label 0 -/
theorem w48_0 {D : Nat} {a0 : Nat} {a1 : Nat} {m : XM} {Q : XM → Prop} {E : Nat → XM → Prop}
    (h : VU D 172 [vR 200012 (a1 + 1), vR 200012 (a0 + 1)] (um m (a0) 0 (m a1 0)) (fun m1 => VU D 172 [vR 200012 (a1 + 2), vR 200012 (a0 + 2)] m1 (fun m2 => VU D 172 [vR 200012 (a1 + 3), vR 200012 (a0 + 3)] m2 (fun m3 => VU D 172 [vR 200012 (a1 + 4), vR 200012 (a0 + 4)] m3 (fun m4 => VU D 172 [vR 200012 (a1 + 5), vR 200012 (a0 + 5)] m4 (fun m5 => VU D 172 [vR 200012 (a1 + 6), vR 200012 (a0 + 6)] m5 (fun m6 => VU D 172 [vR 200012 (a1 + 8), vR 200012 (a0 + 8)] m6 (fun m7 => Q m7) E) E) E) E) E) E) E) :
    VU (D + 1) 48 [vR 7 (a0), vR 7 (a1)] m Q E := by
  refine V_of (VL_at (al := [(0, vR 7 (a0)), (1, vR 7 (a1))]) (st := []) km48 k48_0 ?_)
  refine V_mono h (fun u1 m1 h1 => ?_) (fun _ _ h => h)
  refine V_mono h1 (fun u2 m2 h2 => ?_) (fun _ _ h => h)
  refine V_mono h2 (fun u3 m3 h3 => ?_) (fun _ _ h => h)
  refine V_mono h3 (fun u4 m4 h4 => ?_) (fun _ _ h => h)
  refine V_mono h4 (fun u5 m5 h5 => ?_) (fun _ _ h => h)
  refine V_mono h5 (fun u6 m6 h6 => ?_) (fun _ _ h => h)
  refine V_mono h6 (fun u7 m7 h7 => ?_) (fun _ _ h => h)
  exact h7
/-- BannerParade$Row.join, label 0 -/
theorem w49_0 {D : Nat} {a0 : Nat} {v1 : Int32} {v2 : Int32} {v3 : Int32} {v4 : Int32} {m : XM} {Q : XM → Prop} {E : Nat → XM → Prop}
    (h : (((m a0 0) < (n32 12) → (xin (m a0 0) 12 = true ∧ (xin ((um m (a0 + 1) (ix (m a0 0)) v1) a0 0) 12 = true ∧ (xin ((um (um m (a0 + 1) (ix (m a0 0)) v1) (a0 + 2) (ix ((um m (a0 + 1) (ix (m a0 0)) v1) a0 0)) v2) a0 0) 12 = true ∧ (∀ μ1 : XM, μ1 = um (um (um m (a0 + 1) (ix (m a0 0)) v1) (a0 + 2) (ix ((um m (a0 + 1) (ix (m a0 0)) v1) a0 0)) v2) (a0 + 3) (ix ((um (um m (a0 + 1) (ix (m a0 0)) v1) (a0 + 2) (ix ((um m (a0 + 1) (ix (m a0 0)) v1) a0 0)) v2) a0 0)) v3 → (xin (μ1 a0 0) 12 = true ∧ (xin ((um μ1 (a0 + 4) (ix (μ1 a0 0)) (n32 100)) a0 0) 12 = true ∧ (xin ((um (um μ1 (a0 + 4) (ix (μ1 a0 0)) (n32 100)) (a0 + 5) (ix ((um μ1 (a0 + 4) (ix (μ1 a0 0)) (n32 100)) a0 0)) v1) a0 0) 12 = true ∧ (∀ μ2 : XM, μ2 = um (um (um μ1 (a0 + 4) (ix (μ1 a0 0)) (n32 100)) (a0 + 5) (ix ((um μ1 (a0 + 4) (ix (μ1 a0 0)) (n32 100)) a0 0)) v1) (a0 + 6) (ix ((um (um μ1 (a0 + 4) (ix (μ1 a0 0)) (n32 100)) (a0 + 5) (ix ((um μ1 (a0 + 4) (ix (μ1 a0 0)) (n32 100)) a0 0)) v1) a0 0)) (((-v4)) * ((um (um μ1 (a0 + 4) (ix (μ1 a0 0)) (n32 100)) (a0 + 5) (ix ((um μ1 (a0 + 4) (ix (μ1 a0 0)) (n32 100)) a0 0)) v1) a0 0)) → (xin (μ2 a0 0) 12 = true ∧ (xin ((um μ2 (a0 + 7) (ix (μ2 a0 0)) (μ2 (a0 + 6) (ix (μ2 a0 0)))) a0 0) 12 = true ∧ (∀ μ3 : XM, μ3 = um (um (um μ2 (a0 + 7) (ix (μ2 a0 0)) (μ2 (a0 + 6) (ix (μ2 a0 0)))) (a0 + 8) (ix ((um μ2 (a0 + 7) (ix (μ2 a0 0)) (μ2 (a0 + 6) (ix (μ2 a0 0)))) a0 0)) (n32 0)) (a0) 0 (((um (um μ2 (a0 + 7) (ix (μ2 a0 0)) (μ2 (a0 + 6) (ix (μ2 a0 0)))) (a0 + 8) (ix ((um μ2 (a0 + 7) (ix (μ2 a0 0)) (μ2 (a0 + 6) (ix (μ2 a0 0)))) a0 0)) (n32 0)) a0 0) + (n32 1)) → Q μ3)))))))))))) ∧ (¬ (m a0 0) < (n32 12) → Q m))) :
    VU D 49 [vR 7 (a0), vI v1, vI v2, vI v3, vI v4] m Q E := by
  refine V_of (VL_at (al := [(0, vR 7 (a0)), (1, vI v1), (2, vI v2), (3, vI v3), (4, vI v4)]) (st := []) km49 k49_0 ?_)
  refine And.intro (fun c4 => ?_) (fun c4 => ?_)
  · refine VL_norm km49 k49_2 (VL_at (al := [(0, vR 7 (a0)), (1, vI v1), (2, vI v2), (3, vI v3), (4, vI v4)]) (st := []) km49 k49_2 ?_)
    refine And.intro (h.1 c4).1 ?_
    refine And.intro (h.1 c4).2.1 ?_
    refine And.intro (h.1 c4).2.2.1 ?_
    refine And.intro ((h.1 c4).2.2.2 (um (um (um m (a0 + 1) (ix (m a0 0)) v1) (a0 + 2) (ix ((um m (a0 + 1) (ix (m a0 0)) v1) a0 0)) v2) (a0 + 3) (ix ((um (um m (a0 + 1) (ix (m a0 0)) v1) (a0 + 2) (ix ((um m (a0 + 1) (ix (m a0 0)) v1) a0 0)) v2) a0 0)) v3) rfl).1 ?_
    refine And.intro ((h.1 c4).2.2.2 (um (um (um m (a0 + 1) (ix (m a0 0)) v1) (a0 + 2) (ix ((um m (a0 + 1) (ix (m a0 0)) v1) a0 0)) v2) (a0 + 3) (ix ((um (um m (a0 + 1) (ix (m a0 0)) v1) (a0 + 2) (ix ((um m (a0 + 1) (ix (m a0 0)) v1) a0 0)) v2) a0 0)) v3) rfl).2.1 ?_
    refine And.intro ((h.1 c4).2.2.2 (um (um (um m (a0 + 1) (ix (m a0 0)) v1) (a0 + 2) (ix ((um m (a0 + 1) (ix (m a0 0)) v1) a0 0)) v2) (a0 + 3) (ix ((um (um m (a0 + 1) (ix (m a0 0)) v1) (a0 + 2) (ix ((um m (a0 + 1) (ix (m a0 0)) v1) a0 0)) v2) a0 0)) v3) rfl).2.2.1 ?_
    refine And.intro (((h.1 c4).2.2.2 (um (um (um m (a0 + 1) (ix (m a0 0)) v1) (a0 + 2) (ix ((um m (a0 + 1) (ix (m a0 0)) v1) a0 0)) v2) (a0 + 3) (ix ((um (um m (a0 + 1) (ix (m a0 0)) v1) (a0 + 2) (ix ((um m (a0 + 1) (ix (m a0 0)) v1) a0 0)) v2) a0 0)) v3) rfl).2.2.2 (um (um (um (um (um (um m (a0 + 1) (ix (m a0 0)) v1) (a0 + 2) (ix ((um m (a0 + 1) (ix (m a0 0)) v1) a0 0)) v2) (a0 + 3) (ix ((um (um m (a0 + 1) (ix (m a0 0)) v1) (a0 + 2) (ix ((um m (a0 + 1) (ix (m a0 0)) v1) a0 0)) v2) a0 0)) v3) (a0 + 4) (ix ((um (um (um m (a0 + 1) (ix (m a0 0)) v1) (a0 + 2) (ix ((um m (a0 + 1) (ix (m a0 0)) v1) a0 0)) v2) (a0 + 3) (ix ((um (um m (a0 + 1) (ix (m a0 0)) v1) (a0 + 2) (ix ((um m (a0 + 1) (ix (m a0 0)) v1) a0 0)) v2) a0 0)) v3) a0 0)) (n32 100)) (a0 + 5) (ix ((um (um (um (um m (a0 + 1) (ix (m a0 0)) v1) (a0 + 2) (ix ((um m (a0 + 1) (ix (m a0 0)) v1) a0 0)) v2) (a0 + 3) (ix ((um (um m (a0 + 1) (ix (m a0 0)) v1) (a0 + 2) (ix ((um m (a0 + 1) (ix (m a0 0)) v1) a0 0)) v2) a0 0)) v3) (a0 + 4) (ix ((um (um (um m (a0 + 1) (ix (m a0 0)) v1) (a0 + 2) (ix ((um m (a0 + 1) (ix (m a0 0)) v1) a0 0)) v2) (a0 + 3) (ix ((um (um m (a0 + 1) (ix (m a0 0)) v1) (a0 + 2) (ix ((um m (a0 + 1) (ix (m a0 0)) v1) a0 0)) v2) a0 0)) v3) a0 0)) (n32 100)) a0 0)) v1) (a0 + 6) (ix ((um (um (um (um (um m (a0 + 1) (ix (m a0 0)) v1) (a0 + 2) (ix ((um m (a0 + 1) (ix (m a0 0)) v1) a0 0)) v2) (a0 + 3) (ix ((um (um m (a0 + 1) (ix (m a0 0)) v1) (a0 + 2) (ix ((um m (a0 + 1) (ix (m a0 0)) v1) a0 0)) v2) a0 0)) v3) (a0 + 4) (ix ((um (um (um m (a0 + 1) (ix (m a0 0)) v1) (a0 + 2) (ix ((um m (a0 + 1) (ix (m a0 0)) v1) a0 0)) v2) (a0 + 3) (ix ((um (um m (a0 + 1) (ix (m a0 0)) v1) (a0 + 2) (ix ((um m (a0 + 1) (ix (m a0 0)) v1) a0 0)) v2) a0 0)) v3) a0 0)) (n32 100)) (a0 + 5) (ix ((um (um (um (um m (a0 + 1) (ix (m a0 0)) v1) (a0 + 2) (ix ((um m (a0 + 1) (ix (m a0 0)) v1) a0 0)) v2) (a0 + 3) (ix ((um (um m (a0 + 1) (ix (m a0 0)) v1) (a0 + 2) (ix ((um m (a0 + 1) (ix (m a0 0)) v1) a0 0)) v2) a0 0)) v3) (a0 + 4) (ix ((um (um (um m (a0 + 1) (ix (m a0 0)) v1) (a0 + 2) (ix ((um m (a0 + 1) (ix (m a0 0)) v1) a0 0)) v2) (a0 + 3) (ix ((um (um m (a0 + 1) (ix (m a0 0)) v1) (a0 + 2) (ix ((um m (a0 + 1) (ix (m a0 0)) v1) a0 0)) v2) a0 0)) v3) a0 0)) (n32 100)) a0 0)) v1) a0 0)) (((-v4)) * ((um (um (um (um (um m (a0 + 1) (ix (m a0 0)) v1) (a0 + 2) (ix ((um m (a0 + 1) (ix (m a0 0)) v1) a0 0)) v2) (a0 + 3) (ix ((um (um m (a0 + 1) (ix (m a0 0)) v1) (a0 + 2) (ix ((um m (a0 + 1) (ix (m a0 0)) v1) a0 0)) v2) a0 0)) v3) (a0 + 4) (ix ((um (um (um m (a0 + 1) (ix (m a0 0)) v1) (a0 + 2) (ix ((um m (a0 + 1) (ix (m a0 0)) v1) a0 0)) v2) (a0 + 3) (ix ((um (um m (a0 + 1) (ix (m a0 0)) v1) (a0 + 2) (ix ((um m (a0 + 1) (ix (m a0 0)) v1) a0 0)) v2) a0 0)) v3) a0 0)) (n32 100)) (a0 + 5) (ix ((um (um (um (um m (a0 + 1) (ix (m a0 0)) v1) (a0 + 2) (ix ((um m (a0 + 1) (ix (m a0 0)) v1) a0 0)) v2) (a0 + 3) (ix ((um (um m (a0 + 1) (ix (m a0 0)) v1) (a0 + 2) (ix ((um m (a0 + 1) (ix (m a0 0)) v1) a0 0)) v2) a0 0)) v3) (a0 + 4) (ix ((um (um (um m (a0 + 1) (ix (m a0 0)) v1) (a0 + 2) (ix ((um m (a0 + 1) (ix (m a0 0)) v1) a0 0)) v2) (a0 + 3) (ix ((um (um m (a0 + 1) (ix (m a0 0)) v1) (a0 + 2) (ix ((um m (a0 + 1) (ix (m a0 0)) v1) a0 0)) v2) a0 0)) v3) a0 0)) (n32 100)) a0 0)) v1) a0 0))) rfl).1 ?_
    refine And.intro (((h.1 c4).2.2.2 (um (um (um m (a0 + 1) (ix (m a0 0)) v1) (a0 + 2) (ix ((um m (a0 + 1) (ix (m a0 0)) v1) a0 0)) v2) (a0 + 3) (ix ((um (um m (a0 + 1) (ix (m a0 0)) v1) (a0 + 2) (ix ((um m (a0 + 1) (ix (m a0 0)) v1) a0 0)) v2) a0 0)) v3) rfl).2.2.2 (um (um (um (um (um (um m (a0 + 1) (ix (m a0 0)) v1) (a0 + 2) (ix ((um m (a0 + 1) (ix (m a0 0)) v1) a0 0)) v2) (a0 + 3) (ix ((um (um m (a0 + 1) (ix (m a0 0)) v1) (a0 + 2) (ix ((um m (a0 + 1) (ix (m a0 0)) v1) a0 0)) v2) a0 0)) v3) (a0 + 4) (ix ((um (um (um m (a0 + 1) (ix (m a0 0)) v1) (a0 + 2) (ix ((um m (a0 + 1) (ix (m a0 0)) v1) a0 0)) v2) (a0 + 3) (ix ((um (um m (a0 + 1) (ix (m a0 0)) v1) (a0 + 2) (ix ((um m (a0 + 1) (ix (m a0 0)) v1) a0 0)) v2) a0 0)) v3) a0 0)) (n32 100)) (a0 + 5) (ix ((um (um (um (um m (a0 + 1) (ix (m a0 0)) v1) (a0 + 2) (ix ((um m (a0 + 1) (ix (m a0 0)) v1) a0 0)) v2) (a0 + 3) (ix ((um (um m (a0 + 1) (ix (m a0 0)) v1) (a0 + 2) (ix ((um m (a0 + 1) (ix (m a0 0)) v1) a0 0)) v2) a0 0)) v3) (a0 + 4) (ix ((um (um (um m (a0 + 1) (ix (m a0 0)) v1) (a0 + 2) (ix ((um m (a0 + 1) (ix (m a0 0)) v1) a0 0)) v2) (a0 + 3) (ix ((um (um m (a0 + 1) (ix (m a0 0)) v1) (a0 + 2) (ix ((um m (a0 + 1) (ix (m a0 0)) v1) a0 0)) v2) a0 0)) v3) a0 0)) (n32 100)) a0 0)) v1) (a0 + 6) (ix ((um (um (um (um (um m (a0 + 1) (ix (m a0 0)) v1) (a0 + 2) (ix ((um m (a0 + 1) (ix (m a0 0)) v1) a0 0)) v2) (a0 + 3) (ix ((um (um m (a0 + 1) (ix (m a0 0)) v1) (a0 + 2) (ix ((um m (a0 + 1) (ix (m a0 0)) v1) a0 0)) v2) a0 0)) v3) (a0 + 4) (ix ((um (um (um m (a0 + 1) (ix (m a0 0)) v1) (a0 + 2) (ix ((um m (a0 + 1) (ix (m a0 0)) v1) a0 0)) v2) (a0 + 3) (ix ((um (um m (a0 + 1) (ix (m a0 0)) v1) (a0 + 2) (ix ((um m (a0 + 1) (ix (m a0 0)) v1) a0 0)) v2) a0 0)) v3) a0 0)) (n32 100)) (a0 + 5) (ix ((um (um (um (um m (a0 + 1) (ix (m a0 0)) v1) (a0 + 2) (ix ((um m (a0 + 1) (ix (m a0 0)) v1) a0 0)) v2) (a0 + 3) (ix ((um (um m (a0 + 1) (ix (m a0 0)) v1) (a0 + 2) (ix ((um m (a0 + 1) (ix (m a0 0)) v1) a0 0)) v2) a0 0)) v3) (a0 + 4) (ix ((um (um (um m (a0 + 1) (ix (m a0 0)) v1) (a0 + 2) (ix ((um m (a0 + 1) (ix (m a0 0)) v1) a0 0)) v2) (a0 + 3) (ix ((um (um m (a0 + 1) (ix (m a0 0)) v1) (a0 + 2) (ix ((um m (a0 + 1) (ix (m a0 0)) v1) a0 0)) v2) a0 0)) v3) a0 0)) (n32 100)) a0 0)) v1) a0 0)) (((-v4)) * ((um (um (um (um (um m (a0 + 1) (ix (m a0 0)) v1) (a0 + 2) (ix ((um m (a0 + 1) (ix (m a0 0)) v1) a0 0)) v2) (a0 + 3) (ix ((um (um m (a0 + 1) (ix (m a0 0)) v1) (a0 + 2) (ix ((um m (a0 + 1) (ix (m a0 0)) v1) a0 0)) v2) a0 0)) v3) (a0 + 4) (ix ((um (um (um m (a0 + 1) (ix (m a0 0)) v1) (a0 + 2) (ix ((um m (a0 + 1) (ix (m a0 0)) v1) a0 0)) v2) (a0 + 3) (ix ((um (um m (a0 + 1) (ix (m a0 0)) v1) (a0 + 2) (ix ((um m (a0 + 1) (ix (m a0 0)) v1) a0 0)) v2) a0 0)) v3) a0 0)) (n32 100)) (a0 + 5) (ix ((um (um (um (um m (a0 + 1) (ix (m a0 0)) v1) (a0 + 2) (ix ((um m (a0 + 1) (ix (m a0 0)) v1) a0 0)) v2) (a0 + 3) (ix ((um (um m (a0 + 1) (ix (m a0 0)) v1) (a0 + 2) (ix ((um m (a0 + 1) (ix (m a0 0)) v1) a0 0)) v2) a0 0)) v3) (a0 + 4) (ix ((um (um (um m (a0 + 1) (ix (m a0 0)) v1) (a0 + 2) (ix ((um m (a0 + 1) (ix (m a0 0)) v1) a0 0)) v2) (a0 + 3) (ix ((um (um m (a0 + 1) (ix (m a0 0)) v1) (a0 + 2) (ix ((um m (a0 + 1) (ix (m a0 0)) v1) a0 0)) v2) a0 0)) v3) a0 0)) (n32 100)) a0 0)) v1) a0 0))) rfl).1 ?_
    refine And.intro (((h.1 c4).2.2.2 (um (um (um m (a0 + 1) (ix (m a0 0)) v1) (a0 + 2) (ix ((um m (a0 + 1) (ix (m a0 0)) v1) a0 0)) v2) (a0 + 3) (ix ((um (um m (a0 + 1) (ix (m a0 0)) v1) (a0 + 2) (ix ((um m (a0 + 1) (ix (m a0 0)) v1) a0 0)) v2) a0 0)) v3) rfl).2.2.2 (um (um (um (um (um (um m (a0 + 1) (ix (m a0 0)) v1) (a0 + 2) (ix ((um m (a0 + 1) (ix (m a0 0)) v1) a0 0)) v2) (a0 + 3) (ix ((um (um m (a0 + 1) (ix (m a0 0)) v1) (a0 + 2) (ix ((um m (a0 + 1) (ix (m a0 0)) v1) a0 0)) v2) a0 0)) v3) (a0 + 4) (ix ((um (um (um m (a0 + 1) (ix (m a0 0)) v1) (a0 + 2) (ix ((um m (a0 + 1) (ix (m a0 0)) v1) a0 0)) v2) (a0 + 3) (ix ((um (um m (a0 + 1) (ix (m a0 0)) v1) (a0 + 2) (ix ((um m (a0 + 1) (ix (m a0 0)) v1) a0 0)) v2) a0 0)) v3) a0 0)) (n32 100)) (a0 + 5) (ix ((um (um (um (um m (a0 + 1) (ix (m a0 0)) v1) (a0 + 2) (ix ((um m (a0 + 1) (ix (m a0 0)) v1) a0 0)) v2) (a0 + 3) (ix ((um (um m (a0 + 1) (ix (m a0 0)) v1) (a0 + 2) (ix ((um m (a0 + 1) (ix (m a0 0)) v1) a0 0)) v2) a0 0)) v3) (a0 + 4) (ix ((um (um (um m (a0 + 1) (ix (m a0 0)) v1) (a0 + 2) (ix ((um m (a0 + 1) (ix (m a0 0)) v1) a0 0)) v2) (a0 + 3) (ix ((um (um m (a0 + 1) (ix (m a0 0)) v1) (a0 + 2) (ix ((um m (a0 + 1) (ix (m a0 0)) v1) a0 0)) v2) a0 0)) v3) a0 0)) (n32 100)) a0 0)) v1) (a0 + 6) (ix ((um (um (um (um (um m (a0 + 1) (ix (m a0 0)) v1) (a0 + 2) (ix ((um m (a0 + 1) (ix (m a0 0)) v1) a0 0)) v2) (a0 + 3) (ix ((um (um m (a0 + 1) (ix (m a0 0)) v1) (a0 + 2) (ix ((um m (a0 + 1) (ix (m a0 0)) v1) a0 0)) v2) a0 0)) v3) (a0 + 4) (ix ((um (um (um m (a0 + 1) (ix (m a0 0)) v1) (a0 + 2) (ix ((um m (a0 + 1) (ix (m a0 0)) v1) a0 0)) v2) (a0 + 3) (ix ((um (um m (a0 + 1) (ix (m a0 0)) v1) (a0 + 2) (ix ((um m (a0 + 1) (ix (m a0 0)) v1) a0 0)) v2) a0 0)) v3) a0 0)) (n32 100)) (a0 + 5) (ix ((um (um (um (um m (a0 + 1) (ix (m a0 0)) v1) (a0 + 2) (ix ((um m (a0 + 1) (ix (m a0 0)) v1) a0 0)) v2) (a0 + 3) (ix ((um (um m (a0 + 1) (ix (m a0 0)) v1) (a0 + 2) (ix ((um m (a0 + 1) (ix (m a0 0)) v1) a0 0)) v2) a0 0)) v3) (a0 + 4) (ix ((um (um (um m (a0 + 1) (ix (m a0 0)) v1) (a0 + 2) (ix ((um m (a0 + 1) (ix (m a0 0)) v1) a0 0)) v2) (a0 + 3) (ix ((um (um m (a0 + 1) (ix (m a0 0)) v1) (a0 + 2) (ix ((um m (a0 + 1) (ix (m a0 0)) v1) a0 0)) v2) a0 0)) v3) a0 0)) (n32 100)) a0 0)) v1) a0 0)) (((-v4)) * ((um (um (um (um (um m (a0 + 1) (ix (m a0 0)) v1) (a0 + 2) (ix ((um m (a0 + 1) (ix (m a0 0)) v1) a0 0)) v2) (a0 + 3) (ix ((um (um m (a0 + 1) (ix (m a0 0)) v1) (a0 + 2) (ix ((um m (a0 + 1) (ix (m a0 0)) v1) a0 0)) v2) a0 0)) v3) (a0 + 4) (ix ((um (um (um m (a0 + 1) (ix (m a0 0)) v1) (a0 + 2) (ix ((um m (a0 + 1) (ix (m a0 0)) v1) a0 0)) v2) (a0 + 3) (ix ((um (um m (a0 + 1) (ix (m a0 0)) v1) (a0 + 2) (ix ((um m (a0 + 1) (ix (m a0 0)) v1) a0 0)) v2) a0 0)) v3) a0 0)) (n32 100)) (a0 + 5) (ix ((um (um (um (um m (a0 + 1) (ix (m a0 0)) v1) (a0 + 2) (ix ((um m (a0 + 1) (ix (m a0 0)) v1) a0 0)) v2) (a0 + 3) (ix ((um (um m (a0 + 1) (ix (m a0 0)) v1) (a0 + 2) (ix ((um m (a0 + 1) (ix (m a0 0)) v1) a0 0)) v2) a0 0)) v3) (a0 + 4) (ix ((um (um (um m (a0 + 1) (ix (m a0 0)) v1) (a0 + 2) (ix ((um m (a0 + 1) (ix (m a0 0)) v1) a0 0)) v2) (a0 + 3) (ix ((um (um m (a0 + 1) (ix (m a0 0)) v1) (a0 + 2) (ix ((um m (a0 + 1) (ix (m a0 0)) v1) a0 0)) v2) a0 0)) v3) a0 0)) (n32 100)) a0 0)) v1) a0 0))) rfl).2.1 ?_
    exact ((((h.1 c4).2.2.2 (um (um (um m (a0 + 1) (ix (m a0 0)) v1) (a0 + 2) (ix ((um m (a0 + 1) (ix (m a0 0)) v1) a0 0)) v2) (a0 + 3) (ix ((um (um m (a0 + 1) (ix (m a0 0)) v1) (a0 + 2) (ix ((um m (a0 + 1) (ix (m a0 0)) v1) a0 0)) v2) a0 0)) v3) rfl).2.2.2 (um (um (um (um (um (um m (a0 + 1) (ix (m a0 0)) v1) (a0 + 2) (ix ((um m (a0 + 1) (ix (m a0 0)) v1) a0 0)) v2) (a0 + 3) (ix ((um (um m (a0 + 1) (ix (m a0 0)) v1) (a0 + 2) (ix ((um m (a0 + 1) (ix (m a0 0)) v1) a0 0)) v2) a0 0)) v3) (a0 + 4) (ix ((um (um (um m (a0 + 1) (ix (m a0 0)) v1) (a0 + 2) (ix ((um m (a0 + 1) (ix (m a0 0)) v1) a0 0)) v2) (a0 + 3) (ix ((um (um m (a0 + 1) (ix (m a0 0)) v1) (a0 + 2) (ix ((um m (a0 + 1) (ix (m a0 0)) v1) a0 0)) v2) a0 0)) v3) a0 0)) (n32 100)) (a0 + 5) (ix ((um (um (um (um m (a0 + 1) (ix (m a0 0)) v1) (a0 + 2) (ix ((um m (a0 + 1) (ix (m a0 0)) v1) a0 0)) v2) (a0 + 3) (ix ((um (um m (a0 + 1) (ix (m a0 0)) v1) (a0 + 2) (ix ((um m (a0 + 1) (ix (m a0 0)) v1) a0 0)) v2) a0 0)) v3) (a0 + 4) (ix ((um (um (um m (a0 + 1) (ix (m a0 0)) v1) (a0 + 2) (ix ((um m (a0 + 1) (ix (m a0 0)) v1) a0 0)) v2) (a0 + 3) (ix ((um (um m (a0 + 1) (ix (m a0 0)) v1) (a0 + 2) (ix ((um m (a0 + 1) (ix (m a0 0)) v1) a0 0)) v2) a0 0)) v3) a0 0)) (n32 100)) a0 0)) v1) (a0 + 6) (ix ((um (um (um (um (um m (a0 + 1) (ix (m a0 0)) v1) (a0 + 2) (ix ((um m (a0 + 1) (ix (m a0 0)) v1) a0 0)) v2) (a0 + 3) (ix ((um (um m (a0 + 1) (ix (m a0 0)) v1) (a0 + 2) (ix ((um m (a0 + 1) (ix (m a0 0)) v1) a0 0)) v2) a0 0)) v3) (a0 + 4) (ix ((um (um (um m (a0 + 1) (ix (m a0 0)) v1) (a0 + 2) (ix ((um m (a0 + 1) (ix (m a0 0)) v1) a0 0)) v2) (a0 + 3) (ix ((um (um m (a0 + 1) (ix (m a0 0)) v1) (a0 + 2) (ix ((um m (a0 + 1) (ix (m a0 0)) v1) a0 0)) v2) a0 0)) v3) a0 0)) (n32 100)) (a0 + 5) (ix ((um (um (um (um m (a0 + 1) (ix (m a0 0)) v1) (a0 + 2) (ix ((um m (a0 + 1) (ix (m a0 0)) v1) a0 0)) v2) (a0 + 3) (ix ((um (um m (a0 + 1) (ix (m a0 0)) v1) (a0 + 2) (ix ((um m (a0 + 1) (ix (m a0 0)) v1) a0 0)) v2) a0 0)) v3) (a0 + 4) (ix ((um (um (um m (a0 + 1) (ix (m a0 0)) v1) (a0 + 2) (ix ((um m (a0 + 1) (ix (m a0 0)) v1) a0 0)) v2) (a0 + 3) (ix ((um (um m (a0 + 1) (ix (m a0 0)) v1) (a0 + 2) (ix ((um m (a0 + 1) (ix (m a0 0)) v1) a0 0)) v2) a0 0)) v3) a0 0)) (n32 100)) a0 0)) v1) a0 0)) (((-v4)) * ((um (um (um (um (um m (a0 + 1) (ix (m a0 0)) v1) (a0 + 2) (ix ((um m (a0 + 1) (ix (m a0 0)) v1) a0 0)) v2) (a0 + 3) (ix ((um (um m (a0 + 1) (ix (m a0 0)) v1) (a0 + 2) (ix ((um m (a0 + 1) (ix (m a0 0)) v1) a0 0)) v2) a0 0)) v3) (a0 + 4) (ix ((um (um (um m (a0 + 1) (ix (m a0 0)) v1) (a0 + 2) (ix ((um m (a0 + 1) (ix (m a0 0)) v1) a0 0)) v2) (a0 + 3) (ix ((um (um m (a0 + 1) (ix (m a0 0)) v1) (a0 + 2) (ix ((um m (a0 + 1) (ix (m a0 0)) v1) a0 0)) v2) a0 0)) v3) a0 0)) (n32 100)) (a0 + 5) (ix ((um (um (um (um m (a0 + 1) (ix (m a0 0)) v1) (a0 + 2) (ix ((um m (a0 + 1) (ix (m a0 0)) v1) a0 0)) v2) (a0 + 3) (ix ((um (um m (a0 + 1) (ix (m a0 0)) v1) (a0 + 2) (ix ((um m (a0 + 1) (ix (m a0 0)) v1) a0 0)) v2) a0 0)) v3) (a0 + 4) (ix ((um (um (um m (a0 + 1) (ix (m a0 0)) v1) (a0 + 2) (ix ((um m (a0 + 1) (ix (m a0 0)) v1) a0 0)) v2) (a0 + 3) (ix ((um (um m (a0 + 1) (ix (m a0 0)) v1) (a0 + 2) (ix ((um m (a0 + 1) (ix (m a0 0)) v1) a0 0)) v2) a0 0)) v3) a0 0)) (n32 100)) a0 0)) v1) a0 0))) rfl).2.2 (um (um (um (um (um (um (um (um (um m (a0 + 1) (ix (m a0 0)) v1) (a0 + 2) (ix ((um m (a0 + 1) (ix (m a0 0)) v1) a0 0)) v2) (a0 + 3) (ix ((um (um m (a0 + 1) (ix (m a0 0)) v1) (a0 + 2) (ix ((um m (a0 + 1) (ix (m a0 0)) v1) a0 0)) v2) a0 0)) v3) (a0 + 4) (ix ((um (um (um m (a0 + 1) (ix (m a0 0)) v1) (a0 + 2) (ix ((um m (a0 + 1) (ix (m a0 0)) v1) a0 0)) v2) (a0 + 3) (ix ((um (um m (a0 + 1) (ix (m a0 0)) v1) (a0 + 2) (ix ((um m (a0 + 1) (ix (m a0 0)) v1) a0 0)) v2) a0 0)) v3) a0 0)) (n32 100)) (a0 + 5) (ix ((um (um (um (um m (a0 + 1) (ix (m a0 0)) v1) (a0 + 2) (ix ((um m (a0 + 1) (ix (m a0 0)) v1) a0 0)) v2) (a0 + 3) (ix ((um (um m (a0 + 1) (ix (m a0 0)) v1) (a0 + 2) (ix ((um m (a0 + 1) (ix (m a0 0)) v1) a0 0)) v2) a0 0)) v3) (a0 + 4) (ix ((um (um (um m (a0 + 1) (ix (m a0 0)) v1) (a0 + 2) (ix ((um m (a0 + 1) (ix (m a0 0)) v1) a0 0)) v2) (a0 + 3) (ix ((um (um m (a0 + 1) (ix (m a0 0)) v1) (a0 + 2) (ix ((um m (a0 + 1) (ix (m a0 0)) v1) a0 0)) v2) a0 0)) v3) a0 0)) (n32 100)) a0 0)) v1) (a0 + 6) (ix ((um (um (um (um (um m (a0 + 1) (ix (m a0 0)) v1) (a0 + 2) (ix ((um m (a0 + 1) (ix (m a0 0)) v1) a0 0)) v2) (a0 + 3) (ix ((um (um m (a0 + 1) (ix (m a0 0)) v1) (a0 + 2) (ix ((um m (a0 + 1) (ix (m a0 0)) v1) a0 0)) v2) a0 0)) v3) (a0 + 4) (ix ((um (um (um m (a0 + 1) (ix (m a0 0)) v1) (a0 + 2) (ix ((um m (a0 + 1) (ix (m a0 0)) v1) a0 0)) v2) (a0 + 3) (ix ((um (um m (a0 + 1) (ix (m a0 0)) v1) (a0 + 2) (ix ((um m (a0 + 1) (ix (m a0 0)) v1) a0 0)) v2) a0 0)) v3) a0 0)) (n32 100)) (a0 + 5) (ix ((um (um (um (um m (a0 + 1) (ix (m a0 0)) v1) (a0 + 2) (ix ((um m (a0 + 1) (ix (m a0 0)) v1) a0 0)) v2) (a0 + 3) (ix ((um (um m (a0 + 1) (ix (m a0 0)) v1) (a0 + 2) (ix ((um m (a0 + 1) (ix (m a0 0)) v1) a0 0)) v2) a0 0)) v3) (a0 + 4) (ix ((um (um (um m (a0 + 1) (ix (m a0 0)) v1) (a0 + 2) (ix ((um m (a0 + 1) (ix (m a0 0)) v1) a0 0)) v2) (a0 + 3) (ix ((um (um m (a0 + 1) (ix (m a0 0)) v1) (a0 + 2) (ix ((um m (a0 + 1) (ix (m a0 0)) v1) a0 0)) v2) a0 0)) v3) a0 0)) (n32 100)) a0 0)) v1) a0 0)) (((-v4)) * ((um (um (um (um (um m (a0 + 1) (ix (m a0 0)) v1) (a0 + 2) (ix ((um m (a0 + 1) (ix (m a0 0)) v1) a0 0)) v2) (a0 + 3) (ix ((um (um m (a0 + 1) (ix (m a0 0)) v1) (a0 + 2) (ix ((um m (a0 + 1) (ix (m a0 0)) v1) a0 0)) v2) a0 0)) v3) (a0 + 4) (ix ((um (um (um m (a0 + 1) (ix (m a0 0)) v1) (a0 + 2) (ix ((um m (a0 + 1) (ix (m a0 0)) v1) a0 0)) v2) (a0 + 3) (ix ((um (um m (a0 + 1) (ix (m a0 0)) v1) (a0 + 2) (ix ((um m (a0 + 1) (ix (m a0 0)) v1) a0 0)) v2) a0 0)) v3) a0 0)) (n32 100)) (a0 + 5) (ix ((um (um (um (um m (a0 + 1) (ix (m a0 0)) v1) (a0 + 2) (ix ((um m (a0 + 1) (ix (m a0 0)) v1) a0 0)) v2) (a0 + 3) (ix ((um (um m (a0 + 1) (ix (m a0 0)) v1) (a0 + 2) (ix ((um m (a0 + 1) (ix (m a0 0)) v1) a0 0)) v2) a0 0)) v3) (a0 + 4) (ix ((um (um (um m (a0 + 1) (ix (m a0 0)) v1) (a0 + 2) (ix ((um m (a0 + 1) (ix (m a0 0)) v1) a0 0)) v2) (a0 + 3) (ix ((um (um m (a0 + 1) (ix (m a0 0)) v1) (a0 + 2) (ix ((um m (a0 + 1) (ix (m a0 0)) v1) a0 0)) v2) a0 0)) v3) a0 0)) (n32 100)) a0 0)) v1) a0 0))) (a0 + 7) (ix ((um (um (um (um (um (um m (a0 + 1) (ix (m a0 0)) v1) (a0 + 2) (ix ((um m (a0 + 1) (ix (m a0 0)) v1) a0 0)) v2) (a0 + 3) (ix ((um (um m (a0 + 1) (ix (m a0 0)) v1) (a0 + 2) (ix ((um m (a0 + 1) (ix (m a0 0)) v1) a0 0)) v2) a0 0)) v3) (a0 + 4) (ix ((um (um (um m (a0 + 1) (ix (m a0 0)) v1) (a0 + 2) (ix ((um m (a0 + 1) (ix (m a0 0)) v1) a0 0)) v2) (a0 + 3) (ix ((um (um m (a0 + 1) (ix (m a0 0)) v1) (a0 + 2) (ix ((um m (a0 + 1) (ix (m a0 0)) v1) a0 0)) v2) a0 0)) v3) a0 0)) (n32 100)) (a0 + 5) (ix ((um (um (um (um m (a0 + 1) (ix (m a0 0)) v1) (a0 + 2) (ix ((um m (a0 + 1) (ix (m a0 0)) v1) a0 0)) v2) (a0 + 3) (ix ((um (um m (a0 + 1) (ix (m a0 0)) v1) (a0 + 2) (ix ((um m (a0 + 1) (ix (m a0 0)) v1) a0 0)) v2) a0 0)) v3) (a0 + 4) (ix ((um (um (um m (a0 + 1) (ix (m a0 0)) v1) (a0 + 2) (ix ((um m (a0 + 1) (ix (m a0 0)) v1) a0 0)) v2) (a0 + 3) (ix ((um (um m (a0 + 1) (ix (m a0 0)) v1) (a0 + 2) (ix ((um m (a0 + 1) (ix (m a0 0)) v1) a0 0)) v2) a0 0)) v3) a0 0)) (n32 100)) a0 0)) v1) (a0 + 6) (ix ((um (um (um (um (um m (a0 + 1) (ix (m a0 0)) v1) (a0 + 2) (ix ((um m (a0 + 1) (ix (m a0 0)) v1) a0 0)) v2) (a0 + 3) (ix ((um (um m (a0 + 1) (ix (m a0 0)) v1) (a0 + 2) (ix ((um m (a0 + 1) (ix (m a0 0)) v1) a0 0)) v2) a0 0)) v3) (a0 + 4) (ix ((um (um (um m (a0 + 1) (ix (m a0 0)) v1) (a0 + 2) (ix ((um m (a0 + 1) (ix (m a0 0)) v1) a0 0)) v2) (a0 + 3) (ix ((um (um m (a0 + 1) (ix (m a0 0)) v1) (a0 + 2) (ix ((um m (a0 + 1) (ix (m a0 0)) v1) a0 0)) v2) a0 0)) v3) a0 0)) (n32 100)) (a0 + 5) (ix ((um (um (um (um m (a0 + 1) (ix (m a0 0)) v1) (a0 + 2) (ix ((um m (a0 + 1) (ix (m a0 0)) v1) a0 0)) v2) (a0 + 3) (ix ((um (um m (a0 + 1) (ix (m a0 0)) v1) (a0 + 2) (ix ((um m (a0 + 1) (ix (m a0 0)) v1) a0 0)) v2) a0 0)) v3) (a0 + 4) (ix ((um (um (um m (a0 + 1) (ix (m a0 0)) v1) (a0 + 2) (ix ((um m (a0 + 1) (ix (m a0 0)) v1) a0 0)) v2) (a0 + 3) (ix ((um (um m (a0 + 1) (ix (m a0 0)) v1) (a0 + 2) (ix ((um m (a0 + 1) (ix (m a0 0)) v1) a0 0)) v2) a0 0)) v3) a0 0)) (n32 100)) a0 0)) v1) a0 0)) (((-v4)) * ((um (um (um (um (um m (a0 + 1) (ix (m a0 0)) v1) (a0 + 2) (ix ((um m (a0 + 1) (ix (m a0 0)) v1) a0 0)) v2) (a0 + 3) (ix ((um (um m (a0 + 1) (ix (m a0 0)) v1) (a0 + 2) (ix ((um m (a0 + 1) (ix (m a0 0)) v1) a0 0)) v2) a0 0)) v3) (a0 + 4) (ix ((um (um (um m (a0 + 1) (ix (m a0 0)) v1) (a0 + 2) (ix ((um m (a0 + 1) (ix (m a0 0)) v1) a0 0)) v2) (a0 + 3) (ix ((um (um m (a0 + 1) (ix (m a0 0)) v1) (a0 + 2) (ix ((um m (a0 + 1) (ix (m a0 0)) v1) a0 0)) v2) a0 0)) v3) a0 0)) (n32 100)) (a0 + 5) (ix ((um (um (um (um m (a0 + 1) (ix (m a0 0)) v1) (a0 + 2) (ix ((um m (a0 + 1) (ix (m a0 0)) v1) a0 0)) v2) (a0 + 3) (ix ((um (um m (a0 + 1) (ix (m a0 0)) v1) (a0 + 2) (ix ((um m (a0 + 1) (ix (m a0 0)) v1) a0 0)) v2) a0 0)) v3) (a0 + 4) (ix ((um (um (um m (a0 + 1) (ix (m a0 0)) v1) (a0 + 2) (ix ((um m (a0 + 1) (ix (m a0 0)) v1) a0 0)) v2) (a0 + 3) (ix ((um (um m (a0 + 1) (ix (m a0 0)) v1) (a0 + 2) (ix ((um m (a0 + 1) (ix (m a0 0)) v1) a0 0)) v2) a0 0)) v3) a0 0)) (n32 100)) a0 0)) v1) a0 0))) a0 0)) ((um (um (um (um (um (um m (a0 + 1) (ix (m a0 0)) v1) (a0 + 2) (ix ((um m (a0 + 1) (ix (m a0 0)) v1) a0 0)) v2) (a0 + 3) (ix ((um (um m (a0 + 1) (ix (m a0 0)) v1) (a0 + 2) (ix ((um m (a0 + 1) (ix (m a0 0)) v1) a0 0)) v2) a0 0)) v3) (a0 + 4) (ix ((um (um (um m (a0 + 1) (ix (m a0 0)) v1) (a0 + 2) (ix ((um m (a0 + 1) (ix (m a0 0)) v1) a0 0)) v2) (a0 + 3) (ix ((um (um m (a0 + 1) (ix (m a0 0)) v1) (a0 + 2) (ix ((um m (a0 + 1) (ix (m a0 0)) v1) a0 0)) v2) a0 0)) v3) a0 0)) (n32 100)) (a0 + 5) (ix ((um (um (um (um m (a0 + 1) (ix (m a0 0)) v1) (a0 + 2) (ix ((um m (a0 + 1) (ix (m a0 0)) v1) a0 0)) v2) (a0 + 3) (ix ((um (um m (a0 + 1) (ix (m a0 0)) v1) (a0 + 2) (ix ((um m (a0 + 1) (ix (m a0 0)) v1) a0 0)) v2) a0 0)) v3) (a0 + 4) (ix ((um (um (um m (a0 + 1) (ix (m a0 0)) v1) (a0 + 2) (ix ((um m (a0 + 1) (ix (m a0 0)) v1) a0 0)) v2) (a0 + 3) (ix ((um (um m (a0 + 1) (ix (m a0 0)) v1) (a0 + 2) (ix ((um m (a0 + 1) (ix (m a0 0)) v1) a0 0)) v2) a0 0)) v3) a0 0)) (n32 100)) a0 0)) v1) (a0 + 6) (ix ((um (um (um (um (um m (a0 + 1) (ix (m a0 0)) v1) (a0 + 2) (ix ((um m (a0 + 1) (ix (m a0 0)) v1) a0 0)) v2) (a0 + 3) (ix ((um (um m (a0 + 1) (ix (m a0 0)) v1) (a0 + 2) (ix ((um m (a0 + 1) (ix (m a0 0)) v1) a0 0)) v2) a0 0)) v3) (a0 + 4) (ix ((um (um (um m (a0 + 1) (ix (m a0 0)) v1) (a0 + 2) (ix ((um m (a0 + 1) (ix (m a0 0)) v1) a0 0)) v2) (a0 + 3) (ix ((um (um m (a0 + 1) (ix (m a0 0)) v1) (a0 + 2) (ix ((um m (a0 + 1) (ix (m a0 0)) v1) a0 0)) v2) a0 0)) v3) a0 0)) (n32 100)) (a0 + 5) (ix ((um (um (um (um m (a0 + 1) (ix (m a0 0)) v1) (a0 + 2) (ix ((um m (a0 + 1) (ix (m a0 0)) v1) a0 0)) v2) (a0 + 3) (ix ((um (um m (a0 + 1) (ix (m a0 0)) v1) (a0 + 2) (ix ((um m (a0 + 1) (ix (m a0 0)) v1) a0 0)) v2) a0 0)) v3) (a0 + 4) (ix ((um (um (um m (a0 + 1) (ix (m a0 0)) v1) (a0 + 2) (ix ((um m (a0 + 1) (ix (m a0 0)) v1) a0 0)) v2) (a0 + 3) (ix ((um (um m (a0 + 1) (ix (m a0 0)) v1) (a0 + 2) (ix ((um m (a0 + 1) (ix (m a0 0)) v1) a0 0)) v2) a0 0)) v3) a0 0)) (n32 100)) a0 0)) v1) a0 0)) (((-v4)) * ((um (um (um (um (um m (a0 + 1) (ix (m a0 0)) v1) (a0 + 2) (ix ((um m (a0 + 1) (ix (m a0 0)) v1) a0 0)) v2) (a0 + 3) (ix ((um (um m (a0 + 1) (ix (m a0 0)) v1) (a0 + 2) (ix ((um m (a0 + 1) (ix (m a0 0)) v1) a0 0)) v2) a0 0)) v3) (a0 + 4) (ix ((um (um (um m (a0 + 1) (ix (m a0 0)) v1) (a0 + 2) (ix ((um m (a0 + 1) (ix (m a0 0)) v1) a0 0)) v2) (a0 + 3) (ix ((um (um m (a0 + 1) (ix (m a0 0)) v1) (a0 + 2) (ix ((um m (a0 + 1) (ix (m a0 0)) v1) a0 0)) v2) a0 0)) v3) a0 0)) (n32 100)) (a0 + 5) (ix ((um (um (um (um m (a0 + 1) (ix (m a0 0)) v1) (a0 + 2) (ix ((um m (a0 + 1) (ix (m a0 0)) v1) a0 0)) v2) (a0 + 3) (ix ((um (um m (a0 + 1) (ix (m a0 0)) v1) (a0 + 2) (ix ((um m (a0 + 1) (ix (m a0 0)) v1) a0 0)) v2) a0 0)) v3) (a0 + 4) (ix ((um (um (um m (a0 + 1) (ix (m a0 0)) v1) (a0 + 2) (ix ((um m (a0 + 1) (ix (m a0 0)) v1) a0 0)) v2) (a0 + 3) (ix ((um (um m (a0 + 1) (ix (m a0 0)) v1) (a0 + 2) (ix ((um m (a0 + 1) (ix (m a0 0)) v1) a0 0)) v2) a0 0)) v3) a0 0)) (n32 100)) a0 0)) v1) a0 0))) (a0 + 6) (ix ((um (um (um (um (um (um m (a0 + 1) (ix (m a0 0)) v1) (a0 + 2) (ix ((um m (a0 + 1) (ix (m a0 0)) v1) a0 0)) v2) (a0 + 3) (ix ((um (um m (a0 + 1) (ix (m a0 0)) v1) (a0 + 2) (ix ((um m (a0 + 1) (ix (m a0 0)) v1) a0 0)) v2) a0 0)) v3) (a0 + 4) (ix ((um (um (um m (a0 + 1) (ix (m a0 0)) v1) (a0 + 2) (ix ((um m (a0 + 1) (ix (m a0 0)) v1) a0 0)) v2) (a0 + 3) (ix ((um (um m (a0 + 1) (ix (m a0 0)) v1) (a0 + 2) (ix ((um m (a0 + 1) (ix (m a0 0)) v1) a0 0)) v2) a0 0)) v3) a0 0)) (n32 100)) (a0 + 5) (ix ((um (um (um (um m (a0 + 1) (ix (m a0 0)) v1) (a0 + 2) (ix ((um m (a0 + 1) (ix (m a0 0)) v1) a0 0)) v2) (a0 + 3) (ix ((um (um m (a0 + 1) (ix (m a0 0)) v1) (a0 + 2) (ix ((um m (a0 + 1) (ix (m a0 0)) v1) a0 0)) v2) a0 0)) v3) (a0 + 4) (ix ((um (um (um m (a0 + 1) (ix (m a0 0)) v1) (a0 + 2) (ix ((um m (a0 + 1) (ix (m a0 0)) v1) a0 0)) v2) (a0 + 3) (ix ((um (um m (a0 + 1) (ix (m a0 0)) v1) (a0 + 2) (ix ((um m (a0 + 1) (ix (m a0 0)) v1) a0 0)) v2) a0 0)) v3) a0 0)) (n32 100)) a0 0)) v1) (a0 + 6) (ix ((um (um (um (um (um m (a0 + 1) (ix (m a0 0)) v1) (a0 + 2) (ix ((um m (a0 + 1) (ix (m a0 0)) v1) a0 0)) v2) (a0 + 3) (ix ((um (um m (a0 + 1) (ix (m a0 0)) v1) (a0 + 2) (ix ((um m (a0 + 1) (ix (m a0 0)) v1) a0 0)) v2) a0 0)) v3) (a0 + 4) (ix ((um (um (um m (a0 + 1) (ix (m a0 0)) v1) (a0 + 2) (ix ((um m (a0 + 1) (ix (m a0 0)) v1) a0 0)) v2) (a0 + 3) (ix ((um (um m (a0 + 1) (ix (m a0 0)) v1) (a0 + 2) (ix ((um m (a0 + 1) (ix (m a0 0)) v1) a0 0)) v2) a0 0)) v3) a0 0)) (n32 100)) (a0 + 5) (ix ((um (um (um (um m (a0 + 1) (ix (m a0 0)) v1) (a0 + 2) (ix ((um m (a0 + 1) (ix (m a0 0)) v1) a0 0)) v2) (a0 + 3) (ix ((um (um m (a0 + 1) (ix (m a0 0)) v1) (a0 + 2) (ix ((um m (a0 + 1) (ix (m a0 0)) v1) a0 0)) v2) a0 0)) v3) (a0 + 4) (ix ((um (um (um m (a0 + 1) (ix (m a0 0)) v1) (a0 + 2) (ix ((um m (a0 + 1) (ix (m a0 0)) v1) a0 0)) v2) (a0 + 3) (ix ((um (um m (a0 + 1) (ix (m a0 0)) v1) (a0 + 2) (ix ((um m (a0 + 1) (ix (m a0 0)) v1) a0 0)) v2) a0 0)) v3) a0 0)) (n32 100)) a0 0)) v1) a0 0)) (((-v4)) * ((um (um (um (um (um m (a0 + 1) (ix (m a0 0)) v1) (a0 + 2) (ix ((um m (a0 + 1) (ix (m a0 0)) v1) a0 0)) v2) (a0 + 3) (ix ((um (um m (a0 + 1) (ix (m a0 0)) v1) (a0 + 2) (ix ((um m (a0 + 1) (ix (m a0 0)) v1) a0 0)) v2) a0 0)) v3) (a0 + 4) (ix ((um (um (um m (a0 + 1) (ix (m a0 0)) v1) (a0 + 2) (ix ((um m (a0 + 1) (ix (m a0 0)) v1) a0 0)) v2) (a0 + 3) (ix ((um (um m (a0 + 1) (ix (m a0 0)) v1) (a0 + 2) (ix ((um m (a0 + 1) (ix (m a0 0)) v1) a0 0)) v2) a0 0)) v3) a0 0)) (n32 100)) (a0 + 5) (ix ((um (um (um (um m (a0 + 1) (ix (m a0 0)) v1) (a0 + 2) (ix ((um m (a0 + 1) (ix (m a0 0)) v1) a0 0)) v2) (a0 + 3) (ix ((um (um m (a0 + 1) (ix (m a0 0)) v1) (a0 + 2) (ix ((um m (a0 + 1) (ix (m a0 0)) v1) a0 0)) v2) a0 0)) v3) (a0 + 4) (ix ((um (um (um m (a0 + 1) (ix (m a0 0)) v1) (a0 + 2) (ix ((um m (a0 + 1) (ix (m a0 0)) v1) a0 0)) v2) (a0 + 3) (ix ((um (um m (a0 + 1) (ix (m a0 0)) v1) (a0 + 2) (ix ((um m (a0 + 1) (ix (m a0 0)) v1) a0 0)) v2) a0 0)) v3) a0 0)) (n32 100)) a0 0)) v1) a0 0))) a0 0)))) (a0 + 8) (ix ((um (um (um (um (um (um (um m (a0 + 1) (ix (m a0 0)) v1) (a0 + 2) (ix ((um m (a0 + 1) (ix (m a0 0)) v1) a0 0)) v2) (a0 + 3) (ix ((um (um m (a0 + 1) (ix (m a0 0)) v1) (a0 + 2) (ix ((um m (a0 + 1) (ix (m a0 0)) v1) a0 0)) v2) a0 0)) v3) (a0 + 4) (ix ((um (um (um m (a0 + 1) (ix (m a0 0)) v1) (a0 + 2) (ix ((um m (a0 + 1) (ix (m a0 0)) v1) a0 0)) v2) (a0 + 3) (ix ((um (um m (a0 + 1) (ix (m a0 0)) v1) (a0 + 2) (ix ((um m (a0 + 1) (ix (m a0 0)) v1) a0 0)) v2) a0 0)) v3) a0 0)) (n32 100)) (a0 + 5) (ix ((um (um (um (um m (a0 + 1) (ix (m a0 0)) v1) (a0 + 2) (ix ((um m (a0 + 1) (ix (m a0 0)) v1) a0 0)) v2) (a0 + 3) (ix ((um (um m (a0 + 1) (ix (m a0 0)) v1) (a0 + 2) (ix ((um m (a0 + 1) (ix (m a0 0)) v1) a0 0)) v2) a0 0)) v3) (a0 + 4) (ix ((um (um (um m (a0 + 1) (ix (m a0 0)) v1) (a0 + 2) (ix ((um m (a0 + 1) (ix (m a0 0)) v1) a0 0)) v2) (a0 + 3) (ix ((um (um m (a0 + 1) (ix (m a0 0)) v1) (a0 + 2) (ix ((um m (a0 + 1) (ix (m a0 0)) v1) a0 0)) v2) a0 0)) v3) a0 0)) (n32 100)) a0 0)) v1) (a0 + 6) (ix ((um (um (um (um (um m (a0 + 1) (ix (m a0 0)) v1) (a0 + 2) (ix ((um m (a0 + 1) (ix (m a0 0)) v1) a0 0)) v2) (a0 + 3) (ix ((um (um m (a0 + 1) (ix (m a0 0)) v1) (a0 + 2) (ix ((um m (a0 + 1) (ix (m a0 0)) v1) a0 0)) v2) a0 0)) v3) (a0 + 4) (ix ((um (um (um m (a0 + 1) (ix (m a0 0)) v1) (a0 + 2) (ix ((um m (a0 + 1) (ix (m a0 0)) v1) a0 0)) v2) (a0 + 3) (ix ((um (um m (a0 + 1) (ix (m a0 0)) v1) (a0 + 2) (ix ((um m (a0 + 1) (ix (m a0 0)) v1) a0 0)) v2) a0 0)) v3) a0 0)) (n32 100)) (a0 + 5) (ix ((um (um (um (um m (a0 + 1) (ix (m a0 0)) v1) (a0 + 2) (ix ((um m (a0 + 1) (ix (m a0 0)) v1) a0 0)) v2) (a0 + 3) (ix ((um (um m (a0 + 1) (ix (m a0 0)) v1) (a0 + 2) (ix ((um m (a0 + 1) (ix (m a0 0)) v1) a0 0)) v2) a0 0)) v3) (a0 + 4) (ix ((um (um (um m (a0 + 1) (ix (m a0 0)) v1) (a0 + 2) (ix ((um m (a0 + 1) (ix (m a0 0)) v1) a0 0)) v2) (a0 + 3) (ix ((um (um m (a0 + 1) (ix (m a0 0)) v1) (a0 + 2) (ix ((um m (a0 + 1) (ix (m a0 0)) v1) a0 0)) v2) a0 0)) v3) a0 0)) (n32 100)) a0 0)) v1) a0 0)) (((-v4)) * ((um (um (um (um (um m (a0 + 1) (ix (m a0 0)) v1) (a0 + 2) (ix ((um m (a0 + 1) (ix (m a0 0)) v1) a0 0)) v2) (a0 + 3) (ix ((um (um m (a0 + 1) (ix (m a0 0)) v1) (a0 + 2) (ix ((um m (a0 + 1) (ix (m a0 0)) v1) a0 0)) v2) a0 0)) v3) (a0 + 4) (ix ((um (um (um m (a0 + 1) (ix (m a0 0)) v1) (a0 + 2) (ix ((um m (a0 + 1) (ix (m a0 0)) v1) a0 0)) v2) (a0 + 3) (ix ((um (um m (a0 + 1) (ix (m a0 0)) v1) (a0 + 2) (ix ((um m (a0 + 1) (ix (m a0 0)) v1) a0 0)) v2) a0 0)) v3) a0 0)) (n32 100)) (a0 + 5) (ix ((um (um (um (um m (a0 + 1) (ix (m a0 0)) v1) (a0 + 2) (ix ((um m (a0 + 1) (ix (m a0 0)) v1) a0 0)) v2) (a0 + 3) (ix ((um (um m (a0 + 1) (ix (m a0 0)) v1) (a0 + 2) (ix ((um m (a0 + 1) (ix (m a0 0)) v1) a0 0)) v2) a0 0)) v3) (a0 + 4) (ix ((um (um (um m (a0 + 1) (ix (m a0 0)) v1) (a0 + 2) (ix ((um m (a0 + 1) (ix (m a0 0)) v1) a0 0)) v2) (a0 + 3) (ix ((um (um m (a0 + 1) (ix (m a0 0)) v1) (a0 + 2) (ix ((um m (a0 + 1) (ix (m a0 0)) v1) a0 0)) v2) a0 0)) v3) a0 0)) (n32 100)) a0 0)) v1) a0 0))) (a0 + 7) (ix ((um (um (um (um (um (um m (a0 + 1) (ix (m a0 0)) v1) (a0 + 2) (ix ((um m (a0 + 1) (ix (m a0 0)) v1) a0 0)) v2) (a0 + 3) (ix ((um (um m (a0 + 1) (ix (m a0 0)) v1) (a0 + 2) (ix ((um m (a0 + 1) (ix (m a0 0)) v1) a0 0)) v2) a0 0)) v3) (a0 + 4) (ix ((um (um (um m (a0 + 1) (ix (m a0 0)) v1) (a0 + 2) (ix ((um m (a0 + 1) (ix (m a0 0)) v1) a0 0)) v2) (a0 + 3) (ix ((um (um m (a0 + 1) (ix (m a0 0)) v1) (a0 + 2) (ix ((um m (a0 + 1) (ix (m a0 0)) v1) a0 0)) v2) a0 0)) v3) a0 0)) (n32 100)) (a0 + 5) (ix ((um (um (um (um m (a0 + 1) (ix (m a0 0)) v1) (a0 + 2) (ix ((um m (a0 + 1) (ix (m a0 0)) v1) a0 0)) v2) (a0 + 3) (ix ((um (um m (a0 + 1) (ix (m a0 0)) v1) (a0 + 2) (ix ((um m (a0 + 1) (ix (m a0 0)) v1) a0 0)) v2) a0 0)) v3) (a0 + 4) (ix ((um (um (um m (a0 + 1) (ix (m a0 0)) v1) (a0 + 2) (ix ((um m (a0 + 1) (ix (m a0 0)) v1) a0 0)) v2) (a0 + 3) (ix ((um (um m (a0 + 1) (ix (m a0 0)) v1) (a0 + 2) (ix ((um m (a0 + 1) (ix (m a0 0)) v1) a0 0)) v2) a0 0)) v3) a0 0)) (n32 100)) a0 0)) v1) (a0 + 6) (ix ((um (um (um (um (um m (a0 + 1) (ix (m a0 0)) v1) (a0 + 2) (ix ((um m (a0 + 1) (ix (m a0 0)) v1) a0 0)) v2) (a0 + 3) (ix ((um (um m (a0 + 1) (ix (m a0 0)) v1) (a0 + 2) (ix ((um m (a0 + 1) (ix (m a0 0)) v1) a0 0)) v2) a0 0)) v3) (a0 + 4) (ix ((um (um (um m (a0 + 1) (ix (m a0 0)) v1) (a0 + 2) (ix ((um m (a0 + 1) (ix (m a0 0)) v1) a0 0)) v2) (a0 + 3) (ix ((um (um m (a0 + 1) (ix (m a0 0)) v1) (a0 + 2) (ix ((um m (a0 + 1) (ix (m a0 0)) v1) a0 0)) v2) a0 0)) v3) a0 0)) (n32 100)) (a0 + 5) (ix ((um (um (um (um m (a0 + 1) (ix (m a0 0)) v1) (a0 + 2) (ix ((um m (a0 + 1) (ix (m a0 0)) v1) a0 0)) v2) (a0 + 3) (ix ((um (um m (a0 + 1) (ix (m a0 0)) v1) (a0 + 2) (ix ((um m (a0 + 1) (ix (m a0 0)) v1) a0 0)) v2) a0 0)) v3) (a0 + 4) (ix ((um (um (um m (a0 + 1) (ix (m a0 0)) v1) (a0 + 2) (ix ((um m (a0 + 1) (ix (m a0 0)) v1) a0 0)) v2) (a0 + 3) (ix ((um (um m (a0 + 1) (ix (m a0 0)) v1) (a0 + 2) (ix ((um m (a0 + 1) (ix (m a0 0)) v1) a0 0)) v2) a0 0)) v3) a0 0)) (n32 100)) a0 0)) v1) a0 0)) (((-v4)) * ((um (um (um (um (um m (a0 + 1) (ix (m a0 0)) v1) (a0 + 2) (ix ((um m (a0 + 1) (ix (m a0 0)) v1) a0 0)) v2) (a0 + 3) (ix ((um (um m (a0 + 1) (ix (m a0 0)) v1) (a0 + 2) (ix ((um m (a0 + 1) (ix (m a0 0)) v1) a0 0)) v2) a0 0)) v3) (a0 + 4) (ix ((um (um (um m (a0 + 1) (ix (m a0 0)) v1) (a0 + 2) (ix ((um m (a0 + 1) (ix (m a0 0)) v1) a0 0)) v2) (a0 + 3) (ix ((um (um m (a0 + 1) (ix (m a0 0)) v1) (a0 + 2) (ix ((um m (a0 + 1) (ix (m a0 0)) v1) a0 0)) v2) a0 0)) v3) a0 0)) (n32 100)) (a0 + 5) (ix ((um (um (um (um m (a0 + 1) (ix (m a0 0)) v1) (a0 + 2) (ix ((um m (a0 + 1) (ix (m a0 0)) v1) a0 0)) v2) (a0 + 3) (ix ((um (um m (a0 + 1) (ix (m a0 0)) v1) (a0 + 2) (ix ((um m (a0 + 1) (ix (m a0 0)) v1) a0 0)) v2) a0 0)) v3) (a0 + 4) (ix ((um (um (um m (a0 + 1) (ix (m a0 0)) v1) (a0 + 2) (ix ((um m (a0 + 1) (ix (m a0 0)) v1) a0 0)) v2) (a0 + 3) (ix ((um (um m (a0 + 1) (ix (m a0 0)) v1) (a0 + 2) (ix ((um m (a0 + 1) (ix (m a0 0)) v1) a0 0)) v2) a0 0)) v3) a0 0)) (n32 100)) a0 0)) v1) a0 0))) a0 0)) ((um (um (um (um (um (um m (a0 + 1) (ix (m a0 0)) v1) (a0 + 2) (ix ((um m (a0 + 1) (ix (m a0 0)) v1) a0 0)) v2) (a0 + 3) (ix ((um (um m (a0 + 1) (ix (m a0 0)) v1) (a0 + 2) (ix ((um m (a0 + 1) (ix (m a0 0)) v1) a0 0)) v2) a0 0)) v3) (a0 + 4) (ix ((um (um (um m (a0 + 1) (ix (m a0 0)) v1) (a0 + 2) (ix ((um m (a0 + 1) (ix (m a0 0)) v1) a0 0)) v2) (a0 + 3) (ix ((um (um m (a0 + 1) (ix (m a0 0)) v1) (a0 + 2) (ix ((um m (a0 + 1) (ix (m a0 0)) v1) a0 0)) v2) a0 0)) v3) a0 0)) (n32 100)) (a0 + 5) (ix ((um (um (um (um m (a0 + 1) (ix (m a0 0)) v1) (a0 + 2) (ix ((um m (a0 + 1) (ix (m a0 0)) v1) a0 0)) v2) (a0 + 3) (ix ((um (um m (a0 + 1) (ix (m a0 0)) v1) (a0 + 2) (ix ((um m (a0 + 1) (ix (m a0 0)) v1) a0 0)) v2) a0 0)) v3) (a0 + 4) (ix ((um (um (um m (a0 + 1) (ix (m a0 0)) v1) (a0 + 2) (ix ((um m (a0 + 1) (ix (m a0 0)) v1) a0 0)) v2) (a0 + 3) (ix ((um (um m (a0 + 1) (ix (m a0 0)) v1) (a0 + 2) (ix ((um m (a0 + 1) (ix (m a0 0)) v1) a0 0)) v2) a0 0)) v3) a0 0)) (n32 100)) a0 0)) v1) (a0 + 6) (ix ((um (um (um (um (um m (a0 + 1) (ix (m a0 0)) v1) (a0 + 2) (ix ((um m (a0 + 1) (ix (m a0 0)) v1) a0 0)) v2) (a0 + 3) (ix ((um (um m (a0 + 1) (ix (m a0 0)) v1) (a0 + 2) (ix ((um m (a0 + 1) (ix (m a0 0)) v1) a0 0)) v2) a0 0)) v3) (a0 + 4) (ix ((um (um (um m (a0 + 1) (ix (m a0 0)) v1) (a0 + 2) (ix ((um m (a0 + 1) (ix (m a0 0)) v1) a0 0)) v2) (a0 + 3) (ix ((um (um m (a0 + 1) (ix (m a0 0)) v1) (a0 + 2) (ix ((um m (a0 + 1) (ix (m a0 0)) v1) a0 0)) v2) a0 0)) v3) a0 0)) (n32 100)) (a0 + 5) (ix ((um (um (um (um m (a0 + 1) (ix (m a0 0)) v1) (a0 + 2) (ix ((um m (a0 + 1) (ix (m a0 0)) v1) a0 0)) v2) (a0 + 3) (ix ((um (um m (a0 + 1) (ix (m a0 0)) v1) (a0 + 2) (ix ((um m (a0 + 1) (ix (m a0 0)) v1) a0 0)) v2) a0 0)) v3) (a0 + 4) (ix ((um (um (um m (a0 + 1) (ix (m a0 0)) v1) (a0 + 2) (ix ((um m (a0 + 1) (ix (m a0 0)) v1) a0 0)) v2) (a0 + 3) (ix ((um (um m (a0 + 1) (ix (m a0 0)) v1) (a0 + 2) (ix ((um m (a0 + 1) (ix (m a0 0)) v1) a0 0)) v2) a0 0)) v3) a0 0)) (n32 100)) a0 0)) v1) a0 0)) (((-v4)) * ((um (um (um (um (um m (a0 + 1) (ix (m a0 0)) v1) (a0 + 2) (ix ((um m (a0 + 1) (ix (m a0 0)) v1) a0 0)) v2) (a0 + 3) (ix ((um (um m (a0 + 1) (ix (m a0 0)) v1) (a0 + 2) (ix ((um m (a0 + 1) (ix (m a0 0)) v1) a0 0)) v2) a0 0)) v3) (a0 + 4) (ix ((um (um (um m (a0 + 1) (ix (m a0 0)) v1) (a0 + 2) (ix ((um m (a0 + 1) (ix (m a0 0)) v1) a0 0)) v2) (a0 + 3) (ix ((um (um m (a0 + 1) (ix (m a0 0)) v1) (a0 + 2) (ix ((um m (a0 + 1) (ix (m a0 0)) v1) a0 0)) v2) a0 0)) v3) a0 0)) (n32 100)) (a0 + 5) (ix ((um (um (um (um m (a0 + 1) (ix (m a0 0)) v1) (a0 + 2) (ix ((um m (a0 + 1) (ix (m a0 0)) v1) a0 0)) v2) (a0 + 3) (ix ((um (um m (a0 + 1) (ix (m a0 0)) v1) (a0 + 2) (ix ((um m (a0 + 1) (ix (m a0 0)) v1) a0 0)) v2) a0 0)) v3) (a0 + 4) (ix ((um (um (um m (a0 + 1) (ix (m a0 0)) v1) (a0 + 2) (ix ((um m (a0 + 1) (ix (m a0 0)) v1) a0 0)) v2) (a0 + 3) (ix ((um (um m (a0 + 1) (ix (m a0 0)) v1) (a0 + 2) (ix ((um m (a0 + 1) (ix (m a0 0)) v1) a0 0)) v2) a0 0)) v3) a0 0)) (n32 100)) a0 0)) v1) a0 0))) (a0 + 6) (ix ((um (um (um (um (um (um m (a0 + 1) (ix (m a0 0)) v1) (a0 + 2) (ix ((um m (a0 + 1) (ix (m a0 0)) v1) a0 0)) v2) (a0 + 3) (ix ((um (um m (a0 + 1) (ix (m a0 0)) v1) (a0 + 2) (ix ((um m (a0 + 1) (ix (m a0 0)) v1) a0 0)) v2) a0 0)) v3) (a0 + 4) (ix ((um (um (um m (a0 + 1) (ix (m a0 0)) v1) (a0 + 2) (ix ((um m (a0 + 1) (ix (m a0 0)) v1) a0 0)) v2) (a0 + 3) (ix ((um (um m (a0 + 1) (ix (m a0 0)) v1) (a0 + 2) (ix ((um m (a0 + 1) (ix (m a0 0)) v1) a0 0)) v2) a0 0)) v3) a0 0)) (n32 100)) (a0 + 5) (ix ((um (um (um (um m (a0 + 1) (ix (m a0 0)) v1) (a0 + 2) (ix ((um m (a0 + 1) (ix (m a0 0)) v1) a0 0)) v2) (a0 + 3) (ix ((um (um m (a0 + 1) (ix (m a0 0)) v1) (a0 + 2) (ix ((um m (a0 + 1) (ix (m a0 0)) v1) a0 0)) v2) a0 0)) v3) (a0 + 4) (ix ((um (um (um m (a0 + 1) (ix (m a0 0)) v1) (a0 + 2) (ix ((um m (a0 + 1) (ix (m a0 0)) v1) a0 0)) v2) (a0 + 3) (ix ((um (um m (a0 + 1) (ix (m a0 0)) v1) (a0 + 2) (ix ((um m (a0 + 1) (ix (m a0 0)) v1) a0 0)) v2) a0 0)) v3) a0 0)) (n32 100)) a0 0)) v1) (a0 + 6) (ix ((um (um (um (um (um m (a0 + 1) (ix (m a0 0)) v1) (a0 + 2) (ix ((um m (a0 + 1) (ix (m a0 0)) v1) a0 0)) v2) (a0 + 3) (ix ((um (um m (a0 + 1) (ix (m a0 0)) v1) (a0 + 2) (ix ((um m (a0 + 1) (ix (m a0 0)) v1) a0 0)) v2) a0 0)) v3) (a0 + 4) (ix ((um (um (um m (a0 + 1) (ix (m a0 0)) v1) (a0 + 2) (ix ((um m (a0 + 1) (ix (m a0 0)) v1) a0 0)) v2) (a0 + 3) (ix ((um (um m (a0 + 1) (ix (m a0 0)) v1) (a0 + 2) (ix ((um m (a0 + 1) (ix (m a0 0)) v1) a0 0)) v2) a0 0)) v3) a0 0)) (n32 100)) (a0 + 5) (ix ((um (um (um (um m (a0 + 1) (ix (m a0 0)) v1) (a0 + 2) (ix ((um m (a0 + 1) (ix (m a0 0)) v1) a0 0)) v2) (a0 + 3) (ix ((um (um m (a0 + 1) (ix (m a0 0)) v1) (a0 + 2) (ix ((um m (a0 + 1) (ix (m a0 0)) v1) a0 0)) v2) a0 0)) v3) (a0 + 4) (ix ((um (um (um m (a0 + 1) (ix (m a0 0)) v1) (a0 + 2) (ix ((um m (a0 + 1) (ix (m a0 0)) v1) a0 0)) v2) (a0 + 3) (ix ((um (um m (a0 + 1) (ix (m a0 0)) v1) (a0 + 2) (ix ((um m (a0 + 1) (ix (m a0 0)) v1) a0 0)) v2) a0 0)) v3) a0 0)) (n32 100)) a0 0)) v1) a0 0)) (((-v4)) * ((um (um (um (um (um m (a0 + 1) (ix (m a0 0)) v1) (a0 + 2) (ix ((um m (a0 + 1) (ix (m a0 0)) v1) a0 0)) v2) (a0 + 3) (ix ((um (um m (a0 + 1) (ix (m a0 0)) v1) (a0 + 2) (ix ((um m (a0 + 1) (ix (m a0 0)) v1) a0 0)) v2) a0 0)) v3) (a0 + 4) (ix ((um (um (um m (a0 + 1) (ix (m a0 0)) v1) (a0 + 2) (ix ((um m (a0 + 1) (ix (m a0 0)) v1) a0 0)) v2) (a0 + 3) (ix ((um (um m (a0 + 1) (ix (m a0 0)) v1) (a0 + 2) (ix ((um m (a0 + 1) (ix (m a0 0)) v1) a0 0)) v2) a0 0)) v3) a0 0)) (n32 100)) (a0 + 5) (ix ((um (um (um (um m (a0 + 1) (ix (m a0 0)) v1) (a0 + 2) (ix ((um m (a0 + 1) (ix (m a0 0)) v1) a0 0)) v2) (a0 + 3) (ix ((um (um m (a0 + 1) (ix (m a0 0)) v1) (a0 + 2) (ix ((um m (a0 + 1) (ix (m a0 0)) v1) a0 0)) v2) a0 0)) v3) (a0 + 4) (ix ((um (um (um m (a0 + 1) (ix (m a0 0)) v1) (a0 + 2) (ix ((um m (a0 + 1) (ix (m a0 0)) v1) a0 0)) v2) (a0 + 3) (ix ((um (um m (a0 + 1) (ix (m a0 0)) v1) (a0 + 2) (ix ((um m (a0 + 1) (ix (m a0 0)) v1) a0 0)) v2) a0 0)) v3) a0 0)) (n32 100)) a0 0)) v1) a0 0))) a0 0)))) a0 0)) (n32 0)) (a0) 0 (((um (um (um (um (um (um (um (um m (a0 + 1) (ix (m a0 0)) v1) (a0 + 2) (ix ((um m (a0 + 1) (ix (m a0 0)) v1) a0 0)) v2) (a0 + 3) (ix ((um (um m (a0 + 1) (ix (m a0 0)) v1) (a0 + 2) (ix ((um m (a0 + 1) (ix (m a0 0)) v1) a0 0)) v2) a0 0)) v3) (a0 + 4) (ix ((um (um (um m (a0 + 1) (ix (m a0 0)) v1) (a0 + 2) (ix ((um m (a0 + 1) (ix (m a0 0)) v1) a0 0)) v2) (a0 + 3) (ix ((um (um m (a0 + 1) (ix (m a0 0)) v1) (a0 + 2) (ix ((um m (a0 + 1) (ix (m a0 0)) v1) a0 0)) v2) a0 0)) v3) a0 0)) (n32 100)) (a0 + 5) (ix ((um (um (um (um m (a0 + 1) (ix (m a0 0)) v1) (a0 + 2) (ix ((um m (a0 + 1) (ix (m a0 0)) v1) a0 0)) v2) (a0 + 3) (ix ((um (um m (a0 + 1) (ix (m a0 0)) v1) (a0 + 2) (ix ((um m (a0 + 1) (ix (m a0 0)) v1) a0 0)) v2) a0 0)) v3) (a0 + 4) (ix ((um (um (um m (a0 + 1) (ix (m a0 0)) v1) (a0 + 2) (ix ((um m (a0 + 1) (ix (m a0 0)) v1) a0 0)) v2) (a0 + 3) (ix ((um (um m (a0 + 1) (ix (m a0 0)) v1) (a0 + 2) (ix ((um m (a0 + 1) (ix (m a0 0)) v1) a0 0)) v2) a0 0)) v3) a0 0)) (n32 100)) a0 0)) v1) (a0 + 6) (ix ((um (um (um (um (um m (a0 + 1) (ix (m a0 0)) v1) (a0 + 2) (ix ((um m (a0 + 1) (ix (m a0 0)) v1) a0 0)) v2) (a0 + 3) (ix ((um (um m (a0 + 1) (ix (m a0 0)) v1) (a0 + 2) (ix ((um m (a0 + 1) (ix (m a0 0)) v1) a0 0)) v2) a0 0)) v3) (a0 + 4) (ix ((um (um (um m (a0 + 1) (ix (m a0 0)) v1) (a0 + 2) (ix ((um m (a0 + 1) (ix (m a0 0)) v1) a0 0)) v2) (a0 + 3) (ix ((um (um m (a0 + 1) (ix (m a0 0)) v1) (a0 + 2) (ix ((um m (a0 + 1) (ix (m a0 0)) v1) a0 0)) v2) a0 0)) v3) a0 0)) (n32 100)) (a0 + 5) (ix ((um (um (um (um m (a0 + 1) (ix (m a0 0)) v1) (a0 + 2) (ix ((um m (a0 + 1) (ix (m a0 0)) v1) a0 0)) v2) (a0 + 3) (ix ((um (um m (a0 + 1) (ix (m a0 0)) v1) (a0 + 2) (ix ((um m (a0 + 1) (ix (m a0 0)) v1) a0 0)) v2) a0 0)) v3) (a0 + 4) (ix ((um (um (um m (a0 + 1) (ix (m a0 0)) v1) (a0 + 2) (ix ((um m (a0 + 1) (ix (m a0 0)) v1) a0 0)) v2) (a0 + 3) (ix ((um (um m (a0 + 1) (ix (m a0 0)) v1) (a0 + 2) (ix ((um m (a0 + 1) (ix (m a0 0)) v1) a0 0)) v2) a0 0)) v3) a0 0)) (n32 100)) a0 0)) v1) a0 0)) (((-v4)) * ((um (um (um (um (um m (a0 + 1) (ix (m a0 0)) v1) (a0 + 2) (ix ((um m (a0 + 1) (ix (m a0 0)) v1) a0 0)) v2) (a0 + 3) (ix ((um (um m (a0 + 1) (ix (m a0 0)) v1) (a0 + 2) (ix ((um m (a0 + 1) (ix (m a0 0)) v1) a0 0)) v2) a0 0)) v3) (a0 + 4) (ix ((um (um (um m (a0 + 1) (ix (m a0 0)) v1) (a0 + 2) (ix ((um m (a0 + 1) (ix (m a0 0)) v1) a0 0)) v2) (a0 + 3) (ix ((um (um m (a0 + 1) (ix (m a0 0)) v1) (a0 + 2) (ix ((um m (a0 + 1) (ix (m a0 0)) v1) a0 0)) v2) a0 0)) v3) a0 0)) (n32 100)) (a0 + 5) (ix ((um (um (um (um m (a0 + 1) (ix (m a0 0)) v1) (a0 + 2) (ix ((um m (a0 + 1) (ix (m a0 0)) v1) a0 0)) v2) (a0 + 3) (ix ((um (um m (a0 + 1) (ix (m a0 0)) v1) (a0 + 2) (ix ((um m (a0 + 1) (ix (m a0 0)) v1) a0 0)) v2) a0 0)) v3) (a0 + 4) (ix ((um (um (um m (a0 + 1) (ix (m a0 0)) v1) (a0 + 2) (ix ((um m (a0 + 1) (ix (m a0 0)) v1) a0 0)) v2) (a0 + 3) (ix ((um (um m (a0 + 1) (ix (m a0 0)) v1) (a0 + 2) (ix ((um m (a0 + 1) (ix (m a0 0)) v1) a0 0)) v2) a0 0)) v3) a0 0)) (n32 100)) a0 0)) v1) a0 0))) (a0 + 7) (ix ((um (um (um (um (um (um m (a0 + 1) (ix (m a0 0)) v1) (a0 + 2) (ix ((um m (a0 + 1) (ix (m a0 0)) v1) a0 0)) v2) (a0 + 3) (ix ((um (um m (a0 + 1) (ix (m a0 0)) v1) (a0 + 2) (ix ((um m (a0 + 1) (ix (m a0 0)) v1) a0 0)) v2) a0 0)) v3) (a0 + 4) (ix ((um (um (um m (a0 + 1) (ix (m a0 0)) v1) (a0 + 2) (ix ((um m (a0 + 1) (ix (m a0 0)) v1) a0 0)) v2) (a0 + 3) (ix ((um (um m (a0 + 1) (ix (m a0 0)) v1) (a0 + 2) (ix ((um m (a0 + 1) (ix (m a0 0)) v1) a0 0)) v2) a0 0)) v3) a0 0)) (n32 100)) (a0 + 5) (ix ((um (um (um (um m (a0 + 1) (ix (m a0 0)) v1) (a0 + 2) (ix ((um m (a0 + 1) (ix (m a0 0)) v1) a0 0)) v2) (a0 + 3) (ix ((um (um m (a0 + 1) (ix (m a0 0)) v1) (a0 + 2) (ix ((um m (a0 + 1) (ix (m a0 0)) v1) a0 0)) v2) a0 0)) v3) (a0 + 4) (ix ((um (um (um m (a0 + 1) (ix (m a0 0)) v1) (a0 + 2) (ix ((um m (a0 + 1) (ix (m a0 0)) v1) a0 0)) v2) (a0 + 3) (ix ((um (um m (a0 + 1) (ix (m a0 0)) v1) (a0 + 2) (ix ((um m (a0 + 1) (ix (m a0 0)) v1) a0 0)) v2) a0 0)) v3) a0 0)) (n32 100)) a0 0)) v1) (a0 + 6) (ix ((um (um (um (um (um m (a0 + 1) (ix (m a0 0)) v1) (a0 + 2) (ix ((um m (a0 + 1) (ix (m a0 0)) v1) a0 0)) v2) (a0 + 3) (ix ((um (um m (a0 + 1) (ix (m a0 0)) v1) (a0 + 2) (ix ((um m (a0 + 1) (ix (m a0 0)) v1) a0 0)) v2) a0 0)) v3) (a0 + 4) (ix ((um (um (um m (a0 + 1) (ix (m a0 0)) v1) (a0 + 2) (ix ((um m (a0 + 1) (ix (m a0 0)) v1) a0 0)) v2) (a0 + 3) (ix ((um (um m (a0 + 1) (ix (m a0 0)) v1) (a0 + 2) (ix ((um m (a0 + 1) (ix (m a0 0)) v1) a0 0)) v2) a0 0)) v3) a0 0)) (n32 100)) (a0 + 5) (ix ((um (um (um (um m (a0 + 1) (ix (m a0 0)) v1) (a0 + 2) (ix ((um m (a0 + 1) (ix (m a0 0)) v1) a0 0)) v2) (a0 + 3) (ix ((um (um m (a0 + 1) (ix (m a0 0)) v1) (a0 + 2) (ix ((um m (a0 + 1) (ix (m a0 0)) v1) a0 0)) v2) a0 0)) v3) (a0 + 4) (ix ((um (um (um m (a0 + 1) (ix (m a0 0)) v1) (a0 + 2) (ix ((um m (a0 + 1) (ix (m a0 0)) v1) a0 0)) v2) (a0 + 3) (ix ((um (um m (a0 + 1) (ix (m a0 0)) v1) (a0 + 2) (ix ((um m (a0 + 1) (ix (m a0 0)) v1) a0 0)) v2) a0 0)) v3) a0 0)) (n32 100)) a0 0)) v1) a0 0)) (((-v4)) * ((um (um (um (um (um m (a0 + 1) (ix (m a0 0)) v1) (a0 + 2) (ix ((um m (a0 + 1) (ix (m a0 0)) v1) a0 0)) v2) (a0 + 3) (ix ((um (um m (a0 + 1) (ix (m a0 0)) v1) (a0 + 2) (ix ((um m (a0 + 1) (ix (m a0 0)) v1) a0 0)) v2) a0 0)) v3) (a0 + 4) (ix ((um (um (um m (a0 + 1) (ix (m a0 0)) v1) (a0 + 2) (ix ((um m (a0 + 1) (ix (m a0 0)) v1) a0 0)) v2) (a0 + 3) (ix ((um (um m (a0 + 1) (ix (m a0 0)) v1) (a0 + 2) (ix ((um m (a0 + 1) (ix (m a0 0)) v1) a0 0)) v2) a0 0)) v3) a0 0)) (n32 100)) (a0 + 5) (ix ((um (um (um (um m (a0 + 1) (ix (m a0 0)) v1) (a0 + 2) (ix ((um m (a0 + 1) (ix (m a0 0)) v1) a0 0)) v2) (a0 + 3) (ix ((um (um m (a0 + 1) (ix (m a0 0)) v1) (a0 + 2) (ix ((um m (a0 + 1) (ix (m a0 0)) v1) a0 0)) v2) a0 0)) v3) (a0 + 4) (ix ((um (um (um m (a0 + 1) (ix (m a0 0)) v1) (a0 + 2) (ix ((um m (a0 + 1) (ix (m a0 0)) v1) a0 0)) v2) (a0 + 3) (ix ((um (um m (a0 + 1) (ix (m a0 0)) v1) (a0 + 2) (ix ((um m (a0 + 1) (ix (m a0 0)) v1) a0 0)) v2) a0 0)) v3) a0 0)) (n32 100)) a0 0)) v1) a0 0))) a0 0)) ((um (um (um (um (um (um m (a0 + 1) (ix (m a0 0)) v1) (a0 + 2) (ix ((um m (a0 + 1) (ix (m a0 0)) v1) a0 0)) v2) (a0 + 3) (ix ((um (um m (a0 + 1) (ix (m a0 0)) v1) (a0 + 2) (ix ((um m (a0 + 1) (ix (m a0 0)) v1) a0 0)) v2) a0 0)) v3) (a0 + 4) (ix ((um (um (um m (a0 + 1) (ix (m a0 0)) v1) (a0 + 2) (ix ((um m (a0 + 1) (ix (m a0 0)) v1) a0 0)) v2) (a0 + 3) (ix ((um (um m (a0 + 1) (ix (m a0 0)) v1) (a0 + 2) (ix ((um m (a0 + 1) (ix (m a0 0)) v1) a0 0)) v2) a0 0)) v3) a0 0)) (n32 100)) (a0 + 5) (ix ((um (um (um (um m (a0 + 1) (ix (m a0 0)) v1) (a0 + 2) (ix ((um m (a0 + 1) (ix (m a0 0)) v1) a0 0)) v2) (a0 + 3) (ix ((um (um m (a0 + 1) (ix (m a0 0)) v1) (a0 + 2) (ix ((um m (a0 + 1) (ix (m a0 0)) v1) a0 0)) v2) a0 0)) v3) (a0 + 4) (ix ((um (um (um m (a0 + 1) (ix (m a0 0)) v1) (a0 + 2) (ix ((um m (a0 + 1) (ix (m a0 0)) v1) a0 0)) v2) (a0 + 3) (ix ((um (um m (a0 + 1) (ix (m a0 0)) v1) (a0 + 2) (ix ((um m (a0 + 1) (ix (m a0 0)) v1) a0 0)) v2) a0 0)) v3) a0 0)) (n32 100)) a0 0)) v1) (a0 + 6) (ix ((um (um (um (um (um m (a0 + 1) (ix (m a0 0)) v1) (a0 + 2) (ix ((um m (a0 + 1) (ix (m a0 0)) v1) a0 0)) v2) (a0 + 3) (ix ((um (um m (a0 + 1) (ix (m a0 0)) v1) (a0 + 2) (ix ((um m (a0 + 1) (ix (m a0 0)) v1) a0 0)) v2) a0 0)) v3) (a0 + 4) (ix ((um (um (um m (a0 + 1) (ix (m a0 0)) v1) (a0 + 2) (ix ((um m (a0 + 1) (ix (m a0 0)) v1) a0 0)) v2) (a0 + 3) (ix ((um (um m (a0 + 1) (ix (m a0 0)) v1) (a0 + 2) (ix ((um m (a0 + 1) (ix (m a0 0)) v1) a0 0)) v2) a0 0)) v3) a0 0)) (n32 100)) (a0 + 5) (ix ((um (um (um (um m (a0 + 1) (ix (m a0 0)) v1) (a0 + 2) (ix ((um m (a0 + 1) (ix (m a0 0)) v1) a0 0)) v2) (a0 + 3) (ix ((um (um m (a0 + 1) (ix (m a0 0)) v1) (a0 + 2) (ix ((um m (a0 + 1) (ix (m a0 0)) v1) a0 0)) v2) a0 0)) v3) (a0 + 4) (ix ((um (um (um m (a0 + 1) (ix (m a0 0)) v1) (a0 + 2) (ix ((um m (a0 + 1) (ix (m a0 0)) v1) a0 0)) v2) (a0 + 3) (ix ((um (um m (a0 + 1) (ix (m a0 0)) v1) (a0 + 2) (ix ((um m (a0 + 1) (ix (m a0 0)) v1) a0 0)) v2) a0 0)) v3) a0 0)) (n32 100)) a0 0)) v1) a0 0)) (((-v4)) * ((um (um (um (um (um m (a0 + 1) (ix (m a0 0)) v1) (a0 + 2) (ix ((um m (a0 + 1) (ix (m a0 0)) v1) a0 0)) v2) (a0 + 3) (ix ((um (um m (a0 + 1) (ix (m a0 0)) v1) (a0 + 2) (ix ((um m (a0 + 1) (ix (m a0 0)) v1) a0 0)) v2) a0 0)) v3) (a0 + 4) (ix ((um (um (um m (a0 + 1) (ix (m a0 0)) v1) (a0 + 2) (ix ((um m (a0 + 1) (ix (m a0 0)) v1) a0 0)) v2) (a0 + 3) (ix ((um (um m (a0 + 1) (ix (m a0 0)) v1) (a0 + 2) (ix ((um m (a0 + 1) (ix (m a0 0)) v1) a0 0)) v2) a0 0)) v3) a0 0)) (n32 100)) (a0 + 5) (ix ((um (um (um (um m (a0 + 1) (ix (m a0 0)) v1) (a0 + 2) (ix ((um m (a0 + 1) (ix (m a0 0)) v1) a0 0)) v2) (a0 + 3) (ix ((um (um m (a0 + 1) (ix (m a0 0)) v1) (a0 + 2) (ix ((um m (a0 + 1) (ix (m a0 0)) v1) a0 0)) v2) a0 0)) v3) (a0 + 4) (ix ((um (um (um m (a0 + 1) (ix (m a0 0)) v1) (a0 + 2) (ix ((um m (a0 + 1) (ix (m a0 0)) v1) a0 0)) v2) (a0 + 3) (ix ((um (um m (a0 + 1) (ix (m a0 0)) v1) (a0 + 2) (ix ((um m (a0 + 1) (ix (m a0 0)) v1) a0 0)) v2) a0 0)) v3) a0 0)) (n32 100)) a0 0)) v1) a0 0))) (a0 + 6) (ix ((um (um (um (um (um (um m (a0 + 1) (ix (m a0 0)) v1) (a0 + 2) (ix ((um m (a0 + 1) (ix (m a0 0)) v1) a0 0)) v2) (a0 + 3) (ix ((um (um m (a0 + 1) (ix (m a0 0)) v1) (a0 + 2) (ix ((um m (a0 + 1) (ix (m a0 0)) v1) a0 0)) v2) a0 0)) v3) (a0 + 4) (ix ((um (um (um m (a0 + 1) (ix (m a0 0)) v1) (a0 + 2) (ix ((um m (a0 + 1) (ix (m a0 0)) v1) a0 0)) v2) (a0 + 3) (ix ((um (um m (a0 + 1) (ix (m a0 0)) v1) (a0 + 2) (ix ((um m (a0 + 1) (ix (m a0 0)) v1) a0 0)) v2) a0 0)) v3) a0 0)) (n32 100)) (a0 + 5) (ix ((um (um (um (um m (a0 + 1) (ix (m a0 0)) v1) (a0 + 2) (ix ((um m (a0 + 1) (ix (m a0 0)) v1) a0 0)) v2) (a0 + 3) (ix ((um (um m (a0 + 1) (ix (m a0 0)) v1) (a0 + 2) (ix ((um m (a0 + 1) (ix (m a0 0)) v1) a0 0)) v2) a0 0)) v3) (a0 + 4) (ix ((um (um (um m (a0 + 1) (ix (m a0 0)) v1) (a0 + 2) (ix ((um m (a0 + 1) (ix (m a0 0)) v1) a0 0)) v2) (a0 + 3) (ix ((um (um m (a0 + 1) (ix (m a0 0)) v1) (a0 + 2) (ix ((um m (a0 + 1) (ix (m a0 0)) v1) a0 0)) v2) a0 0)) v3) a0 0)) (n32 100)) a0 0)) v1) (a0 + 6) (ix ((um (um (um (um (um m (a0 + 1) (ix (m a0 0)) v1) (a0 + 2) (ix ((um m (a0 + 1) (ix (m a0 0)) v1) a0 0)) v2) (a0 + 3) (ix ((um (um m (a0 + 1) (ix (m a0 0)) v1) (a0 + 2) (ix ((um m (a0 + 1) (ix (m a0 0)) v1) a0 0)) v2) a0 0)) v3) (a0 + 4) (ix ((um (um (um m (a0 + 1) (ix (m a0 0)) v1) (a0 + 2) (ix ((um m (a0 + 1) (ix (m a0 0)) v1) a0 0)) v2) (a0 + 3) (ix ((um (um m (a0 + 1) (ix (m a0 0)) v1) (a0 + 2) (ix ((um m (a0 + 1) (ix (m a0 0)) v1) a0 0)) v2) a0 0)) v3) a0 0)) (n32 100)) (a0 + 5) (ix ((um (um (um (um m (a0 + 1) (ix (m a0 0)) v1) (a0 + 2) (ix ((um m (a0 + 1) (ix (m a0 0)) v1) a0 0)) v2) (a0 + 3) (ix ((um (um m (a0 + 1) (ix (m a0 0)) v1) (a0 + 2) (ix ((um m (a0 + 1) (ix (m a0 0)) v1) a0 0)) v2) a0 0)) v3) (a0 + 4) (ix ((um (um (um m (a0 + 1) (ix (m a0 0)) v1) (a0 + 2) (ix ((um m (a0 + 1) (ix (m a0 0)) v1) a0 0)) v2) (a0 + 3) (ix ((um (um m (a0 + 1) (ix (m a0 0)) v1) (a0 + 2) (ix ((um m (a0 + 1) (ix (m a0 0)) v1) a0 0)) v2) a0 0)) v3) a0 0)) (n32 100)) a0 0)) v1) a0 0)) (((-v4)) * ((um (um (um (um (um m (a0 + 1) (ix (m a0 0)) v1) (a0 + 2) (ix ((um m (a0 + 1) (ix (m a0 0)) v1) a0 0)) v2) (a0 + 3) (ix ((um (um m (a0 + 1) (ix (m a0 0)) v1) (a0 + 2) (ix ((um m (a0 + 1) (ix (m a0 0)) v1) a0 0)) v2) a0 0)) v3) (a0 + 4) (ix ((um (um (um m (a0 + 1) (ix (m a0 0)) v1) (a0 + 2) (ix ((um m (a0 + 1) (ix (m a0 0)) v1) a0 0)) v2) (a0 + 3) (ix ((um (um m (a0 + 1) (ix (m a0 0)) v1) (a0 + 2) (ix ((um m (a0 + 1) (ix (m a0 0)) v1) a0 0)) v2) a0 0)) v3) a0 0)) (n32 100)) (a0 + 5) (ix ((um (um (um (um m (a0 + 1) (ix (m a0 0)) v1) (a0 + 2) (ix ((um m (a0 + 1) (ix (m a0 0)) v1) a0 0)) v2) (a0 + 3) (ix ((um (um m (a0 + 1) (ix (m a0 0)) v1) (a0 + 2) (ix ((um m (a0 + 1) (ix (m a0 0)) v1) a0 0)) v2) a0 0)) v3) (a0 + 4) (ix ((um (um (um m (a0 + 1) (ix (m a0 0)) v1) (a0 + 2) (ix ((um m (a0 + 1) (ix (m a0 0)) v1) a0 0)) v2) (a0 + 3) (ix ((um (um m (a0 + 1) (ix (m a0 0)) v1) (a0 + 2) (ix ((um m (a0 + 1) (ix (m a0 0)) v1) a0 0)) v2) a0 0)) v3) a0 0)) (n32 100)) a0 0)) v1) a0 0))) a0 0)))) (a0 + 8) (ix ((um (um (um (um (um (um (um m (a0 + 1) (ix (m a0 0)) v1) (a0 + 2) (ix ((um m (a0 + 1) (ix (m a0 0)) v1) a0 0)) v2) (a0 + 3) (ix ((um (um m (a0 + 1) (ix (m a0 0)) v1) (a0 + 2) (ix ((um m (a0 + 1) (ix (m a0 0)) v1) a0 0)) v2) a0 0)) v3) (a0 + 4) (ix ((um (um (um m (a0 + 1) (ix (m a0 0)) v1) (a0 + 2) (ix ((um m (a0 + 1) (ix (m a0 0)) v1) a0 0)) v2) (a0 + 3) (ix ((um (um m (a0 + 1) (ix (m a0 0)) v1) (a0 + 2) (ix ((um m (a0 + 1) (ix (m a0 0)) v1) a0 0)) v2) a0 0)) v3) a0 0)) (n32 100)) (a0 + 5) (ix ((um (um (um (um m (a0 + 1) (ix (m a0 0)) v1) (a0 + 2) (ix ((um m (a0 + 1) (ix (m a0 0)) v1) a0 0)) v2) (a0 + 3) (ix ((um (um m (a0 + 1) (ix (m a0 0)) v1) (a0 + 2) (ix ((um m (a0 + 1) (ix (m a0 0)) v1) a0 0)) v2) a0 0)) v3) (a0 + 4) (ix ((um (um (um m (a0 + 1) (ix (m a0 0)) v1) (a0 + 2) (ix ((um m (a0 + 1) (ix (m a0 0)) v1) a0 0)) v2) (a0 + 3) (ix ((um (um m (a0 + 1) (ix (m a0 0)) v1) (a0 + 2) (ix ((um m (a0 + 1) (ix (m a0 0)) v1) a0 0)) v2) a0 0)) v3) a0 0)) (n32 100)) a0 0)) v1) (a0 + 6) (ix ((um (um (um (um (um m (a0 + 1) (ix (m a0 0)) v1) (a0 + 2) (ix ((um m (a0 + 1) (ix (m a0 0)) v1) a0 0)) v2) (a0 + 3) (ix ((um (um m (a0 + 1) (ix (m a0 0)) v1) (a0 + 2) (ix ((um m (a0 + 1) (ix (m a0 0)) v1) a0 0)) v2) a0 0)) v3) (a0 + 4) (ix ((um (um (um m (a0 + 1) (ix (m a0 0)) v1) (a0 + 2) (ix ((um m (a0 + 1) (ix (m a0 0)) v1) a0 0)) v2) (a0 + 3) (ix ((um (um m (a0 + 1) (ix (m a0 0)) v1) (a0 + 2) (ix ((um m (a0 + 1) (ix (m a0 0)) v1) a0 0)) v2) a0 0)) v3) a0 0)) (n32 100)) (a0 + 5) (ix ((um (um (um (um m (a0 + 1) (ix (m a0 0)) v1) (a0 + 2) (ix ((um m (a0 + 1) (ix (m a0 0)) v1) a0 0)) v2) (a0 + 3) (ix ((um (um m (a0 + 1) (ix (m a0 0)) v1) (a0 + 2) (ix ((um m (a0 + 1) (ix (m a0 0)) v1) a0 0)) v2) a0 0)) v3) (a0 + 4) (ix ((um (um (um m (a0 + 1) (ix (m a0 0)) v1) (a0 + 2) (ix ((um m (a0 + 1) (ix (m a0 0)) v1) a0 0)) v2) (a0 + 3) (ix ((um (um m (a0 + 1) (ix (m a0 0)) v1) (a0 + 2) (ix ((um m (a0 + 1) (ix (m a0 0)) v1) a0 0)) v2) a0 0)) v3) a0 0)) (n32 100)) a0 0)) v1) a0 0)) (((-v4)) * ((um (um (um (um (um m (a0 + 1) (ix (m a0 0)) v1) (a0 + 2) (ix ((um m (a0 + 1) (ix (m a0 0)) v1) a0 0)) v2) (a0 + 3) (ix ((um (um m (a0 + 1) (ix (m a0 0)) v1) (a0 + 2) (ix ((um m (a0 + 1) (ix (m a0 0)) v1) a0 0)) v2) a0 0)) v3) (a0 + 4) (ix ((um (um (um m (a0 + 1) (ix (m a0 0)) v1) (a0 + 2) (ix ((um m (a0 + 1) (ix (m a0 0)) v1) a0 0)) v2) (a0 + 3) (ix ((um (um m (a0 + 1) (ix (m a0 0)) v1) (a0 + 2) (ix ((um m (a0 + 1) (ix (m a0 0)) v1) a0 0)) v2) a0 0)) v3) a0 0)) (n32 100)) (a0 + 5) (ix ((um (um (um (um m (a0 + 1) (ix (m a0 0)) v1) (a0 + 2) (ix ((um m (a0 + 1) (ix (m a0 0)) v1) a0 0)) v2) (a0 + 3) (ix ((um (um m (a0 + 1) (ix (m a0 0)) v1) (a0 + 2) (ix ((um m (a0 + 1) (ix (m a0 0)) v1) a0 0)) v2) a0 0)) v3) (a0 + 4) (ix ((um (um (um m (a0 + 1) (ix (m a0 0)) v1) (a0 + 2) (ix ((um m (a0 + 1) (ix (m a0 0)) v1) a0 0)) v2) (a0 + 3) (ix ((um (um m (a0 + 1) (ix (m a0 0)) v1) (a0 + 2) (ix ((um m (a0 + 1) (ix (m a0 0)) v1) a0 0)) v2) a0 0)) v3) a0 0)) (n32 100)) a0 0)) v1) a0 0))) (a0 + 7) (ix ((um (um (um (um (um (um m (a0 + 1) (ix (m a0 0)) v1) (a0 + 2) (ix ((um m (a0 + 1) (ix (m a0 0)) v1) a0 0)) v2) (a0 + 3) (ix ((um (um m (a0 + 1) (ix (m a0 0)) v1) (a0 + 2) (ix ((um m (a0 + 1) (ix (m a0 0)) v1) a0 0)) v2) a0 0)) v3) (a0 + 4) (ix ((um (um (um m (a0 + 1) (ix (m a0 0)) v1) (a0 + 2) (ix ((um m (a0 + 1) (ix (m a0 0)) v1) a0 0)) v2) (a0 + 3) (ix ((um (um m (a0 + 1) (ix (m a0 0)) v1) (a0 + 2) (ix ((um m (a0 + 1) (ix (m a0 0)) v1) a0 0)) v2) a0 0)) v3) a0 0)) (n32 100)) (a0 + 5) (ix ((um (um (um (um m (a0 + 1) (ix (m a0 0)) v1) (a0 + 2) (ix ((um m (a0 + 1) (ix (m a0 0)) v1) a0 0)) v2) (a0 + 3) (ix ((um (um m (a0 + 1) (ix (m a0 0)) v1) (a0 + 2) (ix ((um m (a0 + 1) (ix (m a0 0)) v1) a0 0)) v2) a0 0)) v3) (a0 + 4) (ix ((um (um (um m (a0 + 1) (ix (m a0 0)) v1) (a0 + 2) (ix ((um m (a0 + 1) (ix (m a0 0)) v1) a0 0)) v2) (a0 + 3) (ix ((um (um m (a0 + 1) (ix (m a0 0)) v1) (a0 + 2) (ix ((um m (a0 + 1) (ix (m a0 0)) v1) a0 0)) v2) a0 0)) v3) a0 0)) (n32 100)) a0 0)) v1) (a0 + 6) (ix ((um (um (um (um (um m (a0 + 1) (ix (m a0 0)) v1) (a0 + 2) (ix ((um m (a0 + 1) (ix (m a0 0)) v1) a0 0)) v2) (a0 + 3) (ix ((um (um m (a0 + 1) (ix (m a0 0)) v1) (a0 + 2) (ix ((um m (a0 + 1) (ix (m a0 0)) v1) a0 0)) v2) a0 0)) v3) (a0 + 4) (ix ((um (um (um m (a0 + 1) (ix (m a0 0)) v1) (a0 + 2) (ix ((um m (a0 + 1) (ix (m a0 0)) v1) a0 0)) v2) (a0 + 3) (ix ((um (um m (a0 + 1) (ix (m a0 0)) v1) (a0 + 2) (ix ((um m (a0 + 1) (ix (m a0 0)) v1) a0 0)) v2) a0 0)) v3) a0 0)) (n32 100)) (a0 + 5) (ix ((um (um (um (um m (a0 + 1) (ix (m a0 0)) v1) (a0 + 2) (ix ((um m (a0 + 1) (ix (m a0 0)) v1) a0 0)) v2) (a0 + 3) (ix ((um (um m (a0 + 1) (ix (m a0 0)) v1) (a0 + 2) (ix ((um m (a0 + 1) (ix (m a0 0)) v1) a0 0)) v2) a0 0)) v3) (a0 + 4) (ix ((um (um (um m (a0 + 1) (ix (m a0 0)) v1) (a0 + 2) (ix ((um m (a0 + 1) (ix (m a0 0)) v1) a0 0)) v2) (a0 + 3) (ix ((um (um m (a0 + 1) (ix (m a0 0)) v1) (a0 + 2) (ix ((um m (a0 + 1) (ix (m a0 0)) v1) a0 0)) v2) a0 0)) v3) a0 0)) (n32 100)) a0 0)) v1) a0 0)) (((-v4)) * ((um (um (um (um (um m (a0 + 1) (ix (m a0 0)) v1) (a0 + 2) (ix ((um m (a0 + 1) (ix (m a0 0)) v1) a0 0)) v2) (a0 + 3) (ix ((um (um m (a0 + 1) (ix (m a0 0)) v1) (a0 + 2) (ix ((um m (a0 + 1) (ix (m a0 0)) v1) a0 0)) v2) a0 0)) v3) (a0 + 4) (ix ((um (um (um m (a0 + 1) (ix (m a0 0)) v1) (a0 + 2) (ix ((um m (a0 + 1) (ix (m a0 0)) v1) a0 0)) v2) (a0 + 3) (ix ((um (um m (a0 + 1) (ix (m a0 0)) v1) (a0 + 2) (ix ((um m (a0 + 1) (ix (m a0 0)) v1) a0 0)) v2) a0 0)) v3) a0 0)) (n32 100)) (a0 + 5) (ix ((um (um (um (um m (a0 + 1) (ix (m a0 0)) v1) (a0 + 2) (ix ((um m (a0 + 1) (ix (m a0 0)) v1) a0 0)) v2) (a0 + 3) (ix ((um (um m (a0 + 1) (ix (m a0 0)) v1) (a0 + 2) (ix ((um m (a0 + 1) (ix (m a0 0)) v1) a0 0)) v2) a0 0)) v3) (a0 + 4) (ix ((um (um (um m (a0 + 1) (ix (m a0 0)) v1) (a0 + 2) (ix ((um m (a0 + 1) (ix (m a0 0)) v1) a0 0)) v2) (a0 + 3) (ix ((um (um m (a0 + 1) (ix (m a0 0)) v1) (a0 + 2) (ix ((um m (a0 + 1) (ix (m a0 0)) v1) a0 0)) v2) a0 0)) v3) a0 0)) (n32 100)) a0 0)) v1) a0 0))) a0 0)) ((um (um (um (um (um (um m (a0 + 1) (ix (m a0 0)) v1) (a0 + 2) (ix ((um m (a0 + 1) (ix (m a0 0)) v1) a0 0)) v2) (a0 + 3) (ix ((um (um m (a0 + 1) (ix (m a0 0)) v1) (a0 + 2) (ix ((um m (a0 + 1) (ix (m a0 0)) v1) a0 0)) v2) a0 0)) v3) (a0 + 4) (ix ((um (um (um m (a0 + 1) (ix (m a0 0)) v1) (a0 + 2) (ix ((um m (a0 + 1) (ix (m a0 0)) v1) a0 0)) v2) (a0 + 3) (ix ((um (um m (a0 + 1) (ix (m a0 0)) v1) (a0 + 2) (ix ((um m (a0 + 1) (ix (m a0 0)) v1) a0 0)) v2) a0 0)) v3) a0 0)) (n32 100)) (a0 + 5) (ix ((um (um (um (um m (a0 + 1) (ix (m a0 0)) v1) (a0 + 2) (ix ((um m (a0 + 1) (ix (m a0 0)) v1) a0 0)) v2) (a0 + 3) (ix ((um (um m (a0 + 1) (ix (m a0 0)) v1) (a0 + 2) (ix ((um m (a0 + 1) (ix (m a0 0)) v1) a0 0)) v2) a0 0)) v3) (a0 + 4) (ix ((um (um (um m (a0 + 1) (ix (m a0 0)) v1) (a0 + 2) (ix ((um m (a0 + 1) (ix (m a0 0)) v1) a0 0)) v2) (a0 + 3) (ix ((um (um m (a0 + 1) (ix (m a0 0)) v1) (a0 + 2) (ix ((um m (a0 + 1) (ix (m a0 0)) v1) a0 0)) v2) a0 0)) v3) a0 0)) (n32 100)) a0 0)) v1) (a0 + 6) (ix ((um (um (um (um (um m (a0 + 1) (ix (m a0 0)) v1) (a0 + 2) (ix ((um m (a0 + 1) (ix (m a0 0)) v1) a0 0)) v2) (a0 + 3) (ix ((um (um m (a0 + 1) (ix (m a0 0)) v1) (a0 + 2) (ix ((um m (a0 + 1) (ix (m a0 0)) v1) a0 0)) v2) a0 0)) v3) (a0 + 4) (ix ((um (um (um m (a0 + 1) (ix (m a0 0)) v1) (a0 + 2) (ix ((um m (a0 + 1) (ix (m a0 0)) v1) a0 0)) v2) (a0 + 3) (ix ((um (um m (a0 + 1) (ix (m a0 0)) v1) (a0 + 2) (ix ((um m (a0 + 1) (ix (m a0 0)) v1) a0 0)) v2) a0 0)) v3) a0 0)) (n32 100)) (a0 + 5) (ix ((um (um (um (um m (a0 + 1) (ix (m a0 0)) v1) (a0 + 2) (ix ((um m (a0 + 1) (ix (m a0 0)) v1) a0 0)) v2) (a0 + 3) (ix ((um (um m (a0 + 1) (ix (m a0 0)) v1) (a0 + 2) (ix ((um m (a0 + 1) (ix (m a0 0)) v1) a0 0)) v2) a0 0)) v3) (a0 + 4) (ix ((um (um (um m (a0 + 1) (ix (m a0 0)) v1) (a0 + 2) (ix ((um m (a0 + 1) (ix (m a0 0)) v1) a0 0)) v2) (a0 + 3) (ix ((um (um m (a0 + 1) (ix (m a0 0)) v1) (a0 + 2) (ix ((um m (a0 + 1) (ix (m a0 0)) v1) a0 0)) v2) a0 0)) v3) a0 0)) (n32 100)) a0 0)) v1) a0 0)) (((-v4)) * ((um (um (um (um (um m (a0 + 1) (ix (m a0 0)) v1) (a0 + 2) (ix ((um m (a0 + 1) (ix (m a0 0)) v1) a0 0)) v2) (a0 + 3) (ix ((um (um m (a0 + 1) (ix (m a0 0)) v1) (a0 + 2) (ix ((um m (a0 + 1) (ix (m a0 0)) v1) a0 0)) v2) a0 0)) v3) (a0 + 4) (ix ((um (um (um m (a0 + 1) (ix (m a0 0)) v1) (a0 + 2) (ix ((um m (a0 + 1) (ix (m a0 0)) v1) a0 0)) v2) (a0 + 3) (ix ((um (um m (a0 + 1) (ix (m a0 0)) v1) (a0 + 2) (ix ((um m (a0 + 1) (ix (m a0 0)) v1) a0 0)) v2) a0 0)) v3) a0 0)) (n32 100)) (a0 + 5) (ix ((um (um (um (um m (a0 + 1) (ix (m a0 0)) v1) (a0 + 2) (ix ((um m (a0 + 1) (ix (m a0 0)) v1) a0 0)) v2) (a0 + 3) (ix ((um (um m (a0 + 1) (ix (m a0 0)) v1) (a0 + 2) (ix ((um m (a0 + 1) (ix (m a0 0)) v1) a0 0)) v2) a0 0)) v3) (a0 + 4) (ix ((um (um (um m (a0 + 1) (ix (m a0 0)) v1) (a0 + 2) (ix ((um m (a0 + 1) (ix (m a0 0)) v1) a0 0)) v2) (a0 + 3) (ix ((um (um m (a0 + 1) (ix (m a0 0)) v1) (a0 + 2) (ix ((um m (a0 + 1) (ix (m a0 0)) v1) a0 0)) v2) a0 0)) v3) a0 0)) (n32 100)) a0 0)) v1) a0 0))) (a0 + 6) (ix ((um (um (um (um (um (um m (a0 + 1) (ix (m a0 0)) v1) (a0 + 2) (ix ((um m (a0 + 1) (ix (m a0 0)) v1) a0 0)) v2) (a0 + 3) (ix ((um (um m (a0 + 1) (ix (m a0 0)) v1) (a0 + 2) (ix ((um m (a0 + 1) (ix (m a0 0)) v1) a0 0)) v2) a0 0)) v3) (a0 + 4) (ix ((um (um (um m (a0 + 1) (ix (m a0 0)) v1) (a0 + 2) (ix ((um m (a0 + 1) (ix (m a0 0)) v1) a0 0)) v2) (a0 + 3) (ix ((um (um m (a0 + 1) (ix (m a0 0)) v1) (a0 + 2) (ix ((um m (a0 + 1) (ix (m a0 0)) v1) a0 0)) v2) a0 0)) v3) a0 0)) (n32 100)) (a0 + 5) (ix ((um (um (um (um m (a0 + 1) (ix (m a0 0)) v1) (a0 + 2) (ix ((um m (a0 + 1) (ix (m a0 0)) v1) a0 0)) v2) (a0 + 3) (ix ((um (um m (a0 + 1) (ix (m a0 0)) v1) (a0 + 2) (ix ((um m (a0 + 1) (ix (m a0 0)) v1) a0 0)) v2) a0 0)) v3) (a0 + 4) (ix ((um (um (um m (a0 + 1) (ix (m a0 0)) v1) (a0 + 2) (ix ((um m (a0 + 1) (ix (m a0 0)) v1) a0 0)) v2) (a0 + 3) (ix ((um (um m (a0 + 1) (ix (m a0 0)) v1) (a0 + 2) (ix ((um m (a0 + 1) (ix (m a0 0)) v1) a0 0)) v2) a0 0)) v3) a0 0)) (n32 100)) a0 0)) v1) (a0 + 6) (ix ((um (um (um (um (um m (a0 + 1) (ix (m a0 0)) v1) (a0 + 2) (ix ((um m (a0 + 1) (ix (m a0 0)) v1) a0 0)) v2) (a0 + 3) (ix ((um (um m (a0 + 1) (ix (m a0 0)) v1) (a0 + 2) (ix ((um m (a0 + 1) (ix (m a0 0)) v1) a0 0)) v2) a0 0)) v3) (a0 + 4) (ix ((um (um (um m (a0 + 1) (ix (m a0 0)) v1) (a0 + 2) (ix ((um m (a0 + 1) (ix (m a0 0)) v1) a0 0)) v2) (a0 + 3) (ix ((um (um m (a0 + 1) (ix (m a0 0)) v1) (a0 + 2) (ix ((um m (a0 + 1) (ix (m a0 0)) v1) a0 0)) v2) a0 0)) v3) a0 0)) (n32 100)) (a0 + 5) (ix ((um (um (um (um m (a0 + 1) (ix (m a0 0)) v1) (a0 + 2) (ix ((um m (a0 + 1) (ix (m a0 0)) v1) a0 0)) v2) (a0 + 3) (ix ((um (um m (a0 + 1) (ix (m a0 0)) v1) (a0 + 2) (ix ((um m (a0 + 1) (ix (m a0 0)) v1) a0 0)) v2) a0 0)) v3) (a0 + 4) (ix ((um (um (um m (a0 + 1) (ix (m a0 0)) v1) (a0 + 2) (ix ((um m (a0 + 1) (ix (m a0 0)) v1) a0 0)) v2) (a0 + 3) (ix ((um (um m (a0 + 1) (ix (m a0 0)) v1) (a0 + 2) (ix ((um m (a0 + 1) (ix (m a0 0)) v1) a0 0)) v2) a0 0)) v3) a0 0)) (n32 100)) a0 0)) v1) a0 0)) (((-v4)) * ((um (um (um (um (um m (a0 + 1) (ix (m a0 0)) v1) (a0 + 2) (ix ((um m (a0 + 1) (ix (m a0 0)) v1) a0 0)) v2) (a0 + 3) (ix ((um (um m (a0 + 1) (ix (m a0 0)) v1) (a0 + 2) (ix ((um m (a0 + 1) (ix (m a0 0)) v1) a0 0)) v2) a0 0)) v3) (a0 + 4) (ix ((um (um (um m (a0 + 1) (ix (m a0 0)) v1) (a0 + 2) (ix ((um m (a0 + 1) (ix (m a0 0)) v1) a0 0)) v2) (a0 + 3) (ix ((um (um m (a0 + 1) (ix (m a0 0)) v1) (a0 + 2) (ix ((um m (a0 + 1) (ix (m a0 0)) v1) a0 0)) v2) a0 0)) v3) a0 0)) (n32 100)) (a0 + 5) (ix ((um (um (um (um m (a0 + 1) (ix (m a0 0)) v1) (a0 + 2) (ix ((um m (a0 + 1) (ix (m a0 0)) v1) a0 0)) v2) (a0 + 3) (ix ((um (um m (a0 + 1) (ix (m a0 0)) v1) (a0 + 2) (ix ((um m (a0 + 1) (ix (m a0 0)) v1) a0 0)) v2) a0 0)) v3) (a0 + 4) (ix ((um (um (um m (a0 + 1) (ix (m a0 0)) v1) (a0 + 2) (ix ((um m (a0 + 1) (ix (m a0 0)) v1) a0 0)) v2) (a0 + 3) (ix ((um (um m (a0 + 1) (ix (m a0 0)) v1) (a0 + 2) (ix ((um m (a0 + 1) (ix (m a0 0)) v1) a0 0)) v2) a0 0)) v3) a0 0)) (n32 100)) a0 0)) v1) a0 0))) a0 0)))) a0 0)) (n32 0)) a0 0) + (n32 1))) rfl)
  · refine VL_norm km49 k49_1 (VL_at (al := []) (st := []) km49 k49_1 ?_)
    exact (h.2 c4)
