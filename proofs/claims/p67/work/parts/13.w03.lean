/-! Verification conditions (written by program: wip/whole/mkw.py). -/
/-- BannerParade.tick, label 4 -/
theorem w142_4 {D : Nat} {v1 : Int32} {v2 : Int32} {v3 : Int32} {m : XM} {Q : Int32 → XM → Prop} {E : Nat → XM → Prop}
    (h : ((v1 ≤ v3 → VI (D + 4) 166 [vR 10 (0)] m (fun x1 m1 => Q (((((((((x1 - (((x1).toUInt32 >>> (((n32 1)).toUInt32 &&& Int32.toUInt32 31)).toInt32 &&& (n32 1431655765))) &&& (n32 858993459)) + ((((x1 - (((x1).toUInt32 >>> (((n32 1)).toUInt32 &&& Int32.toUInt32 31)).toInt32 &&& (n32 1431655765)))).toUInt32 >>> (((n32 2)).toUInt32 &&& Int32.toUInt32 31)).toInt32 &&& (n32 858993459))) + (((((x1 - (((x1).toUInt32 >>> (((n32 1)).toUInt32 &&& Int32.toUInt32 31)).toInt32 &&& (n32 1431655765))) &&& (n32 858993459)) + ((((x1 - (((x1).toUInt32 >>> (((n32 1)).toUInt32 &&& Int32.toUInt32 31)).toInt32 &&& (n32 1431655765)))).toUInt32 >>> (((n32 2)).toUInt32 &&& Int32.toUInt32 31)).toInt32 &&& (n32 858993459)))).toUInt32 >>> (((n32 4)).toUInt32 &&& Int32.toUInt32 31)).toInt32) &&& (n32 252645135)) + (((((((x1 - (((x1).toUInt32 >>> (((n32 1)).toUInt32 &&& Int32.toUInt32 31)).toInt32 &&& (n32 1431655765))) &&& (n32 858993459)) + ((((x1 - (((x1).toUInt32 >>> (((n32 1)).toUInt32 &&& Int32.toUInt32 31)).toInt32 &&& (n32 1431655765)))).toUInt32 >>> (((n32 2)).toUInt32 &&& Int32.toUInt32 31)).toInt32 &&& (n32 858993459))) + (((((x1 - (((x1).toUInt32 >>> (((n32 1)).toUInt32 &&& Int32.toUInt32 31)).toInt32 &&& (n32 1431655765))) &&& (n32 858993459)) + ((((x1 - (((x1).toUInt32 >>> (((n32 1)).toUInt32 &&& Int32.toUInt32 31)).toInt32 &&& (n32 1431655765)))).toUInt32 >>> (((n32 2)).toUInt32 &&& Int32.toUInt32 31)).toInt32 &&& (n32 858993459)))).toUInt32 >>> (((n32 4)).toUInt32 &&& Int32.toUInt32 31)).toInt32) &&& (n32 252645135))).toUInt32 >>> (((n32 8)).toUInt32 &&& Int32.toUInt32 31)).toInt32) + ((((((((x1 - (((x1).toUInt32 >>> (((n32 1)).toUInt32 &&& Int32.toUInt32 31)).toInt32 &&& (n32 1431655765))) &&& (n32 858993459)) + ((((x1 - (((x1).toUInt32 >>> (((n32 1)).toUInt32 &&& Int32.toUInt32 31)).toInt32 &&& (n32 1431655765)))).toUInt32 >>> (((n32 2)).toUInt32 &&& Int32.toUInt32 31)).toInt32 &&& (n32 858993459))) + (((((x1 - (((x1).toUInt32 >>> (((n32 1)).toUInt32 &&& Int32.toUInt32 31)).toInt32 &&& (n32 1431655765))) &&& (n32 858993459)) + ((((x1 - (((x1).toUInt32 >>> (((n32 1)).toUInt32 &&& Int32.toUInt32 31)).toInt32 &&& (n32 1431655765)))).toUInt32 >>> (((n32 2)).toUInt32 &&& Int32.toUInt32 31)).toInt32 &&& (n32 858993459)))).toUInt32 >>> (((n32 4)).toUInt32 &&& Int32.toUInt32 31)).toInt32) &&& (n32 252645135)) + (((((((x1 - (((x1).toUInt32 >>> (((n32 1)).toUInt32 &&& Int32.toUInt32 31)).toInt32 &&& (n32 1431655765))) &&& (n32 858993459)) + ((((x1 - (((x1).toUInt32 >>> (((n32 1)).toUInt32 &&& Int32.toUInt32 31)).toInt32 &&& (n32 1431655765)))).toUInt32 >>> (((n32 2)).toUInt32 &&& Int32.toUInt32 31)).toInt32 &&& (n32 858993459))) + (((((x1 - (((x1).toUInt32 >>> (((n32 1)).toUInt32 &&& Int32.toUInt32 31)).toInt32 &&& (n32 1431655765))) &&& (n32 858993459)) + ((((x1 - (((x1).toUInt32 >>> (((n32 1)).toUInt32 &&& Int32.toUInt32 31)).toInt32 &&& (n32 1431655765)))).toUInt32 >>> (((n32 2)).toUInt32 &&& Int32.toUInt32 31)).toInt32 &&& (n32 858993459)))).toUInt32 >>> (((n32 4)).toUInt32 &&& Int32.toUInt32 31)).toInt32) &&& (n32 252645135))).toUInt32 >>> (((n32 8)).toUInt32 &&& Int32.toUInt32 31)).toInt32)).toUInt32 >>> (((n32 16)).toUInt32 &&& Int32.toUInt32 31)).toInt32) &&& (n32 63)) - v2) m1) E) ∧ (¬ v1 ≤ v3 → VU (D + 4) 70 [vR 8 (29)] m (fun m2 => VU (D + 4) 165 [vR 10 (0)] m2 (fun m3 => VLI (D + 5) 142 4 [(0, vR 10 (0)), (1, vI v1), (2, vI v2), (3, vI (v3 + (n32 1)))] [] m3 Q E) E) E))) :
    VLI (D + 5) 142 4 [(0, vR 10 (0)), (1, vI v1), (2, vI v2), (3, vI v3)] [] m Q E := by
  refine VL_at (al := [(0, vR 10 (0)), (1, vI v1), (2, vI v2), (3, vI v3)]) (st := []) km142 k142_4 ?_
  refine And.intro (fun c4 => ?_) (fun c4 => ?_)
  · refine VL_norm km142 k142_6 (VL_at (al := [(0, vR 10 (0)), (2, vI v2)]) (st := []) km142 k142_6 ?_)
    refine V_mono (h.1 c4) (fun u1 m1 h1 => ?_) (fun _ _ h => h)
    refine V_of ?_
    refine VL_norm km383 k383_0 (VL_at (al := [(0, vI (xti u1))]) (st := []) km383 k383_0 ?_)
    exact h1
  · refine VL_norm km142 k142_5 (VL_at (al := [(0, vR 10 (0)), (1, vI v1), (2, vI v2), (3, vI v3)]) (st := []) km142 k142_5 ?_)
    refine V_mono (h.2 c4) (fun u2 m2 h2 => ?_) (fun _ _ h => h)
    refine V_mono h2 (fun u3 m3 h3 => ?_) (fun _ _ h => h)
    exact VL_norm km142 k142_4 h3
/-- BannerParade.drop, label 0 -/
theorem w144_0 {D : Nat} {v1 : Int32} {m : XM} {Q : Int32 → XM → Prop} {E : Nat → XM → Prop}
    (h : (((m 0 7) = (n32 0) → E 0 m) ∧ (¬ (m 0 7) = (n32 0) → ((v1 < (n32 0) → E 2 m) ∧ (¬ v1 < (n32 0) → ((v1 < (m (29 + 3) 0) → (xin v1 12 = true ∧ (((m (29 + 3 + 5) (ix v1)) = (n32 0) → E 1 m) ∧ (¬ (m (29 + 3 + 5) (ix v1)) = (n32 0) → VU (D + 4) 13 [vR 2 (74), vR 8 (29)] m (fun m1 => VU (D + 4) 76 [vR 8 (29), vI v1] m1 (fun m2 => Q (m2 (29 + 12) 0) m2) E) E)))) ∧ (¬ v1 < (m (29 + 3) 0) → E 2 m))))))) :
    VI (D + 5) 144 [vR 10 (0), vI v1] m Q E := by
  refine V_of (VL_at (al := [(0, vR 10 (0)), (1, vI v1)]) (st := []) km144 k144_0 ?_)
  refine V_of ?_
  refine VL_norm km155 k155_0 (VL_at (al := [(0, vR 10 (0))]) (st := []) km155 k155_0 ?_)
  refine And.intro (fun c6 => ?_) (fun c6 => ?_)
  · refine VL_norm km155 k155_1 (VL_at (al := []) (st := []) km155 k155_1 ?_)
    exact (h.1 c6)
  · refine VL_norm km155 k155_2 (VL_at (al := []) (st := []) km155 k155_2 ?_)
    refine V_of ?_
    refine VL_norm km156 k156_0 (VL_at (al := [(0, vR 10 (0)), (1, vI v1)]) (st := []) km156 k156_0 ?_)
    refine V_of ?_
    refine VL_norm km158 k158_0 (VL_at (al := [(0, vI v1), (1, vI (m (29 + 3) 0))]) (st := []) km158 k158_0 ?_)
    refine And.intro (fun c5 => ?_) (fun c5 => ?_)
    · refine VL_norm km158 k158_2 (VL_at (al := []) (st := []) km158 k158_2 ?_)
      exact ((h.2 c6).1 c5)
    · refine VL_norm km158 k158_1 (VL_at (al := [(0, vI v1), (1, vI (m (29 + 3) 0))]) (st := []) km158 k158_1 ?_)
      refine And.intro (fun c4 => ?_) (fun c4 => ?_)
      · refine VL_norm km158 k158_3 (VL_at (al := []) (st := []) km158 k158_3 ?_)
        refine And.intro (((h.2 c6).2 c5).1 c4).1 ?_
        refine And.intro (fun c3 => ?_) (fun c3 => ?_)
        · refine VL_norm km144 k144_2 (VL_at (al := [(0, vR 10 (0)), (1, vI v1)]) (st := []) km144 k144_2 ?_)
          refine VL_norm km144 k144_3 (VL_at (al := [(0, vR 10 (0)), (1, vI v1)]) (st := [vI (n32 0)]) km144 k144_3 ?_)
          refine V_of ?_
          refine VL_norm km160 k160_0 (VL_at (al := [(0, vI (n32 0))]) (st := []) km160 k160_0 ?_)
          refine And.intro (fun _ => ?_) (fun c => absurd (by decide) c)
          refine VL_norm km160 k160_1 (VL_at (al := []) (st := []) km160 k160_1 ?_)
          exact ((((h.2 c6).2 c5).1 c4).2.1 c3)
        · refine VL_norm km144 k144_1 (VL_at (al := [(0, vR 10 (0)), (1, vI v1)]) (st := []) km144 k144_1 ?_)
          refine VL_norm km144 k144_3 (VL_at (al := [(0, vR 10 (0)), (1, vI v1)]) (st := [vI (n32 1)]) km144 k144_3 ?_)
          refine V_of ?_
          refine VL_norm km160 k160_0 (VL_at (al := [(0, vI (n32 1))]) (st := []) km160 k160_0 ?_)
          refine And.intro (fun c => absurd c (by decide)) (fun _ => ?_)
          refine VL_norm km160 k160_2 (VL_at (al := []) (st := []) km160 k160_2 ?_)
          refine V_mono ((((h.2 c6).2 c5).1 c4).2.2 c3) (fun u1 m1 h1 => ?_) (fun _ _ h => h)
          refine V_mono h1 (fun u2 m2 h2 => ?_) (fun _ _ h => h)
          exact h2
      · refine VL_norm km158 k158_2 (VL_at (al := []) (st := []) km158 k158_2 ?_)
        exact (((h.2 c6).2 c5).2 c4)
/-- BannerParade.pick, label 0 -/
theorem w145_0 {D : Nat} {v1 : Int32} {m : XM} {Q : Int32 → XM → Prop} {E : Nat → XM → Prop}
    (h : (((m 0 7) = (n32 0) → E 0 m) ∧ (¬ (m 0 7) = (n32 0) → ((v1 < (n32 0) → E 2 m) ∧ (¬ v1 < (n32 0) → ((v1 < (m (29 + 3) 0) → (xin v1 12 = true ∧ VI (D + 4) 8 [vR 1 (29 + 12), vI (m (29 + 3 + 6) (ix v1)), vI (m (29 + 3 + 6) (ix v1))] m (fun x1 m1 => (((m1 (29 + 3 + 5) (ix v1)) = (n32 0) → (((m1 (29 + 3 + 4) (ix v1)) < (m1 (29 + 1) (ix (n32 4))) → E 1 m1) ∧ (¬ (m1 (29 + 3 + 4) (ix v1)) < (m1 (29 + 1) (ix (n32 4))) → ((x1 = (-(n32 1)) → E 1 m1) ∧ (¬ x1 = (-(n32 1)) → VU (D + 4) 13 [vR 2 (74), vR 8 (29)] m1 (fun m2 => VU (D + 4) 78 [vR 8 (29), vI v1, vI x1] m2 (fun m3 => Q (m3 (29 + 3 + 5) (ix v1)) m3) E) E))))) ∧ (¬ (m1 (29 + 3 + 5) (ix v1)) = (n32 0) → E 1 m1))) E)) ∧ (¬ v1 < (m (29 + 3) 0) → E 2 m))))))) :
    VI (D + 5) 145 [vR 10 (0), vI v1] m Q E := by
  refine V_of (VL_at (al := [(0, vR 10 (0)), (1, vI v1)]) (st := []) km145 k145_0 ?_)
  refine V_of ?_
  refine VL_norm km155 k155_0 (VL_at (al := [(0, vR 10 (0))]) (st := []) km155 k155_0 ?_)
  refine And.intro (fun c9 => ?_) (fun c9 => ?_)
  · refine VL_norm km155 k155_1 (VL_at (al := []) (st := []) km155 k155_1 ?_)
    exact (h.1 c9)
  · refine VL_norm km155 k155_2 (VL_at (al := []) (st := []) km155 k155_2 ?_)
    refine V_of ?_
    refine VL_norm km156 k156_0 (VL_at (al := [(0, vR 10 (0)), (1, vI v1)]) (st := []) km156 k156_0 ?_)
    refine V_of ?_
    refine VL_norm km158 k158_0 (VL_at (al := [(0, vI v1), (1, vI (m (29 + 3) 0))]) (st := []) km158 k158_0 ?_)
    refine And.intro (fun c8 => ?_) (fun c8 => ?_)
    · refine VL_norm km158 k158_2 (VL_at (al := []) (st := []) km158 k158_2 ?_)
      exact ((h.2 c9).1 c8)
    · refine VL_norm km158 k158_1 (VL_at (al := [(0, vI v1), (1, vI (m (29 + 3) 0))]) (st := []) km158 k158_1 ?_)
      refine And.intro (fun c7 => ?_) (fun c7 => ?_)
      · refine VL_norm km158 k158_3 (VL_at (al := []) (st := []) km158 k158_3 ?_)
        refine And.intro (((h.2 c9).2 c8).1 c7).1 ?_
        refine And.intro (((h.2 c9).2 c8).1 c7).1 ?_
        refine V_mono (((h.2 c9).2 c8).1 c7).2 (fun u1 m1 h1 => ?_) (fun _ _ h => h)
        refine V_of ?_
        refine VL_norm km77 k77_0 (VL_at (al := [(0, vR 8 (29)), (1, vI v1)]) (st := []) km77 k77_0 ?_)
        refine And.intro (((h.2 c9).2 c8).1 c7).1 ?_
        refine And.intro (fun c6 => ?_) (fun c6 => ?_)
        · refine VL_norm km77 k77_1 (VL_at (al := [(0, vR 8 (29)), (1, vI v1)]) (st := []) km77 k77_1 ?_)
          refine And.intro (((h.2 c9).2 c8).1 c7).1 ?_
          refine And.intro (xin_k rfl) ?_
          refine And.intro (fun c5 => ?_) (fun c5 => ?_)
          · refine VL_norm km77 k77_3 (VL_at (al := []) (st := []) km77 k77_3 ?_)
            refine VL_norm km77 k77_4 (VL_at (al := []) (st := [vI (n32 0)]) km77 k77_4 ?_)
            refine And.intro xrt20 ?_
            refine And.intro (fun _ => ?_) (fun c => absurd (by decide) c)
            refine VL_norm km145 k145_3 (VL_at (al := [(0, vR 10 (0)), (1, vI v1), (2, vI (xti u1))]) (st := []) km145 k145_3 ?_)
            refine VL_norm km145 k145_4 (VL_at (al := [(0, vR 10 (0)), (1, vI v1), (2, vI (xti u1))]) (st := [vI (n32 0)]) km145 k145_4 ?_)
            refine V_of ?_
            refine VL_norm km160 k160_0 (VL_at (al := [(0, vI (n32 0))]) (st := []) km160 k160_0 ?_)
            refine And.intro (fun _ => ?_) (fun c => absurd (by decide) c)
            refine VL_norm km160 k160_1 (VL_at (al := []) (st := []) km160 k160_1 ?_)
            exact ((h1.1 c6).1 c5)
          · refine VL_norm km77 k77_2 (VL_at (al := []) (st := []) km77 k77_2 ?_)
            refine VL_norm km77 k77_4 (VL_at (al := []) (st := [vI (n32 1)]) km77 k77_4 ?_)
            refine And.intro xrt21 ?_
            refine And.intro (fun c => absurd c (by decide)) (fun _ => ?_)
            refine VL_norm km145 k145_1 (VL_at (al := [(0, vR 10 (0)), (1, vI v1), (2, vI (xti u1))]) (st := []) km145 k145_1 ?_)
            refine And.intro (fun c4 => ?_) (fun c4 => ?_)
            · refine VL_norm km145 k145_3 (VL_at (al := [(0, vR 10 (0)), (1, vI v1), (2, vI (xti u1))]) (st := []) km145 k145_3 ?_)
              refine VL_norm km145 k145_4 (VL_at (al := [(0, vR 10 (0)), (1, vI v1), (2, vI (xti u1))]) (st := [vI (n32 0)]) km145 k145_4 ?_)
              refine V_of ?_
              refine VL_norm km160 k160_0 (VL_at (al := [(0, vI (n32 0))]) (st := []) km160 k160_0 ?_)
              refine And.intro (fun _ => ?_) (fun c => absurd (by decide) c)
              refine VL_norm km160 k160_1 (VL_at (al := []) (st := []) km160 k160_1 ?_)
              exact (((h1.1 c6).2 c5).1 c4)
            · refine VL_norm km145 k145_2 (VL_at (al := [(0, vR 10 (0)), (1, vI v1), (2, vI (xti u1))]) (st := []) km145 k145_2 ?_)
              refine VL_norm km145 k145_4 (VL_at (al := [(0, vR 10 (0)), (1, vI v1), (2, vI (xti u1))]) (st := [vI (n32 1)]) km145 k145_4 ?_)
              refine V_of ?_
              refine VL_norm km160 k160_0 (VL_at (al := [(0, vI (n32 1))]) (st := []) km160 k160_0 ?_)
              refine And.intro (fun c => absurd c (by decide)) (fun _ => ?_)
              refine VL_norm km160 k160_2 (VL_at (al := []) (st := []) km160 k160_2 ?_)
              refine V_mono (((h1.1 c6).2 c5).2 c4) (fun u2 m2 h2 => ?_) (fun _ _ h => h)
              refine V_mono h2 (fun u3 m3 h3 => ?_) (fun _ _ h => h)
              refine And.intro (((h.2 c9).2 c8).1 c7).1 ?_
              exact h3
        · refine VL_norm km77 k77_3 (VL_at (al := []) (st := []) km77 k77_3 ?_)
          refine VL_norm km77 k77_4 (VL_at (al := []) (st := [vI (n32 0)]) km77 k77_4 ?_)
          refine And.intro xrt20 ?_
          refine And.intro (fun _ => ?_) (fun c => absurd (by decide) c)
          refine VL_norm km145 k145_3 (VL_at (al := [(0, vR 10 (0)), (1, vI v1), (2, vI (xti u1))]) (st := []) km145 k145_3 ?_)
          refine VL_norm km145 k145_4 (VL_at (al := [(0, vR 10 (0)), (1, vI v1), (2, vI (xti u1))]) (st := [vI (n32 0)]) km145 k145_4 ?_)
          refine V_of ?_
          refine VL_norm km160 k160_0 (VL_at (al := [(0, vI (n32 0))]) (st := []) km160 k160_0 ?_)
          refine And.intro (fun _ => ?_) (fun c => absurd (by decide) c)
          refine VL_norm km160 k160_1 (VL_at (al := []) (st := []) km160 k160_1 ?_)
          exact (h1.2 c6)
      · refine VL_norm km158 k158_2 (VL_at (al := []) (st := []) km158 k158_2 ?_)
        exact (((h.2 c9).2 c8).2 c7)
/-- BannerParade.strengthen, label 0 -/
theorem w146_0 {D : Nat} {v1 : Int32} {v2 : Int32} {m : XM} {Q : Int32 → XM → Prop} {E : Nat → XM → Prop}
    (h : (((m 0 7) = (n32 0) → E 0 m) ∧ (¬ (m 0 7) = (n32 0) → ((v1 < (n32 0) → E 2 m) ∧ (¬ v1 < (n32 0) → ((v1 < (m (29 + 3) 0) → ((v2 < (-(n32 100)) → E 1 m) ∧ (¬ v2 < (-(n32 100)) → (((n32 100) < v2 → E 1 m) ∧ (¬ (n32 100) < v2 → VU (D + 4) 13 [vR 2 (74), vR 8 (29)] m (fun m1 => VU (D + 4) 52 [vR 7 (29 + 3), vI v1, vI v2] m1 (fun m2 => (xin v1 12 = true ∧ Q (m2 (29 + 3 + 4) (ix v1)) m2)) E) E))))) ∧ (¬ v1 < (m (29 + 3) 0) → E 2 m))))))) :
    VI (D + 5) 146 [vR 10 (0), vI v1, vI v2] m Q E := by
  refine V_of (VL_at (al := [(0, vR 10 (0)), (1, vI v1), (2, vI v2)]) (st := []) km146 k146_0 ?_)
  refine V_of ?_
  refine VL_norm km155 k155_0 (VL_at (al := [(0, vR 10 (0))]) (st := []) km155 k155_0 ?_)
  refine And.intro (fun c7 => ?_) (fun c7 => ?_)
  · refine VL_norm km155 k155_1 (VL_at (al := []) (st := []) km155 k155_1 ?_)
    exact (h.1 c7)
  · refine VL_norm km155 k155_2 (VL_at (al := []) (st := []) km155 k155_2 ?_)
    refine V_of ?_
    refine VL_norm km156 k156_0 (VL_at (al := [(0, vR 10 (0)), (1, vI v1)]) (st := []) km156 k156_0 ?_)
    refine V_of ?_
    refine VL_norm km158 k158_0 (VL_at (al := [(0, vI v1), (1, vI (m (29 + 3) 0))]) (st := []) km158 k158_0 ?_)
    refine And.intro (fun c6 => ?_) (fun c6 => ?_)
    · refine VL_norm km158 k158_2 (VL_at (al := []) (st := []) km158 k158_2 ?_)
      exact ((h.2 c7).1 c6)
    · refine VL_norm km158 k158_1 (VL_at (al := [(0, vI v1), (1, vI (m (29 + 3) 0))]) (st := []) km158 k158_1 ?_)
      refine And.intro (fun c5 => ?_) (fun c5 => ?_)
      · refine VL_norm km158 k158_3 (VL_at (al := []) (st := []) km158 k158_3 ?_)
        refine V_of ?_
        refine VL_norm km159 k159_0 (VL_at (al := [(0, vI v2), (1, vI (-(n32 100))), (2, vI (n32 100))]) (st := []) km159 k159_0 ?_)
        refine And.intro (fun c4 => ?_) (fun c4 => ?_)
        · refine VL_norm km159 k159_3 (VL_at (al := []) (st := []) km159 k159_3 ?_)
          refine VL_norm km159 k159_4 (VL_at (al := []) (st := [vI (n32 0)]) km159 k159_4 ?_)
          refine V_of ?_
          refine VL_norm km160 k160_0 (VL_at (al := [(0, vI (n32 0))]) (st := []) km160 k160_0 ?_)
          refine And.intro (fun _ => ?_) (fun c => absurd (by decide) c)
          refine VL_norm km160 k160_1 (VL_at (al := []) (st := []) km160 k160_1 ?_)
          exact ((((h.2 c7).2 c6).1 c5).1 c4)
        · refine VL_norm km159 k159_1 (VL_at (al := [(0, vI v2), (2, vI (n32 100))]) (st := []) km159 k159_1 ?_)
          refine And.intro (fun c3 => ?_) (fun c3 => ?_)
          · refine VL_norm km159 k159_3 (VL_at (al := []) (st := []) km159 k159_3 ?_)
            refine VL_norm km159 k159_4 (VL_at (al := []) (st := [vI (n32 0)]) km159 k159_4 ?_)
            refine V_of ?_
            refine VL_norm km160 k160_0 (VL_at (al := [(0, vI (n32 0))]) (st := []) km160 k160_0 ?_)
            refine And.intro (fun _ => ?_) (fun c => absurd (by decide) c)
            refine VL_norm km160 k160_1 (VL_at (al := []) (st := []) km160 k160_1 ?_)
            exact (((((h.2 c7).2 c6).1 c5).2 c4).1 c3)
          · refine VL_norm km159 k159_2 (VL_at (al := []) (st := []) km159 k159_2 ?_)
            refine VL_norm km159 k159_4 (VL_at (al := []) (st := [vI (n32 1)]) km159 k159_4 ?_)
            refine V_of ?_
            refine VL_norm km160 k160_0 (VL_at (al := [(0, vI (n32 1))]) (st := []) km160 k160_0 ?_)
            refine And.intro (fun c => absurd c (by decide)) (fun _ => ?_)
            refine VL_norm km160 k160_2 (VL_at (al := []) (st := []) km160 k160_2 ?_)
            refine V_mono (((((h.2 c7).2 c6).1 c5).2 c4).2 c3) (fun u1 m1 h1 => ?_) (fun _ _ h => h)
            refine V_mono h1 (fun u2 m2 h2 => ?_) (fun _ _ h => h)
            refine And.intro h2.1 ?_
            exact h2.2
      · refine VL_norm km158 k158_2 (VL_at (al := []) (st := []) km158 k158_2 ?_)
        exact (((h.2 c7).2 c6).2 c5)
/-- BannerParade.undo, label 0 -/
theorem w151_0 {D : Nat}  {m : XM} {Q : Int32 → XM → Prop} {E : Nat → XM → Prop}
    (h : (((m 74 1) = (n32 0) → E 0 m) ∧ (¬ (m 74 1) = (n32 0) → VU (D + 4) 14 [vR 2 (74), vR 8 (29)] m (fun m1 => Q (m1 74 1) m1) E))) :
    VI (D + 5) 151 [vR 10 (0)] m Q E := by
  refine V_of (VL_at (al := [(0, vR 10 (0))]) (st := []) km151 k151_0 ?_)
  refine And.intro (fun c2 => ?_) (fun c2 => ?_)
  · refine VL_norm km151 k151_1 (VL_at (al := []) (st := []) km151 k151_1 ?_)
    exact (h.1 c2)
  · refine VL_norm km151 k151_2 (VL_at (al := [(0, vR 10 (0))]) (st := []) km151 k151_2 ?_)
    refine V_mono (h.2 c2) (fun u1 m1 h1 => ?_) (fun _ _ h => h)
    exact h1
/-- BannerParade.save, label 0 -/
theorem w153_0 {D : Nat} {v1 : Int32} {m : XM} {Q : Int32 → XM → Prop} {E : Nat → XM → Prop}
    (h : (((m 0 7) = (n32 0) → E 0 m) ∧ (¬ (m 0 7) = (n32 0) → ((v1 < (n32 0) → E 2 m) ∧ (¬ v1 < (n32 0) → ((v1 < (n32 2) → VU (D + 4) 15 [vR 2 (74), vI v1, vR 8 (29)] m (fun m1 => Q (m1 29 0) m1) E) ∧ (¬ v1 < (n32 2) → E 2 m))))))) :
    VI (D + 5) 153 [vR 10 (0), vI v1] m Q E := by
  refine V_of (VL_at (al := [(0, vR 10 (0)), (1, vI v1)]) (st := []) km153 k153_0 ?_)
  refine V_of ?_
  refine VL_norm km155 k155_0 (VL_at (al := [(0, vR 10 (0))]) (st := []) km155 k155_0 ?_)
  refine And.intro (fun c4 => ?_) (fun c4 => ?_)
  · refine VL_norm km155 k155_1 (VL_at (al := []) (st := []) km155 k155_1 ?_)
    exact (h.1 c4)
  · refine VL_norm km155 k155_2 (VL_at (al := []) (st := []) km155 k155_2 ?_)
    refine V_of ?_
    refine VL_norm km158 k158_0 (VL_at (al := [(0, vI v1), (1, vI (n32 2))]) (st := []) km158 k158_0 ?_)
    refine And.intro (fun c3 => ?_) (fun c3 => ?_)
    · refine VL_norm km158 k158_2 (VL_at (al := []) (st := []) km158 k158_2 ?_)
      exact ((h.2 c4).1 c3)
    · refine VL_norm km158 k158_1 (VL_at (al := [(0, vI v1), (1, vI (n32 2))]) (st := []) km158 k158_1 ?_)
      refine And.intro (fun c2 => ?_) (fun c2 => ?_)
      · refine VL_norm km158 k158_3 (VL_at (al := []) (st := []) km158 k158_3 ?_)
        refine V_mono (((h.2 c4).2 c3).1 c2) (fun u1 m1 h1 => ?_) (fun _ _ h => h)
        exact h1
      · refine VL_norm km158 k158_2 (VL_at (al := []) (st := []) km158 k158_2 ?_)
        exact (((h.2 c4).2 c3).2 c2)
/-- BannerParade.restore, label 0 -/
theorem w154_0 {D : Nat} {v1 : Int32} {m : XM} {Q : Int32 → XM → Prop} {E : Nat → XM → Prop}
    (h : ((v1 < (n32 0) → E 2 m) ∧ (¬ v1 < (n32 0) → ((v1 < (n32 2) → (xin v1 2 = true ∧ (((m (74 + 3) (ix v1)) = (n32 0) → E 0 m) ∧ (¬ (m (74 + 3) (ix v1)) = (n32 0) → VU (D + 4) 16 [vR 2 (74), vI v1, vR 8 (29)] m (fun m1 => Q ((um (um m1 (74) 0 (n32 0)) (74) 1 (n32 0)) 29 0) (um (um m1 (74) 0 (n32 0)) (74) 1 (n32 0))) E)))) ∧ (¬ v1 < (n32 2) → E 2 m))))) :
    VI (D + 5) 154 [vR 10 (0), vI v1] m Q E := by
  refine V_of (VL_at (al := [(0, vR 10 (0)), (1, vI v1)]) (st := []) km154 k154_0 ?_)
  refine V_of ?_
  refine VL_norm km158 k158_0 (VL_at (al := [(0, vI v1), (1, vI (n32 2))]) (st := []) km158 k158_0 ?_)
  refine And.intro (fun c4 => ?_) (fun c4 => ?_)
  · refine VL_norm km158 k158_2 (VL_at (al := []) (st := []) km158 k158_2 ?_)
    exact (h.1 c4)
  · refine VL_norm km158 k158_1 (VL_at (al := [(0, vI v1), (1, vI (n32 2))]) (st := []) km158 k158_1 ?_)
    refine And.intro (fun c3 => ?_) (fun c3 => ?_)
    · refine VL_norm km158 k158_3 (VL_at (al := []) (st := []) km158 k158_3 ?_)
      refine And.intro ((h.2 c4).1 c3).1 ?_
      refine And.intro (fun c2 => ?_) (fun c2 => ?_)
      · refine VL_norm km154 k154_1 (VL_at (al := []) (st := []) km154 k154_1 ?_)
        exact (((h.2 c4).1 c3).2.1 c2)
      · refine VL_norm km154 k154_2 (VL_at (al := [(0, vR 10 (0)), (1, vI v1)]) (st := []) km154 k154_2 ?_)
        refine V_mono (((h.2 c4).1 c3).2.2 c2) (fun u1 m1 h1 => ?_) (fun _ _ h => h)
        refine V_of ?_
        refine VL_norm km11 k11_0 (VL_at (al := [(0, vR 2 (74))]) (st := []) km11 k11_0 ?_)
        exact h1
    · refine VL_norm km158 k158_2 (VL_at (al := []) (st := []) km158 k158_2 ?_)
      exact ((h.2 c4).2 c3)
/-- BannerParade.readNow, label 0 -/
theorem w161_0 {D : Nat} {v1 : Int32} {m : XM} {Q : Nat → XM → Prop} {E : Nat → XM → Prop}
    (h : VU (D + 2) 33 [vR 5 (278), vR 8 (29), vR 6 (69), vI v1] m (fun m1 => Q 278 m1) E) :
    VA (D + 3) 161 [vR 10 (0), vI v1] m Q E := by
  refine V_of (VL_at (al := [(0, vR 10 (0)), (1, vI v1)]) (st := []) km161 k161_0 ?_)
  refine V_mono h (fun u1 m1 h1 => ?_) (fun _ _ h => h)
  exact h1
/-- BannerParade.foresee, label 0 -/
theorem w163_0 {D : Nat} {v1 : Int32} {m : XM} {Q : XM → Prop} {E : Nat → XM → Prop}
    (h : VU (D + 4) 68 [vR 8 (49), vR 8 (29)] m (fun m1 => VLU (D + 5) 163 1 [(0, vR 10 (0)), (1, vI v1), (2, vI (n32 0))] [] m1 Q E) E) :
    VU (D + 5) 163 [vR 10 (0), vI v1] m Q E := by
  refine V_of (VL_at (al := [(0, vR 10 (0)), (1, vI v1)]) (st := []) km163 k163_0 ?_)
  refine V_mono h (fun u1 m1 h1 => ?_) (fun _ _ h => h)
  exact VL_norm km163 k163_1 h1
/-- BannerParade.foresee, label 1 -/
theorem w163_1 {D : Nat} {v1 : Int32} {v2 : Int32} {m : XM} {Q : XM → Prop} {E : Nat → XM → Prop}
    (h : ((v1 ≤ v2 → Q m) ∧ (¬ v1 ≤ v2 → VU (D + 4) 70 [vR 8 (49)] m (fun m1 => VLU (D + 5) 163 1 [(0, vR 10 (0)), (1, vI v1), (2, vI (v2 + (n32 1)))] [] m1 Q E) E))) :
    VLU (D + 5) 163 1 [(0, vR 10 (0)), (1, vI v1), (2, vI v2)] [] m Q E := by
  refine VL_at (al := [(0, vR 10 (0)), (1, vI v1), (2, vI v2)]) (st := []) km163 k163_1 ?_
  refine And.intro (fun c2 => ?_) (fun c2 => ?_)
  · refine VL_norm km163 k163_3 (VL_at (al := []) (st := []) km163 k163_3 ?_)
    exact (h.1 c2)
  · refine VL_norm km163 k163_2 (VL_at (al := [(0, vR 10 (0)), (1, vI v1), (2, vI v2)]) (st := []) km163 k163_2 ?_)
    refine V_mono (h.2 c2) (fun u1 m1 h1 => ?_) (fun _ _ h => h)
    exact VL_norm km163 k163_1 h1
/-- BannerParade.readWords, label 0 -/
theorem w165_0 {D : Nat}  {m : XM} {Q : XM → Prop} {E : Nat → XM → Prop}
    (h : VLU (D + 4) 165 1 [(0, vR 10 (0)), (1, vI (n32 0))] [] m Q E) :
    VU (D + 4) 165 [vR 10 (0)] m Q E := by
  refine V_of (VL_at (al := [(0, vR 10 (0))]) (st := []) km165 k165_0 ?_)
  exact VL_norm km165 k165_1 h
/-- BannerParade.readWords, label 1 -/
theorem w165_1 {D : Nat} {v1 : Int32} {m : XM} {Q : XM → Prop} {E : Nat → XM → Prop}
    (h : (((m 69 0) ≤ v1 → Q m) ∧ (¬ (m 69 0) ≤ v1 → (xin v1 6 = true ∧ (((m (29 + 2) (ix v1)) = (-(n32 1)) → VA (D + 3) 161 [vR 10 (0), vI v1] m (fun x1 m1 => VI (D + 3) 39 [vR 5 (x1), vR 6 (69), vI v1] m1 (fun x2 m2 => ((x2 = (n32 0) → VLU (D + 4) 165 1 [(0, vR 10 (0)), (1, vI (v1 + (n32 1)))] [] m2 Q E) ∧ (¬ x2 = (n32 0) → VLU (D + 4) 165 1 [(0, vR 10 (0)), (1, vI (v1 + (n32 1)))] [] (um m2 (29 + 2) (ix v1) (m2 29 0)) Q E))) E) E) ∧ (¬ (m (29 + 2) (ix v1)) = (-(n32 1)) → VLU (D + 4) 165 1 [(0, vR 10 (0)), (1, vI (v1 + (n32 1)))] [] m Q E)))))) :
    VLU (D + 4) 165 1 [(0, vR 10 (0)), (1, vI v1)] [] m Q E := by
  refine VL_at (al := [(0, vR 10 (0)), (1, vI v1)]) (st := []) km165 k165_1 ?_
  refine And.intro (fun c5 => ?_) (fun c5 => ?_)
  · refine VL_norm km165 k165_6 (VL_at (al := []) (st := []) km165 k165_6 ?_)
    exact (h.1 c5)
  · refine VL_norm km165 k165_2 (VL_at (al := [(0, vR 10 (0)), (1, vI v1)]) (st := []) km165 k165_2 ?_)
    refine And.intro (h.2 c5).1 ?_
    refine And.intro (fun c4 => ?_) (fun c4 => ?_)
    · refine VL_norm km165 k165_3 (VL_at (al := [(0, vR 10 (0)), (1, vI v1)]) (st := []) km165 k165_3 ?_)
      refine V_mono ((h.2 c5).2.1 c4) (fun u1 m1 h1 => ?_) (fun _ _ h => h)
      refine V_mono h1 (fun u2 m2 h2 => ?_) (fun _ _ h => h)
      refine And.intro (fun c3 => ?_) (fun c3 => ?_)
      · refine VL_norm km165 k165_5 (VL_at (al := [(0, vR 10 (0)), (1, vI v1)]) (st := []) km165 k165_5 ?_)
        exact VL_norm km165 k165_1 (h2.1 c3)
      · refine VL_norm km165 k165_4 (VL_at (al := [(0, vR 10 (0)), (1, vI v1)]) (st := []) km165 k165_4 ?_)
        refine And.intro (h.2 c5).1 ?_
        refine VL_norm km165 k165_5 (VL_at (al := [(0, vR 10 (0)), (1, vI v1)]) (st := []) km165 k165_5 ?_)
        exact VL_norm km165 k165_1 (h2.2 c3)
    · refine VL_norm km165 k165_5 (VL_at (al := [(0, vR 10 (0)), (1, vI v1)]) (st := []) km165 k165_5 ?_)
      exact VL_norm km165 k165_1 ((h.2 c5).2.2 c4)
/-- BannerParade.standsWithReadWord, label 0 -/
theorem w166_0 {D : Nat}  {m : XM} {Q : Int32 → XM → Prop} {E : Nat → XM → Prop}
    (h : VLI D 166 1 [(0, vR 10 (0)), (1, vI (n32 0)), (2, vI (n32 0))] [] m Q E) :
    VI D 166 [vR 10 (0)] m Q E := by
  refine V_of (VL_at (al := [(0, vR 10 (0))]) (st := []) km166 k166_0 ?_)
  exact VL_norm km166 k166_1 h
/-- BannerParade.standsWithReadWord, label 1 -/
theorem w166_1 {D : Nat} {v1 : Int32} {v2 : Int32} {m : XM} {Q : Int32 → XM → Prop} {E : Nat → XM → Prop}
    (h : (((m 69 0) ≤ v2 → Q v1 m) ∧ (¬ (m 69 0) ≤ v2 → (xin v2 6 = true ∧ (((m (29 + 2) (ix v2)) = (-(n32 1)) → VLI D 166 1 [(0, vR 10 (0)), (1, vI v1), (2, vI (v2 + (n32 1)))] [] m Q E) ∧ (¬ (m (29 + 2) (ix v2)) = (-(n32 1)) → VLI D 166 1 [(0, vR 10 (0)), (1, vI (v1 ||| ((n32 1) <<< (v2 &&& 31)))), (2, vI (v2 + (n32 1)))] [] m Q E)))))) :
    VLI D 166 1 [(0, vR 10 (0)), (1, vI v1), (2, vI v2)] [] m Q E := by
  refine VL_at (al := [(0, vR 10 (0)), (1, vI v1), (2, vI v2)]) (st := []) km166 k166_1 ?_
  refine And.intro (fun c2 => ?_) (fun c2 => ?_)
  · refine VL_norm km166 k166_5 (VL_at (al := [(1, vI v1)]) (st := []) km166 k166_5 ?_)
    exact (h.1 c2)
  · refine VL_norm km166 k166_2 (VL_at (al := [(0, vR 10 (0)), (1, vI v1), (2, vI v2)]) (st := []) km166 k166_2 ?_)
    refine And.intro (h.2 c2).1 ?_
    refine And.intro (fun c1 => ?_) (fun c1 => ?_)
    · refine VL_norm km166 k166_4 (VL_at (al := [(0, vR 10 (0)), (1, vI v1), (2, vI v2)]) (st := []) km166 k166_4 ?_)
      exact VL_norm km166 k166_1 ((h.2 c2).2.1 c1)
    · refine VL_norm km166 k166_3 (VL_at (al := [(0, vR 10 (0)), (1, vI v1), (2, vI v2)]) (st := []) km166 k166_3 ?_)
      refine VL_norm km166 k166_4 (VL_at (al := [(0, vR 10 (0)), (1, vI (v1 ||| ((n32 1) <<< (v2 &&& 31)))), (2, vI v2)]) (st := []) km166 k166_4 ?_)
      exact VL_norm km166 k166_1 ((h.2 c2).2.2 c1)
/-- BannerParade.standsThatSeeAny, label 0 -/
theorem w167_0 {D : Nat}  {m : XM} {Q : Int32 → XM → Prop} {E : Nat → XM → Prop}
    (h : VLI (D + 3) 167 1 [(0, vR 10 (0)), (1, vI (n32 0)), (2, vI (n32 0))] [] m Q E) :
    VI (D + 3) 167 [vR 10 (0)] m Q E := by
  refine V_of (VL_at (al := [(0, vR 10 (0))]) (st := []) km167 k167_0 ?_)
  exact VL_norm km167 k167_1 h
/-- BannerParade.standsThatSeeAny, label 1 -/
theorem w167_1 {D : Nat} {v1 : Int32} {v2 : Int32} {m : XM} {Q : Int32 → XM → Prop} {E : Nat → XM → Prop}
    (h : (((m 69 0) ≤ v2 → Q v1 m) ∧ (¬ (m 69 0) ≤ v2 → VI (D + 2) 169 [vR 10 (0), vI v2] m (fun x1 m1 => ((x1 = (n32 0) → VLI (D + 3) 167 1 [(0, vR 10 (0)), (1, vI v1), (2, vI (v2 + (n32 1)))] [] m1 Q E) ∧ (¬ x1 = (n32 0) → VLI (D + 3) 167 1 [(0, vR 10 (0)), (1, vI (v1 + (n32 1))), (2, vI (v2 + (n32 1)))] [] m1 Q E))) E))) :
    VLI (D + 3) 167 1 [(0, vR 10 (0)), (1, vI v1), (2, vI v2)] [] m Q E := by
  refine VL_at (al := [(0, vR 10 (0)), (1, vI v1), (2, vI v2)]) (st := []) km167 k167_1 ?_
  refine And.intro (fun c3 => ?_) (fun c3 => ?_)
  · refine VL_norm km167 k167_5 (VL_at (al := [(1, vI v1)]) (st := []) km167 k167_5 ?_)
    exact (h.1 c3)
  · refine VL_norm km167 k167_2 (VL_at (al := [(0, vR 10 (0)), (1, vI v1), (2, vI v2)]) (st := []) km167 k167_2 ?_)
    refine V_mono (h.2 c3) (fun u1 m1 h1 => ?_) (fun _ _ h => h)
    refine And.intro (fun c2 => ?_) (fun c2 => ?_)
    · refine VL_norm km167 k167_4 (VL_at (al := [(0, vR 10 (0)), (1, vI v1), (2, vI v2)]) (st := []) km167 k167_4 ?_)
      exact VL_norm km167 k167_1 (h1.1 c2)
    · refine VL_norm km167 k167_3 (VL_at (al := [(0, vR 10 (0)), (1, vI v1), (2, vI v2)]) (st := []) km167 k167_3 ?_)
      refine VL_norm km167 k167_4 (VL_at (al := [(0, vR 10 (0)), (1, vI (v1 + (n32 1))), (2, vI v2)]) (st := []) km167 k167_4 ?_)
      exact VL_norm km167 k167_1 (h1.2 c2)
/-- BannerParade.standsThatSee, label 0 -/
theorem w168_0 {D : Nat} {v1 : Int32} {m : XM} {Q : Int32 → XM → Prop} {E : Nat → XM → Prop}
    (h : VLI (D + 2) 168 1 [(0, vR 10 (0)), (1, vI v1), (2, vI (n32 0)), (3, vI (n32 0))] [] m Q E) :
    VI (D + 2) 168 [vR 10 (0), vI v1] m Q E := by
  refine V_of (VL_at (al := [(0, vR 10 (0)), (1, vI v1)]) (st := []) km168 k168_0 ?_)
  exact VL_norm km168 k168_1 h
/-- BannerParade.standsThatSee, label 1 -/
theorem w168_1 {D : Nat} {v1 : Int32} {v2 : Int32} {v3 : Int32} {m : XM} {Q : Int32 → XM → Prop} {E : Nat → XM → Prop}
    (h : (((m 69 0) ≤ v3 → Q v2 m) ∧ (¬ (m 69 0) ≤ v3 → (xin v3 6 = true ∧ VI (D + 1) 79 [vR 8 (29), vI v1, vI (m (69 + 2) (ix v3))] m (fun x1 m1 => ((x1 = (n32 0) → VLI (D + 2) 168 1 [(0, vR 10 (0)), (1, vI v1), (2, vI v2), (3, vI (v3 + (n32 1)))] [] m1 Q E) ∧ (¬ x1 = (n32 0) → VLI (D + 2) 168 1 [(0, vR 10 (0)), (1, vI v1), (2, vI (v2 + (n32 1))), (3, vI (v3 + (n32 1)))] [] m1 Q E))) E)))) :
    VLI (D + 2) 168 1 [(0, vR 10 (0)), (1, vI v1), (2, vI v2), (3, vI v3)] [] m Q E := by
  refine VL_at (al := [(0, vR 10 (0)), (1, vI v1), (2, vI v2), (3, vI v3)]) (st := []) km168 k168_1 ?_
  refine And.intro (fun c3 => ?_) (fun c3 => ?_)
  · refine VL_norm km168 k168_5 (VL_at (al := [(2, vI v2)]) (st := []) km168 k168_5 ?_)
    exact (h.1 c3)
  · refine VL_norm km168 k168_2 (VL_at (al := [(0, vR 10 (0)), (1, vI v1), (2, vI v2), (3, vI v3)]) (st := []) km168 k168_2 ?_)
    refine And.intro (h.2 c3).1 ?_
    refine V_mono (h.2 c3).2 (fun u1 m1 h1 => ?_) (fun _ _ h => h)
    refine And.intro (fun c2 => ?_) (fun c2 => ?_)
    · refine VL_norm km168 k168_4 (VL_at (al := [(0, vR 10 (0)), (1, vI v1), (2, vI v2), (3, vI v3)]) (st := []) km168 k168_4 ?_)
      exact VL_norm km168 k168_1 (h1.1 c2)
    · refine VL_norm km168 k168_3 (VL_at (al := [(0, vR 10 (0)), (1, vI v1), (2, vI v2), (3, vI v3)]) (st := []) km168 k168_3 ?_)
      refine VL_norm km168 k168_4 (VL_at (al := [(0, vR 10 (0)), (1, vI v1), (2, vI (v2 + (n32 1))), (3, vI v3)]) (st := []) km168 k168_4 ?_)
      exact VL_norm km168 k168_1 (h1.2 c2)
/-- BannerParade.bearersSeenFrom, label 0 -/
theorem w169_0 {D : Nat} {v1 : Int32} {m : XM} {Q : Int32 → XM → Prop} {E : Nat → XM → Prop}
    (h : VLI (D + 2) 169 1 [(0, vR 10 (0)), (1, vI v1), (2, vI (n32 0)), (3, vI (n32 0))] [] m Q E) :
    VI (D + 2) 169 [vR 10 (0), vI v1] m Q E := by
  refine V_of (VL_at (al := [(0, vR 10 (0)), (1, vI v1)]) (st := []) km169 k169_0 ?_)
  exact VL_norm km169 k169_1 h
/-- BannerParade.bearersSeenFrom, label 1 -/
theorem w169_1 {D : Nat} {v1 : Int32} {v2 : Int32} {v3 : Int32} {m : XM} {Q : Int32 → XM → Prop} {E : Nat → XM → Prop}
    (h : (((m (29 + 3) 0) ≤ v3 → Q v2 m) ∧ (¬ (m (29 + 3) 0) ≤ v3 → (xin v1 6 = true ∧ VI (D + 1) 79 [vR 8 (29), vI v3, vI (m (69 + 2) (ix v1))] m (fun x1 m1 => ((x1 = (n32 0) → VLI (D + 2) 169 1 [(0, vR 10 (0)), (1, vI v1), (2, vI v2), (3, vI (v3 + (n32 1)))] [] m1 Q E) ∧ (¬ x1 = (n32 0) → VLI (D + 2) 169 1 [(0, vR 10 (0)), (1, vI v1), (2, vI (v2 ||| ((n32 1) <<< (v3 &&& 31)))), (3, vI (v3 + (n32 1)))] [] m1 Q E))) E)))) :
    VLI (D + 2) 169 1 [(0, vR 10 (0)), (1, vI v1), (2, vI v2), (3, vI v3)] [] m Q E := by
  refine VL_at (al := [(0, vR 10 (0)), (1, vI v1), (2, vI v2), (3, vI v3)]) (st := []) km169 k169_1 ?_
  refine And.intro (fun c3 => ?_) (fun c3 => ?_)
  · refine VL_norm km169 k169_5 (VL_at (al := [(2, vI v2)]) (st := []) km169 k169_5 ?_)
    exact (h.1 c3)
  · refine VL_norm km169 k169_2 (VL_at (al := [(0, vR 10 (0)), (1, vI v1), (2, vI v2), (3, vI v3)]) (st := []) km169 k169_2 ?_)
    refine And.intro (h.2 c3).1 ?_
    refine V_mono (h.2 c3).2 (fun u1 m1 h1 => ?_) (fun _ _ h => h)
    refine And.intro (fun c2 => ?_) (fun c2 => ?_)
    · refine VL_norm km169 k169_4 (VL_at (al := [(0, vR 10 (0)), (1, vI v1), (2, vI v2), (3, vI v3)]) (st := []) km169 k169_4 ?_)
      exact VL_norm km169 k169_1 (h1.1 c2)
    · refine VL_norm km169 k169_3 (VL_at (al := [(0, vR 10 (0)), (1, vI v1), (2, vI v2), (3, vI v3)]) (st := []) km169 k169_3 ?_)
      refine VL_norm km169 k169_4 (VL_at (al := [(0, vR 10 (0)), (1, vI v1), (2, vI (v2 ||| ((n32 1) <<< (v3 &&& 31)))), (3, vI v3)]) (st := []) km169 k169_4 ?_)
      exact VL_norm km169 k169_1 (h1.2 c2)
/-- BannerParade.copyNumbers, label 0 -/
theorem w172n12_0 {D : Nat} {a0 : Nat} {a1 : Nat} {m : XM} {Q : XM → Prop} {E : Nat → XM → Prop}
    (h : VLU D 172 1 [(0, vR 200012 (a0)), (1, vR 200012 (a1)), (2, vI (n32 0))] [] m Q E) :
    VU D 172 [vR 200012 (a0), vR 200012 (a1)] m Q E := by
  refine V_of (VL_at (al := [(0, vR 200012 (a0)), (1, vR 200012 (a1))]) (st := []) km172 k172_0 ?_)
  exact VL_norm km172 k172_1 h
/-- BannerParade.copyNumbers, label 1 -/
theorem w172n12_1 {D : Nat} {a0 : Nat} {a1 : Nat} {v2 : Int32} {m : XM} {Q : XM → Prop} {E : Nat → XM → Prop}
    (h : (((n32 12) ≤ v2 → Q m) ∧ (¬ (n32 12) ≤ v2 → (xin v2 12 = true ∧ VLU D 172 1 [(0, vR 200012 (a0)), (1, vR 200012 (a1)), (2, vI (v2 + (n32 1)))] [] (um m (a1) (ix v2) (m a0 (ix v2))) Q E)))) :
    VLU D 172 1 [(0, vR 200012 (a0)), (1, vR 200012 (a1)), (2, vI v2)] [] m Q E := by
  refine VL_at (al := [(0, vR 200012 (a0)), (1, vR 200012 (a1)), (2, vI v2)]) (st := []) km172 k172_1 ?_
  refine And.intro (fun c1 => ?_) (fun c1 => ?_)
  · refine VL_norm km172 k172_4 (VL_at (al := []) (st := []) km172 k172_4 ?_)
    exact (h.1 c1)
  · refine VL_norm km172 k172_2 (VL_at (al := [(0, vR 200012 (a0)), (1, vR 200012 (a1)), (2, vI v2)]) (st := []) km172 k172_2 ?_)
    refine And.intro (fun c => absurd c c1) (fun _ => ?_)
    refine VL_norm km172 k172_3 (VL_at (al := [(0, vR 200012 (a0)), (1, vR 200012 (a1)), (2, vI v2)]) (st := []) km172 k172_3 ?_)
    refine And.intro (h.2 c1).1 ?_
    refine And.intro (h.2 c1).1 ?_
    exact VL_norm km172 k172_1 (h.2 c1).2
/-- BannerParade.copyNumbers, label 0 -/
theorem w172n6_0 {D : Nat} {a0 : Nat} {a1 : Nat} {m : XM} {Q : XM → Prop} {E : Nat → XM → Prop}
    (h : VLU D 172 1 [(0, vR 200006 (a0)), (1, vR 200006 (a1)), (2, vI (n32 0))] [] m Q E) :
    VU D 172 [vR 200006 (a0), vR 200006 (a1)] m Q E := by
  refine V_of (VL_at (al := [(0, vR 200006 (a0)), (1, vR 200006 (a1))]) (st := []) km172 k172_0 ?_)
  exact VL_norm km172 k172_1 h
/-- BannerParade.copyNumbers, label 1 -/
theorem w172n6_1 {D : Nat} {a0 : Nat} {a1 : Nat} {v2 : Int32} {m : XM} {Q : XM → Prop} {E : Nat → XM → Prop}
    (h : (((n32 6) ≤ v2 → Q m) ∧ (¬ (n32 6) ≤ v2 → (xin v2 6 = true ∧ VLU D 172 1 [(0, vR 200006 (a0)), (1, vR 200006 (a1)), (2, vI (v2 + (n32 1)))] [] (um m (a1) (ix v2) (m a0 (ix v2))) Q E)))) :
    VLU D 172 1 [(0, vR 200006 (a0)), (1, vR 200006 (a1)), (2, vI v2)] [] m Q E := by
  refine VL_at (al := [(0, vR 200006 (a0)), (1, vR 200006 (a1)), (2, vI v2)]) (st := []) km172 k172_1 ?_
  refine And.intro (fun c1 => ?_) (fun c1 => ?_)
  · refine VL_norm km172 k172_4 (VL_at (al := []) (st := []) km172 k172_4 ?_)
    exact (h.1 c1)
  · refine VL_norm km172 k172_2 (VL_at (al := [(0, vR 200006 (a0)), (1, vR 200006 (a1)), (2, vI v2)]) (st := []) km172 k172_2 ?_)
    refine And.intro (fun c => absurd c c1) (fun _ => ?_)
    refine VL_norm km172 k172_3 (VL_at (al := [(0, vR 200006 (a0)), (1, vR 200006 (a1)), (2, vI v2)]) (st := []) km172 k172_3 ?_)
    refine And.intro (h.2 c1).1 ?_
    refine And.intro (h.2 c1).1 ?_
    exact VL_norm km172 k172_1 (h.2 c1).2
/-- BannerParade.copyNumbers, label 0 -/
theorem w172n48_0 {D : Nat} {a0 : Nat} {a1 : Nat} {m : XM} {Q : XM → Prop} {E : Nat → XM → Prop}
    (h : VLU D 172 1 [(0, vR 200048 (a0)), (1, vR 200048 (a1)), (2, vI (n32 0))] [] m Q E) :
    VU D 172 [vR 200048 (a0), vR 200048 (a1)] m Q E := by
  refine V_of (VL_at (al := [(0, vR 200048 (a0)), (1, vR 200048 (a1))]) (st := []) km172 k172_0 ?_)
  exact VL_norm km172 k172_1 h
/-- BannerParade.copyNumbers, label 1 -/
theorem w172n48_1 {D : Nat} {a0 : Nat} {a1 : Nat} {v2 : Int32} {m : XM} {Q : XM → Prop} {E : Nat → XM → Prop}
    (h : (((n32 48) ≤ v2 → Q m) ∧ (¬ (n32 48) ≤ v2 → (xin v2 48 = true ∧ VLU D 172 1 [(0, vR 200048 (a0)), (1, vR 200048 (a1)), (2, vI (v2 + (n32 1)))] [] (um m (a1) (ix v2) (m a0 (ix v2))) Q E)))) :
    VLU D 172 1 [(0, vR 200048 (a0)), (1, vR 200048 (a1)), (2, vI v2)] [] m Q E := by
  refine VL_at (al := [(0, vR 200048 (a0)), (1, vR 200048 (a1)), (2, vI v2)]) (st := []) km172 k172_1 ?_
  refine And.intro (fun c1 => ?_) (fun c1 => ?_)
  · refine VL_norm km172 k172_4 (VL_at (al := []) (st := []) km172 k172_4 ?_)
    exact (h.1 c1)
  · refine VL_norm km172 k172_2 (VL_at (al := [(0, vR 200048 (a0)), (1, vR 200048 (a1)), (2, vI v2)]) (st := []) km172 k172_2 ?_)
    refine And.intro (fun c => absurd c c1) (fun _ => ?_)
    refine VL_norm km172 k172_3 (VL_at (al := [(0, vR 200048 (a0)), (1, vR 200048 (a1)), (2, vI v2)]) (st := []) km172 k172_3 ?_)
    refine And.intro (h.2 c1).1 ?_
    refine And.intro (h.2 c1).1 ?_
    exact VL_norm km172 k172_1 (h.2 c1).2
