/-! Verification conditions (written by program: wip/whole/mkw.py). -/
/-- BannerParade.tick, label 4 -/
theorem w142_4 {D : Nat} {v1 : Int32} {v2 : Int32} {v3 : Int32} {m : XM} {Q : Int32 → XM → Prop} {E : Nat → XM → Prop}
    (h : ((v1 ≤ v3 → VI (D + 4) 166 [vR 10 (0)] m (fun x1 m1 => Q (((((((((x1 - (((x1).toUInt32 >>> (((n32 1)).toUInt32 &&& Int32.toUInt32 31)).toInt32 &&& (n32 1431655765))) &&& (n32 858993459)) + ((((x1 - (((x1).toUInt32 >>> (((n32 1)).toUInt32 &&& Int32.toUInt32 31)).toInt32 &&& (n32 1431655765)))).toUInt32 >>> (((n32 2)).toUInt32 &&& Int32.toUInt32 31)).toInt32 &&& (n32 858993459))) + (((((x1 - (((x1).toUInt32 >>> (((n32 1)).toUInt32 &&& Int32.toUInt32 31)).toInt32 &&& (n32 1431655765))) &&& (n32 858993459)) + ((((x1 - (((x1).toUInt32 >>> (((n32 1)).toUInt32 &&& Int32.toUInt32 31)).toInt32 &&& (n32 1431655765)))).toUInt32 >>> (((n32 2)).toUInt32 &&& Int32.toUInt32 31)).toInt32 &&& (n32 858993459)))).toUInt32 >>> (((n32 4)).toUInt32 &&& Int32.toUInt32 31)).toInt32) &&& (n32 252645135)) + (((((((x1 - (((x1).toUInt32 >>> (((n32 1)).toUInt32 &&& Int32.toUInt32 31)).toInt32 &&& (n32 1431655765))) &&& (n32 858993459)) + ((((x1 - (((x1).toUInt32 >>> (((n32 1)).toUInt32 &&& Int32.toUInt32 31)).toInt32 &&& (n32 1431655765)))).toUInt32 >>> (((n32 2)).toUInt32 &&& Int32.toUInt32 31)).toInt32 &&& (n32 858993459))) + (((((x1 - (((x1).toUInt32 >>> (((n32 1)).toUInt32 &&& Int32.toUInt32 31)).toInt32 &&& (n32 1431655765))) &&& (n32 858993459)) + ((((x1 - (((x1).toUInt32 >>> (((n32 1)).toUInt32 &&& Int32.toUInt32 31)).toInt32 &&& (n32 1431655765)))).toUInt32 >>> (((n32 2)).toUInt32 &&& Int32.toUInt32 31)).toInt32 &&& (n32 858993459)))).toUInt32 >>> (((n32 4)).toUInt32 &&& Int32.toUInt32 31)).toInt32) &&& (n32 252645135))).toUInt32 >>> (((n32 8)).toUInt32 &&& Int32.toUInt32 31)).toInt32) + ((((((((x1 - (((x1).toUInt32 >>> (((n32 1)).toUInt32 &&& Int32.toUInt32 31)).toInt32 &&& (n32 1431655765))) &&& (n32 858993459)) + ((((x1 - (((x1).toUInt32 >>> (((n32 1)).toUInt32 &&& Int32.toUInt32 31)).toInt32 &&& (n32 1431655765)))).toUInt32 >>> (((n32 2)).toUInt32 &&& Int32.toUInt32 31)).toInt32 &&& (n32 858993459))) + (((((x1 - (((x1).toUInt32 >>> (((n32 1)).toUInt32 &&& Int32.toUInt32 31)).toInt32 &&& (n32 1431655765))) &&& (n32 858993459)) + ((((x1 - (((x1).toUInt32 >>> (((n32 1)).toUInt32 &&& Int32.toUInt32 31)).toInt32 &&& (n32 1431655765)))).toUInt32 >>> (((n32 2)).toUInt32 &&& Int32.toUInt32 31)).toInt32 &&& (n32 858993459)))).toUInt32 >>> (((n32 4)).toUInt32 &&& Int32.toUInt32 31)).toInt32) &&& (n32 252645135)) + (((((((x1 - (((x1).toUInt32 >>> (((n32 1)).toUInt32 &&& Int32.toUInt32 31)).toInt32 &&& (n32 1431655765))) &&& (n32 858993459)) + ((((x1 - (((x1).toUInt32 >>> (((n32 1)).toUInt32 &&& Int32.toUInt32 31)).toInt32 &&& (n32 1431655765)))).toUInt32 >>> (((n32 2)).toUInt32 &&& Int32.toUInt32 31)).toInt32 &&& (n32 858993459))) + (((((x1 - (((x1).toUInt32 >>> (((n32 1)).toUInt32 &&& Int32.toUInt32 31)).toInt32 &&& (n32 1431655765))) &&& (n32 858993459)) + ((((x1 - (((x1).toUInt32 >>> (((n32 1)).toUInt32 &&& Int32.toUInt32 31)).toInt32 &&& (n32 1431655765)))).toUInt32 >>> (((n32 2)).toUInt32 &&& Int32.toUInt32 31)).toInt32 &&& (n32 858993459)))).toUInt32 >>> (((n32 4)).toUInt32 &&& Int32.toUInt32 31)).toInt32) &&& (n32 252645135))).toUInt32 >>> (((n32 8)).toUInt32 &&& Int32.toUInt32 31)).toInt32)).toUInt32 >>> (((n32 16)).toUInt32 &&& Int32.toUInt32 31)).toInt32) &&& (n32 63)) - v2) m1) E) ∧ (¬ v1 ≤ v3 → VU (D + 4) 70 [vR 8 (29)] m (fun m2 => VU (D + 4) 165 [vR 10 (0)] m2 (fun m3 => VLI (D + 5) 142 4 [(0, vR 10 (0)), (1, vI v1), (2, vI v2), (3, vI (v3 + (n32 1)))] [] m3 Q E) E) E))) :
    VLI (D + 5) 142 4 [(0, vR 10 (0)), (1, vI v1), (2, vI v2), (3, vI v3)] [] m Q E := by
  refine VL_at (al := [(0, vR 10 (0)), (1, vI v1), (2, vI v2), (3, vI v3)]) (st := []) km142 k142_4 ?_
  refine And.intro (fun c4 => ?_) (fun c4 => ?_)
  · refine VL_norm km142 k142_6 (VL_at (al := [(0, vR 10 (0)), (2, vI v2)]) (st := []) km142 k142_6 ?_)
    refine V_mono (h.1 c4) (fun u1 m1 h1 => ?_) (fun _ _ h => h)
    refine V_of ?_
    refine VL_norm km383 k383_0 (VL_at (al := [(0, vI (xti u1))]) (st := []) km383 k383_0 ?_)
    exact h1
  · refine VL_norm km142 k142_5 (VL_at (al := [(0, vR 10 (0)), (1, vI v1), (2, vI v2), (3, vI v3)]) (st := []) km142 k142_5 ?_)
    refine V_mono (h.2 c4) (fun u2 m2 h2 => ?_) (fun _ _ h => h)
    refine V_mono h2 (fun u3 m3 h3 => ?_) (fun _ _ h => h)
    exact VL_norm km142 k142_4 h3
/-- BannerParade.swap, label 0 -/
theorem w143_0 {D : Nat} {v1 : Int32} {m : XM} {Q : Int32 → XM → Prop} {E : Nat → XM → Prop}
    (h : (((m 0 7) = (n32 0) → E 0 m) ∧ (¬ (m 0 7) = (n32 0) → ((v1 < (n32 0) → E 2 m) ∧ (¬ v1 < (n32 0) → ((v1 < (m (29 + 3) 0) → VI (D + 4) 74 [vR 8 (29), vI v1] m (fun x1 m1 => ((x1 = (n32 0) → E 1 m1) ∧ (¬ x1 = (n32 0) → VU (D + 4) 13 [vR 2 (74), vR 8 (29)] m1 (fun m2 => VU (D + 4) 75 [vR 8 (29), vI v1] m2 (fun m3 => (xin v1 12 = true ∧ Q (m3 (29 + 3 + 5) (ix v1)) m3)) E) E))) E) ∧ (¬ v1 < (m (29 + 3) 0) → E 2 m))))))) :
    VI (D + 5) 143 [vR 10 (0), vI v1] m Q E := by
  refine V_of (VL_at (al := [(0, vR 10 (0)), (1, vI v1)]) (st := []) km143 k143_0 ?_)
  refine V_of ?_
  refine VL_norm km155 k155_0 (VL_at (al := [(0, vR 10 (0))]) (st := []) km155 k155_0 ?_)
  refine And.intro (fun c7 => ?_) (fun c7 => ?_)
  · refine VL_norm km155 k155_1 (VL_at (al := []) (st := []) km155 k155_1 ?_)
    exact (h.1 c7)
  · refine VL_norm km155 k155_2 (VL_at (al := []) (st := []) km155 k155_2 ?_)
    refine V_of ?_
    refine VL_norm km156 k156_0 (VL_at (al := [(0, vR 10 (0)), (1, vI v1)]) (st := []) km156 k156_0 ?_)
    refine V_of ?_
    refine VL_norm km158 k158_0 (VL_at (al := [(0, vI v1), (1, vI (m (29 + 3) 0))]) (st := []) km158 k158_0 ?_)
    refine And.intro (fun c6 => ?_) (fun c6 => ?_)
    · refine VL_norm km158 k158_2 (VL_at (al := []) (st := []) km158 k158_2 ?_)
      exact ((h.2 c7).1 c6)
    · refine VL_norm km158 k158_1 (VL_at (al := [(0, vI v1), (1, vI (m (29 + 3) 0))]) (st := []) km158 k158_1 ?_)
      refine And.intro (fun c5 => ?_) (fun c5 => ?_)
      · refine VL_norm km158 k158_3 (VL_at (al := []) (st := []) km158 k158_3 ?_)
        refine V_mono (((h.2 c7).2 c6).1 c5) (fun u1 m1 h1 => ?_) (fun _ _ h => h)
        refine V_of ?_
        refine VL_norm km160 k160_0 (VL_at (al := [(0, vI (xti u1))]) (st := []) km160 k160_0 ?_)
        refine And.intro (fun c4 => ?_) (fun c4 => ?_)
        · refine VL_norm km160 k160_1 (VL_at (al := []) (st := []) km160 k160_1 ?_)
          exact (h1.1 c4)
        · refine VL_norm km160 k160_2 (VL_at (al := []) (st := []) km160 k160_2 ?_)
          refine V_mono (h1.2 c4) (fun u2 m2 h2 => ?_) (fun _ _ h => h)
          refine V_mono h2 (fun u3 m3 h3 => ?_) (fun _ _ h => h)
          refine And.intro h3.1 ?_
          exact h3.2
      · refine VL_norm km158 k158_2 (VL_at (al := []) (st := []) km158 k158_2 ?_)
        exact (((h.2 c7).2 c6).2 c5)
/-- BannerParade.drop, label 0 -/
theorem w144_0 {D : Nat} {v1 : Int32} {m : XM} {Q : Int32 → XM → Prop} {E : Nat → XM → Prop}
    (h : (((m 0 7) = (n32 0) → E 0 m) ∧ (¬ (m 0 7) = (n32 0) → ((v1 < (n32 0) → E 2 m) ∧ (¬ v1 < (n32 0) → ((v1 < (m (29 + 3) 0) → (xin v1 12 = true ∧ (((m (29 + 3 + 5) (ix v1)) = (n32 0) → E 1 m) ∧ (¬ (m (29 + 3 + 5) (ix v1)) = (n32 0) → VU (D + 4) 13 [vR 2 (74), vR 8 (29)] m (fun m1 => VU (D + 4) 76 [vR 8 (29), vI v1] m1 (fun m2 => Q (m2 (29 + 12) 0) m2) E) E)))) ∧ (¬ v1 < (m (29 + 3) 0) → E 2 m))))))) :
    VI (D + 5) 144 [vR 10 (0), vI v1] m Q E := by
  refine V_of (VL_at (al := [(0, vR 10 (0)), (1, vI v1)]) (st := []) km144 k144_0 ?_)
  refine V_of ?_
  refine VL_norm km155 k155_0 (VL_at (al := [(0, vR 10 (0))]) (st := []) km155 k155_0 ?_)
  refine And.intro (fun c6 => ?_) (fun c6 => ?_)
  · refine VL_norm km155 k155_1 (VL_at (al := []) (st := []) km155 k155_1 ?_)
    exact (h.1 c6)
  · refine VL_norm km155 k155_2 (VL_at (al := []) (st := []) km155 k155_2 ?_)
    refine V_of ?_
    refine VL_norm km156 k156_0 (VL_at (al := [(0, vR 10 (0)), (1, vI v1)]) (st := []) km156 k156_0 ?_)
    refine V_of ?_
    refine VL_norm km158 k158_0 (VL_at (al := [(0, vI v1), (1, vI (m (29 + 3) 0))]) (st := []) km158 k158_0 ?_)
    refine And.intro (fun c5 => ?_) (fun c5 => ?_)
    · refine VL_norm km158 k158_2 (VL_at (al := []) (st := []) km158 k158_2 ?_)
      exact ((h.2 c6).1 c5)
    · refine VL_norm km158 k158_1 (VL_at (al := [(0, vI v1), (1, vI (m (29 + 3) 0))]) (st := []) km158 k158_1 ?_)
      refine And.intro (fun c4 => ?_) (fun c4 => ?_)
      · refine VL_norm km158 k158_3 (VL_at (al := []) (st := []) km158 k158_3 ?_)
        refine And.intro (((h.2 c6).2 c5).1 c4).1 ?_
        refine And.intro (fun c3 => ?_) (fun c3 => ?_)
        · refine VL_norm km144 k144_2 (VL_at (al := [(0, vR 10 (0)), (1, vI v1)]) (st := []) km144 k144_2 ?_)
          refine VL_norm km144 k144_3 (VL_at (al := [(0, vR 10 (0)), (1, vI v1)]) (st := [vI (n32 0)]) km144 k144_3 ?_)
          refine V_of ?_
          refine VL_norm km160 k160_0 (VL_at (al := [(0, vI (n32 0))]) (st := []) km160 k160_0 ?_)
          refine And.intro (fun _ => ?_) (fun c => absurd (by decide) c)
          refine VL_norm km160 k160_1 (VL_at (al := []) (st := []) km160 k160_1 ?_)
          exact ((((h.2 c6).2 c5).1 c4).2.1 c3)
        · refine VL_norm km144 k144_1 (VL_at (al := [(0, vR 10 (0)), (1, vI v1)]) (st := []) km144 k144_1 ?_)
          refine VL_norm km144 k144_3 (VL_at (al := [(0, vR 10 (0)), (1, vI v1)]) (st := [vI (n32 1)]) km144 k144_3 ?_)
          refine V_of ?_
          refine VL_norm km160 k160_0 (VL_at (al := [(0, vI (n32 1))]) (st := []) km160 k160_0 ?_)
          refine And.intro (fun c => absurd c (by decide)) (fun _ => ?_)
          refine VL_norm km160 k160_2 (VL_at (al := []) (st := []) km160 k160_2 ?_)
          refine V_mono ((((h.2 c6).2 c5).1 c4).2.2 c3) (fun u1 m1 h1 => ?_) (fun _ _ h => h)
          refine V_mono h1 (fun u2 m2 h2 => ?_) (fun _ _ h => h)
          exact h2
      · refine VL_norm km158 k158_2 (VL_at (al := []) (st := []) km158 k158_2 ?_)
        exact (((h.2 c6).2 c5).2 c4)
/-- BannerParade.pick, label 0 -/
theorem w145_0 {D : Nat} {v1 : Int32} {m : XM} {Q : Int32 → XM → Prop} {E : Nat → XM → Prop}
    (h : (((m 0 7) = (n32 0) → E 0 m) ∧ (¬ (m 0 7) = (n32 0) → ((v1 < (n32 0) → E 2 m) ∧ (¬ v1 < (n32 0) → ((v1 < (m (29 + 3) 0) → (xin v1 12 = true ∧ VI (D + 4) 8 [vR 1 (29 + 12), vI (m (29 + 3 + 6) (ix v1)), vI (m (29 + 3 + 6) (ix v1))] m (fun x1 m1 => (((m1 (29 + 3 + 5) (ix v1)) = (n32 0) → (((m1 (29 + 3 + 4) (ix v1)) < (m1 (29 + 1) (ix (n32 4))) → E 1 m1) ∧ (¬ (m1 (29 + 3 + 4) (ix v1)) < (m1 (29 + 1) (ix (n32 4))) → ((x1 = (-(n32 1)) → E 1 m1) ∧ (¬ x1 = (-(n32 1)) → VU (D + 4) 13 [vR 2 (74), vR 8 (29)] m1 (fun m2 => VU (D + 4) 78 [vR 8 (29), vI v1, vI x1] m2 (fun m3 => Q (m3 (29 + 3 + 5) (ix v1)) m3) E) E))))) ∧ (¬ (m1 (29 + 3 + 5) (ix v1)) = (n32 0) → E 1 m1))) E)) ∧ (¬ v1 < (m (29 + 3) 0) → E 2 m))))))) :
    VI (D + 5) 145 [vR 10 (0), vI v1] m Q E := by
  refine V_of (VL_at (al := [(0, vR 10 (0)), (1, vI v1)]) (st := []) km145 k145_0 ?_)
  refine V_of ?_
  refine VL_norm km155 k155_0 (VL_at (al := [(0, vR 10 (0))]) (st := []) km155 k155_0 ?_)
  refine And.intro (fun c9 => ?_) (fun c9 => ?_)
  · refine VL_norm km155 k155_1 (VL_at (al := []) (st := []) km155 k155_1 ?_)
    exact (h.1 c9)
  · refine VL_norm km155 k155_2 (VL_at (al := []) (st := []) km155 k155_2 ?_)
    refine V_of ?_
    refine VL_norm km156 k156_0 (VL_at (al := [(0, vR 10 (0)), (1, vI v1)]) (st := []) km156 k156_0 ?_)
    refine V_of ?_
    refine VL_norm km158 k158_0 (VL_at (al := [(0, vI v1), (1, vI (m (29 + 3) 0))]) (st := []) km158 k158_0 ?_)
    refine And.intro (fun c8 => ?_) (fun c8 => ?_)
    · refine VL_norm km158 k158_2 (VL_at (al := []) (st := []) km158 k158_2 ?_)
      exact ((h.2 c9).1 c8)
    · refine VL_norm km158 k158_1 (VL_at (al := [(0, vI v1), (1, vI (m (29 + 3) 0))]) (st := []) km158 k158_1 ?_)
      refine And.intro (fun c7 => ?_) (fun c7 => ?_)
      · refine VL_norm km158 k158_3 (VL_at (al := []) (st := []) km158 k158_3 ?_)
        refine And.intro (((h.2 c9).2 c8).1 c7).1 ?_
        refine And.intro (((h.2 c9).2 c8).1 c7).1 ?_
        refine V_mono (((h.2 c9).2 c8).1 c7).2 (fun u1 m1 h1 => ?_) (fun _ _ h => h)
        refine V_of ?_
        refine VL_norm km77 k77_0 (VL_at (al := [(0, vR 8 (29)), (1, vI v1)]) (st := []) km77 k77_0 ?_)
        refine And.intro (((h.2 c9).2 c8).1 c7).1 ?_
        refine And.intro (fun c6 => ?_) (fun c6 => ?_)
        · refine VL_norm km77 k77_1 (VL_at (al := [(0, vR 8 (29)), (1, vI v1)]) (st := []) km77 k77_1 ?_)
          refine And.intro (((h.2 c9).2 c8).1 c7).1 ?_
          refine And.intro (xin_k rfl) ?_
          refine And.intro (fun c5 => ?_) (fun c5 => ?_)
          · refine VL_norm km77 k77_3 (VL_at (al := []) (st := []) km77 k77_3 ?_)
            refine VL_norm km77 k77_4 (VL_at (al := []) (st := [vI (n32 0)]) km77 k77_4 ?_)
            refine And.intro xrt20 ?_
            refine And.intro (fun _ => ?_) (fun c => absurd (by decide) c)
            refine VL_norm km145 k145_3 (VL_at (al := [(0, vR 10 (0)), (1, vI v1), (2, vI (xti u1))]) (st := []) km145 k145_3 ?_)
            refine VL_norm km145 k145_4 (VL_at (al := [(0, vR 10 (0)), (1, vI v1), (2, vI (xti u1))]) (st := [vI (n32 0)]) km145 k145_4 ?_)
            refine V_of ?_
            refine VL_norm km160 k160_0 (VL_at (al := [(0, vI (n32 0))]) (st := []) km160 k160_0 ?_)
            refine And.intro (fun _ => ?_) (fun c => absurd (by decide) c)
            refine VL_norm km160 k160_1 (VL_at (al := []) (st := []) km160 k160_1 ?_)
            exact ((h1.1 c6).1 c5)
          · refine VL_norm km77 k77_2 (VL_at (al := []) (st := []) km77 k77_2 ?_)
            refine VL_norm km77 k77_4 (VL_at (al := []) (st := [vI (n32 1)]) km77 k77_4 ?_)
            refine And.intro xrt21 ?_
            refine And.intro (fun c => absurd c (by decide)) (fun _ => ?_)
            refine VL_norm km145 k145_1 (VL_at (al := [(0, vR 10 (0)), (1, vI v1), (2, vI (xti u1))]) (st := []) km145 k145_1 ?_)
            refine And.intro (fun c4 => ?_) (fun c4 => ?_)
            · refine VL_norm km145 k145_3 (VL_at (al := [(0, vR 10 (0)), (1, vI v1), (2, vI (xti u1))]) (st := []) km145 k145_3 ?_)
              refine VL_norm km145 k145_4 (VL_at (al := [(0, vR 10 (0)), (1, vI v1), (2, vI (xti u1))]) (st := [vI (n32 0)]) km145 k145_4 ?_)
              refine V_of ?_
              refine VL_norm km160 k160_0 (VL_at (al := [(0, vI (n32 0))]) (st := []) km160 k160_0 ?_)
              refine And.intro (fun _ => ?_) (fun c => absurd (by decide) c)
              refine VL_norm km160 k160_1 (VL_at (al := []) (st := []) km160 k160_1 ?_)
              exact (((h1.1 c6).2 c5).1 c4)
            · refine VL_norm km145 k145_2 (VL_at (al := [(0, vR 10 (0)), (1, vI v1), (2, vI (xti u1))]) (st := []) km145 k145_2 ?_)
              refine VL_norm km145 k145_4 (VL_at (al := [(0, vR 10 (0)), (1, vI v1), (2, vI (xti u1))]) (st := [vI (n32 1)]) km145 k145_4 ?_)
              refine V_of ?_
              refine VL_norm km160 k160_0 (VL_at (al := [(0, vI (n32 1))]) (st := []) km160 k160_0 ?_)
              refine And.intro (fun c => absurd c (by decide)) (fun _ => ?_)
              refine VL_norm km160 k160_2 (VL_at (al := []) (st := []) km160 k160_2 ?_)
              refine V_mono (((h1.1 c6).2 c5).2 c4) (fun u2 m2 h2 => ?_) (fun _ _ h => h)
              refine V_mono h2 (fun u3 m3 h3 => ?_) (fun _ _ h => h)
              refine And.intro (((h.2 c9).2 c8).1 c7).1 ?_
              exact h3
        · refine VL_norm km77 k77_3 (VL_at (al := []) (st := []) km77 k77_3 ?_)
          refine VL_norm km77 k77_4 (VL_at (al := []) (st := [vI (n32 0)]) km77 k77_4 ?_)
          refine And.intro xrt20 ?_
          refine And.intro (fun _ => ?_) (fun c => absurd (by decide) c)
          refine VL_norm km145 k145_3 (VL_at (al := [(0, vR 10 (0)), (1, vI v1), (2, vI (xti u1))]) (st := []) km145 k145_3 ?_)
          refine VL_norm km145 k145_4 (VL_at (al := [(0, vR 10 (0)), (1, vI v1), (2, vI (xti u1))]) (st := [vI (n32 0)]) km145 k145_4 ?_)
          refine V_of ?_
          refine VL_norm km160 k160_0 (VL_at (al := [(0, vI (n32 0))]) (st := []) km160 k160_0 ?_)
          refine And.intro (fun _ => ?_) (fun c => absurd (by decide) c)
          refine VL_norm km160 k160_1 (VL_at (al := []) (st := []) km160 k160_1 ?_)
          exact (h1.2 c6)
      · refine VL_norm km158 k158_2 (VL_at (al := []) (st := []) km158 k158_2 ?_)
        exact (((h.2 c9).2 c8).2 c7)
/-- BannerParade.strengthen, label 0 -/
theorem w146_0 {D : Nat} {v1 : Int32} {v2 : Int32} {m : XM} {Q : Int32 → XM → Prop} {E : Nat → XM → Prop}
    (h : (((m 0 7) = (n32 0) → E 0 m) ∧ (¬ (m 0 7) = (n32 0) → ((v1 < (n32 0) → E 2 m) ∧ (¬ v1 < (n32 0) → ((v1 < (m (29 + 3) 0) → ((v2 < (-(n32 100)) → E 1 m) ∧ (¬ v2 < (-(n32 100)) → (((n32 100) < v2 → E 1 m) ∧ (¬ (n32 100) < v2 → VU (D + 4) 13 [vR 2 (74), vR 8 (29)] m (fun m1 => VU (D + 4) 52 [vR 7 (29 + 3), vI v1, vI v2] m1 (fun m2 => (xin v1 12 = true ∧ Q (m2 (29 + 3 + 4) (ix v1)) m2)) E) E))))) ∧ (¬ v1 < (m (29 + 3) 0) → E 2 m))))))) :
    VI (D + 5) 146 [vR 10 (0), vI v1, vI v2] m Q E := by
  refine V_of (VL_at (al := [(0, vR 10 (0)), (1, vI v1), (2, vI v2)]) (st := []) km146 k146_0 ?_)
  refine V_of ?_
  refine VL_norm km155 k155_0 (VL_at (al := [(0, vR 10 (0))]) (st := []) km155 k155_0 ?_)
  refine And.intro (fun c7 => ?_) (fun c7 => ?_)
  · refine VL_norm km155 k155_1 (VL_at (al := []) (st := []) km155 k155_1 ?_)
    exact (h.1 c7)
  · refine VL_norm km155 k155_2 (VL_at (al := []) (st := []) km155 k155_2 ?_)
    refine V_of ?_
    refine VL_norm km156 k156_0 (VL_at (al := [(0, vR 10 (0)), (1, vI v1)]) (st := []) km156 k156_0 ?_)
    refine V_of ?_
    refine VL_norm km158 k158_0 (VL_at (al := [(0, vI v1), (1, vI (m (29 + 3) 0))]) (st := []) km158 k158_0 ?_)
    refine And.intro (fun c6 => ?_) (fun c6 => ?_)
    · refine VL_norm km158 k158_2 (VL_at (al := []) (st := []) km158 k158_2 ?_)
      exact ((h.2 c7).1 c6)
    · refine VL_norm km158 k158_1 (VL_at (al := [(0, vI v1), (1, vI (m (29 + 3) 0))]) (st := []) km158 k158_1 ?_)
      refine And.intro (fun c5 => ?_) (fun c5 => ?_)
      · refine VL_norm km158 k158_3 (VL_at (al := []) (st := []) km158 k158_3 ?_)
        refine V_of ?_
        refine VL_norm km159 k159_0 (VL_at (al := [(0, vI v2), (1, vI (-(n32 100))), (2, vI (n32 100))]) (st := []) km159 k159_0 ?_)
        refine And.intro (fun c4 => ?_) (fun c4 => ?_)
        · refine VL_norm km159 k159_3 (VL_at (al := []) (st := []) km159 k159_3 ?_)
          refine VL_norm km159 k159_4 (VL_at (al := []) (st := [vI (n32 0)]) km159 k159_4 ?_)
          refine V_of ?_
          refine VL_norm km160 k160_0 (VL_at (al := [(0, vI (n32 0))]) (st := []) km160 k160_0 ?_)
          refine And.intro (fun _ => ?_) (fun c => absurd (by decide) c)
          refine VL_norm km160 k160_1 (VL_at (al := []) (st := []) km160 k160_1 ?_)
          exact ((((h.2 c7).2 c6).1 c5).1 c4)
        · refine VL_norm km159 k159_1 (VL_at (al := [(0, vI v2), (2, vI (n32 100))]) (st := []) km159 k159_1 ?_)
          refine And.intro (fun c3 => ?_) (fun c3 => ?_)
          · refine VL_norm km159 k159_3 (VL_at (al := []) (st := []) km159 k159_3 ?_)
            refine VL_norm km159 k159_4 (VL_at (al := []) (st := [vI (n32 0)]) km159 k159_4 ?_)
            refine V_of ?_
            refine VL_norm km160 k160_0 (VL_at (al := [(0, vI (n32 0))]) (st := []) km160 k160_0 ?_)
            refine And.intro (fun _ => ?_) (fun c => absurd (by decide) c)
            refine VL_norm km160 k160_1 (VL_at (al := []) (st := []) km160 k160_1 ?_)
            exact (((((h.2 c7).2 c6).1 c5).2 c4).1 c3)
          · refine VL_norm km159 k159_2 (VL_at (al := []) (st := []) km159 k159_2 ?_)
            refine VL_norm km159 k159_4 (VL_at (al := []) (st := [vI (n32 1)]) km159 k159_4 ?_)
            refine V_of ?_
            refine VL_norm km160 k160_0 (VL_at (al := [(0, vI (n32 1))]) (st := []) km160 k160_0 ?_)
            refine And.intro (fun c => absurd c (by decide)) (fun _ => ?_)
            refine VL_norm km160 k160_2 (VL_at (al := []) (st := []) km160 k160_2 ?_)
            refine V_mono (((((h.2 c7).2 c6).1 c5).2 c4).2 c3) (fun u1 m1 h1 => ?_) (fun _ _ h => h)
            refine V_mono h1 (fun u2 m2 h2 => ?_) (fun _ _ h => h)
            refine And.intro h2.1 ?_
            exact h2.2
      · refine VL_norm km158 k158_2 (VL_at (al := []) (st := []) km158 k158_2 ?_)
        exact (((h.2 c7).2 c6).2 c5)
/-- BannerParade.rest, label 0 -/
theorem w147_0 {D : Nat} {v1 : Int32} {m : XM} {Q : Int32 → XM → Prop} {E : Nat → XM → Prop}
    (h : (((m 0 7) = (n32 0) → E 0 m) ∧ (¬ (m 0 7) = (n32 0) → ((v1 < (n32 1) → E 1 m) ∧ (¬ v1 < (n32 1) → (((n32 100) < v1 → E 1 m) ∧ (¬ (n32 100) < v1 → VU (D + 4) 13 [vR 2 (74), vR 8 (29)] m (fun m1 => VLI (D + 5) 147 1 [(0, vR 10 (0)), (1, vI v1), (2, vI (n32 0))] [] m1 Q E) E))))))) :
    VI (D + 5) 147 [vR 10 (0), vI v1] m Q E := by
  refine V_of (VL_at (al := [(0, vR 10 (0)), (1, vI v1)]) (st := []) km147 k147_0 ?_)
  refine V_of ?_
  refine VL_norm km155 k155_0 (VL_at (al := [(0, vR 10 (0))]) (st := []) km155 k155_0 ?_)
  refine And.intro (fun c4 => ?_) (fun c4 => ?_)
  · refine VL_norm km155 k155_1 (VL_at (al := []) (st := []) km155 k155_1 ?_)
    exact (h.1 c4)
  · refine VL_norm km155 k155_2 (VL_at (al := []) (st := []) km155 k155_2 ?_)
    refine V_of ?_
    refine VL_norm km159 k159_0 (VL_at (al := [(0, vI v1), (1, vI (n32 1)), (2, vI (n32 100))]) (st := []) km159 k159_0 ?_)
    refine And.intro (fun c3 => ?_) (fun c3 => ?_)
    · refine VL_norm km159 k159_3 (VL_at (al := []) (st := []) km159 k159_3 ?_)
      refine VL_norm km159 k159_4 (VL_at (al := []) (st := [vI (n32 0)]) km159 k159_4 ?_)
      refine V_of ?_
      refine VL_norm km160 k160_0 (VL_at (al := [(0, vI (n32 0))]) (st := []) km160 k160_0 ?_)
      refine And.intro (fun _ => ?_) (fun c => absurd (by decide) c)
      refine VL_norm km160 k160_1 (VL_at (al := []) (st := []) km160 k160_1 ?_)
      exact ((h.2 c4).1 c3)
    · refine VL_norm km159 k159_1 (VL_at (al := [(0, vI v1), (2, vI (n32 100))]) (st := []) km159 k159_1 ?_)
      refine And.intro (fun c2 => ?_) (fun c2 => ?_)
      · refine VL_norm km159 k159_3 (VL_at (al := []) (st := []) km159 k159_3 ?_)
        refine VL_norm km159 k159_4 (VL_at (al := []) (st := [vI (n32 0)]) km159 k159_4 ?_)
        refine V_of ?_
        refine VL_norm km160 k160_0 (VL_at (al := [(0, vI (n32 0))]) (st := []) km160 k160_0 ?_)
        refine And.intro (fun _ => ?_) (fun c => absurd (by decide) c)
        refine VL_norm km160 k160_1 (VL_at (al := []) (st := []) km160 k160_1 ?_)
        exact (((h.2 c4).2 c3).1 c2)
      · refine VL_norm km159 k159_2 (VL_at (al := []) (st := []) km159 k159_2 ?_)
        refine VL_norm km159 k159_4 (VL_at (al := []) (st := [vI (n32 1)]) km159 k159_4 ?_)
        refine V_of ?_
        refine VL_norm km160 k160_0 (VL_at (al := [(0, vI (n32 1))]) (st := []) km160 k160_0 ?_)
        refine And.intro (fun c => absurd c (by decide)) (fun _ => ?_)
        refine VL_norm km160 k160_2 (VL_at (al := []) (st := []) km160 k160_2 ?_)
        refine V_mono (((h.2 c4).2 c3).2 c2) (fun u1 m1 h1 => ?_) (fun _ _ h => h)
        exact VL_norm km147 k147_1 h1
/-- BannerParade.rest, label 1 -/
theorem w147_1 {D : Nat} {v1 : Int32} {v2 : Int32} {m : XM} {Q : Int32 → XM → Prop} {E : Nat → XM → Prop}
    (h : (((m (29 + 3) 0) ≤ v2 → VI (D + 4) 60 [vR 7 (29 + 3)] m (fun x1 m1 => Q x1 m1) E) ∧ (¬ (m (29 + 3) 0) ≤ v2 → VU (D + 4) 52 [vR 7 (29 + 3), vI v2, vI v1] m (fun m2 => VLI (D + 5) 147 1 [(0, vR 10 (0)), (1, vI v1), (2, vI (v2 + (n32 1)))] [] m2 Q E) E))) :
    VLI (D + 5) 147 1 [(0, vR 10 (0)), (1, vI v1), (2, vI v2)] [] m Q E := by
  refine VL_at (al := [(0, vR 10 (0)), (1, vI v1), (2, vI v2)]) (st := []) km147 k147_1 ?_
  refine And.intro (fun c3 => ?_) (fun c3 => ?_)
  · refine VL_norm km147 k147_3 (VL_at (al := [(0, vR 10 (0))]) (st := []) km147 k147_3 ?_)
    refine V_mono (h.1 c3) (fun u1 m1 h1 => ?_) (fun _ _ h => h)
    exact h1
  · refine VL_norm km147 k147_2 (VL_at (al := [(0, vR 10 (0)), (1, vI v1), (2, vI v2)]) (st := []) km147 k147_2 ?_)
    refine V_mono (h.2 c3) (fun u2 m2 h2 => ?_) (fun _ _ h => h)
    exact VL_norm km147 k147_1 h2
/-- BannerParade.setStep, label 0 -/
theorem w148_0 {D : Nat} {v1 : Int32} {v2 : Int32} {m : XM} {Q : Int32 → XM → Prop} {E : Nat → XM → Prop}
    (h : (((m 0 7) = (n32 0) → E 0 m) ∧ (¬ (m 0 7) = (n32 0) → ((v1 < (n32 0) → E 2 m) ∧ (¬ v1 < (n32 0) → ((v1 < (m (29 + 3) 0) → ((v2 < (n32 1) → E 1 m) ∧ (¬ v2 < (n32 1) → (((n32 200) < v2 → E 1 m) ∧ (¬ (n32 200) < v2 → VU (D + 4) 13 [vR 2 (74), vR 8 (29)] m (fun m1 => (xin v1 12 = true ∧ Q (m1 (29 + 3 + 2) (ix v1)) (um m1 (29 + 3 + 2) (ix v1) v2))) E))))) ∧ (¬ v1 < (m (29 + 3) 0) → E 2 m))))))) :
    VI (D + 5) 148 [vR 10 (0), vI v1, vI v2] m Q E := by
  refine V_of (VL_at (al := [(0, vR 10 (0)), (1, vI v1), (2, vI v2)]) (st := []) km148 k148_0 ?_)
  refine V_of ?_
  refine VL_norm km155 k155_0 (VL_at (al := [(0, vR 10 (0))]) (st := []) km155 k155_0 ?_)
  refine And.intro (fun c6 => ?_) (fun c6 => ?_)
  · refine VL_norm km155 k155_1 (VL_at (al := []) (st := []) km155 k155_1 ?_)
    exact (h.1 c6)
  · refine VL_norm km155 k155_2 (VL_at (al := []) (st := []) km155 k155_2 ?_)
    refine V_of ?_
    refine VL_norm km156 k156_0 (VL_at (al := [(0, vR 10 (0)), (1, vI v1)]) (st := []) km156 k156_0 ?_)
    refine V_of ?_
    refine VL_norm km158 k158_0 (VL_at (al := [(0, vI v1), (1, vI (m (29 + 3) 0))]) (st := []) km158 k158_0 ?_)
    refine And.intro (fun c5 => ?_) (fun c5 => ?_)
    · refine VL_norm km158 k158_2 (VL_at (al := []) (st := []) km158 k158_2 ?_)
      exact ((h.2 c6).1 c5)
    · refine VL_norm km158 k158_1 (VL_at (al := [(0, vI v1), (1, vI (m (29 + 3) 0))]) (st := []) km158 k158_1 ?_)
      refine And.intro (fun c4 => ?_) (fun c4 => ?_)
      · refine VL_norm km158 k158_3 (VL_at (al := []) (st := []) km158 k158_3 ?_)
        refine V_of ?_
        refine VL_norm km159 k159_0 (VL_at (al := [(0, vI v2), (1, vI (n32 1)), (2, vI (n32 200))]) (st := []) km159 k159_0 ?_)
        refine And.intro (fun c3 => ?_) (fun c3 => ?_)
        · refine VL_norm km159 k159_3 (VL_at (al := []) (st := []) km159 k159_3 ?_)
          refine VL_norm km159 k159_4 (VL_at (al := []) (st := [vI (n32 0)]) km159 k159_4 ?_)
          refine V_of ?_
          refine VL_norm km160 k160_0 (VL_at (al := [(0, vI (n32 0))]) (st := []) km160 k160_0 ?_)
          refine And.intro (fun _ => ?_) (fun c => absurd (by decide) c)
          refine VL_norm km160 k160_1 (VL_at (al := []) (st := []) km160 k160_1 ?_)
          exact ((((h.2 c6).2 c5).1 c4).1 c3)
        · refine VL_norm km159 k159_1 (VL_at (al := [(0, vI v2), (2, vI (n32 200))]) (st := []) km159 k159_1 ?_)
          refine And.intro (fun c2 => ?_) (fun c2 => ?_)
          · refine VL_norm km159 k159_3 (VL_at (al := []) (st := []) km159 k159_3 ?_)
            refine VL_norm km159 k159_4 (VL_at (al := []) (st := [vI (n32 0)]) km159 k159_4 ?_)
            refine V_of ?_
            refine VL_norm km160 k160_0 (VL_at (al := [(0, vI (n32 0))]) (st := []) km160 k160_0 ?_)
            refine And.intro (fun _ => ?_) (fun c => absurd (by decide) c)
            refine VL_norm km160 k160_1 (VL_at (al := []) (st := []) km160 k160_1 ?_)
            exact (((((h.2 c6).2 c5).1 c4).2 c3).1 c2)
          · refine VL_norm km159 k159_2 (VL_at (al := []) (st := []) km159 k159_2 ?_)
            refine VL_norm km159 k159_4 (VL_at (al := []) (st := [vI (n32 1)]) km159 k159_4 ?_)
            refine V_of ?_
            refine VL_norm km160 k160_0 (VL_at (al := [(0, vI (n32 1))]) (st := []) km160 k160_0 ?_)
            refine And.intro (fun c => absurd c (by decide)) (fun _ => ?_)
            refine VL_norm km160 k160_2 (VL_at (al := []) (st := []) km160 k160_2 ?_)
            refine V_mono (((((h.2 c6).2 c5).1 c4).2 c3).2 c2) (fun u1 m1 h1 => ?_) (fun _ _ h => h)
            refine And.intro h1.1 ?_
            refine And.intro h1.1 ?_
            exact h1.2
      · refine VL_norm km158 k158_2 (VL_at (al := []) (st := []) km158 k158_2 ?_)
        exact (((h.2 c6).2 c5).2 c4)
/-- BannerParade.addPlan, label 0 -/
theorem w149_0 {D : Nat} {v1 : Int32} {v2 : Int32} {m : XM} {Q : Int32 → XM → Prop} {E : Nat → XM → Prop}
    (h : (((m 0 7) = (n32 0) → E 0 m) ∧ (¬ (m 0 7) = (n32 0) → ((v2 < (n32 0) → E 2 m) ∧ (¬ v2 < (n32 0) → ((v2 < (m (29 + 3) 0) → ((v1 < ((m 29 0) + (n32 1)) → E 1 m) ∧ (¬ v1 < ((m 29 0) + (n32 1)) → (((n32 5000) < v1 → E 1 m) ∧ (¬ (n32 5000) < v1 → (((m (29 + 3) 0) ≤ (v2 + (n32 1)) → E 1 m) ∧ (¬ (m (29 + 3) 0) ≤ (v2 + (n32 1)) → (((n32 12) ≤ (m (29 + 16) 0) → E 1 m) ∧ (¬ (n32 12) ≤ (m (29 + 16) 0) → VU (D + 4) 13 [vR 2 (74), vR 8 (29)] m (fun m1 => (((m1 (29 + 16) 0) < (n32 12) → (xin (m1 (29 + 16) 0) 12 = true ∧ (xin ((um m1 (29 + 16 + 1) (ix (m1 (29 + 16) 0)) v1) (29 + 16) 0) 12 = true ∧ (xin ((um (um m1 (29 + 16 + 1) (ix (m1 (29 + 16) 0)) v1) (29 + 16 + 2) (ix ((um m1 (29 + 16 + 1) (ix (m1 (29 + 16) 0)) v1) (29 + 16) 0)) v2) (29 + 16) 0) 12 = true ∧ (∀ μ2 : XM, μ2 = um (um (um m1 (29 + 16 + 1) (ix (m1 (29 + 16) 0)) v1) (29 + 16 + 2) (ix ((um m1 (29 + 16 + 1) (ix (m1 (29 + 16) 0)) v1) (29 + 16) 0)) v2) (29 + 16 + 3) (ix ((um (um m1 (29 + 16 + 1) (ix (m1 (29 + 16) 0)) v1) (29 + 16 + 2) (ix ((um m1 (29 + 16 + 1) (ix (m1 (29 + 16) 0)) v1) (29 + 16) 0)) v2) (29 + 16) 0)) (n32 0) → Q (((um μ2 (29 + 16) 0 ((μ2 (29 + 16) 0) + (n32 1))) (29 + 16) 0) - (n32 1)) (um μ2 (29 + 16) 0 ((μ2 (29 + 16) 0) + (n32 1)))))))) ∧ (¬ (m1 (29 + 16) 0) < (n32 12) → Q ((m1 (29 + 16) 0) - (n32 1)) m1))) E))))))))) ∧ (¬ v2 < (m (29 + 3) 0) → E 2 m))))))) :
    VI (D + 5) 149 [vR 10 (0), vI v1, vI v2] m Q E := by
  refine V_of (VL_at (al := [(0, vR 10 (0)), (1, vI v1), (2, vI v2)]) (st := []) km149 k149_0 ?_)
  refine V_of ?_
  refine VL_norm km155 k155_0 (VL_at (al := [(0, vR 10 (0))]) (st := []) km155 k155_0 ?_)
  refine And.intro (fun c10 => ?_) (fun c10 => ?_)
  · refine VL_norm km155 k155_1 (VL_at (al := []) (st := []) km155 k155_1 ?_)
    exact (h.1 c10)
  · refine VL_norm km155 k155_2 (VL_at (al := []) (st := []) km155 k155_2 ?_)
    refine V_of ?_
    refine VL_norm km156 k156_0 (VL_at (al := [(0, vR 10 (0)), (1, vI v2)]) (st := []) km156 k156_0 ?_)
    refine V_of ?_
    refine VL_norm km158 k158_0 (VL_at (al := [(0, vI v2), (1, vI (m (29 + 3) 0))]) (st := []) km158 k158_0 ?_)
    refine And.intro (fun c9 => ?_) (fun c9 => ?_)
    · refine VL_norm km158 k158_2 (VL_at (al := []) (st := []) km158 k158_2 ?_)
      exact ((h.2 c10).1 c9)
    · refine VL_norm km158 k158_1 (VL_at (al := [(0, vI v2), (1, vI (m (29 + 3) 0))]) (st := []) km158 k158_1 ?_)
      refine And.intro (fun c8 => ?_) (fun c8 => ?_)
      · refine VL_norm km158 k158_3 (VL_at (al := []) (st := []) km158 k158_3 ?_)
        refine V_of ?_
        refine VL_norm km159 k159_0 (VL_at (al := [(0, vI v1), (1, vI ((m 29 0) + (n32 1))), (2, vI (n32 5000))]) (st := []) km159 k159_0 ?_)
        refine And.intro (fun c7 => ?_) (fun c7 => ?_)
        · refine VL_norm km159 k159_3 (VL_at (al := []) (st := []) km159 k159_3 ?_)
          refine VL_norm km159 k159_4 (VL_at (al := []) (st := [vI (n32 0)]) km159 k159_4 ?_)
          refine V_of ?_
          refine VL_norm km160 k160_0 (VL_at (al := [(0, vI (n32 0))]) (st := []) km160 k160_0 ?_)
          refine And.intro (fun _ => ?_) (fun c => absurd (by decide) c)
          refine VL_norm km160 k160_1 (VL_at (al := []) (st := []) km160 k160_1 ?_)
          exact ((((h.2 c10).2 c9).1 c8).1 c7)
        · refine VL_norm km159 k159_1 (VL_at (al := [(0, vI v1), (2, vI (n32 5000))]) (st := []) km159 k159_1 ?_)
          refine And.intro (fun c6 => ?_) (fun c6 => ?_)
          · refine VL_norm km159 k159_3 (VL_at (al := []) (st := []) km159 k159_3 ?_)
            refine VL_norm km159 k159_4 (VL_at (al := []) (st := [vI (n32 0)]) km159 k159_4 ?_)
            refine V_of ?_
            refine VL_norm km160 k160_0 (VL_at (al := [(0, vI (n32 0))]) (st := []) km160 k160_0 ?_)
            refine And.intro (fun _ => ?_) (fun c => absurd (by decide) c)
            refine VL_norm km160 k160_1 (VL_at (al := []) (st := []) km160 k160_1 ?_)
            exact (((((h.2 c10).2 c9).1 c8).2 c7).1 c6)
          · refine VL_norm km159 k159_2 (VL_at (al := []) (st := []) km159 k159_2 ?_)
            refine VL_norm km159 k159_4 (VL_at (al := []) (st := [vI (n32 1)]) km159 k159_4 ?_)
            refine V_of ?_
            refine VL_norm km160 k160_0 (VL_at (al := [(0, vI (n32 1))]) (st := []) km160 k160_0 ?_)
            refine And.intro (fun c => absurd c (by decide)) (fun _ => ?_)
            refine VL_norm km160 k160_2 (VL_at (al := []) (st := []) km160 k160_2 ?_)
            refine And.intro (fun c5 => ?_) (fun c5 => ?_)
            · refine VL_norm km149 k149_3 (VL_at (al := [(0, vR 10 (0)), (1, vI v1), (2, vI v2)]) (st := []) km149 k149_3 ?_)
              refine VL_norm km149 k149_4 (VL_at (al := [(0, vR 10 (0)), (1, vI v1), (2, vI v2)]) (st := [vI (n32 0)]) km149 k149_4 ?_)
              refine V_of ?_
              refine VL_norm km160 k160_0 (VL_at (al := [(0, vI (n32 0))]) (st := []) km160 k160_0 ?_)
              refine And.intro (fun _ => ?_) (fun c => absurd (by decide) c)
              refine VL_norm km160 k160_1 (VL_at (al := []) (st := []) km160 k160_1 ?_)
              exact ((((((h.2 c10).2 c9).1 c8).2 c7).2 c6).1 c5)
            · refine VL_norm km149 k149_1 (VL_at (al := [(0, vR 10 (0)), (1, vI v1), (2, vI v2)]) (st := []) km149 k149_1 ?_)
              refine And.intro (fun c4 => ?_) (fun c4 => ?_)
              · refine VL_norm km149 k149_3 (VL_at (al := [(0, vR 10 (0)), (1, vI v1), (2, vI v2)]) (st := []) km149 k149_3 ?_)
                refine VL_norm km149 k149_4 (VL_at (al := [(0, vR 10 (0)), (1, vI v1), (2, vI v2)]) (st := [vI (n32 0)]) km149 k149_4 ?_)
                refine V_of ?_
                refine VL_norm km160 k160_0 (VL_at (al := [(0, vI (n32 0))]) (st := []) km160 k160_0 ?_)
                refine And.intro (fun _ => ?_) (fun c => absurd (by decide) c)
                refine VL_norm km160 k160_1 (VL_at (al := []) (st := []) km160 k160_1 ?_)
                exact (((((((h.2 c10).2 c9).1 c8).2 c7).2 c6).2 c5).1 c4)
              · refine VL_norm km149 k149_2 (VL_at (al := [(0, vR 10 (0)), (1, vI v1), (2, vI v2)]) (st := []) km149 k149_2 ?_)
                refine VL_norm km149 k149_4 (VL_at (al := [(0, vR 10 (0)), (1, vI v1), (2, vI v2)]) (st := [vI (n32 1)]) km149 k149_4 ?_)
                refine V_of ?_
                refine VL_norm km160 k160_0 (VL_at (al := [(0, vI (n32 1))]) (st := []) km160 k160_0 ?_)
                refine And.intro (fun c => absurd c (by decide)) (fun _ => ?_)
                refine VL_norm km160 k160_2 (VL_at (al := []) (st := []) km160 k160_2 ?_)
                refine V_mono (((((((h.2 c10).2 c9).1 c8).2 c7).2 c6).2 c5).2 c4) (fun u1 m1 h1 => ?_) (fun _ _ h => h)
                refine V_of ?_
                refine VL_norm km29 k29_0 (VL_at (al := [(0, vR 4 (29 + 16)), (1, vI v1), (2, vI v2)]) (st := []) km29 k29_0 ?_)
                refine And.intro (fun c3 => ?_) (fun c3 => ?_)
                · refine VL_norm km29 k29_2 (VL_at (al := [(0, vR 4 (29 + 16)), (1, vI v1), (2, vI v2)]) (st := []) km29 k29_2 ?_)
                  refine And.intro (h1.1 c3).1 ?_
                  refine And.intro (h1.1 c3).2.1 ?_
                  refine And.intro (h1.1 c3).2.2.1 ?_
                  exact ((h1.1 c3).2.2.2 (um (um (um m1 (29 + 16 + 1) (ix (m1 (29 + 16) 0)) v1) (29 + 16 + 2) (ix ((um m1 (29 + 16 + 1) (ix (m1 (29 + 16) 0)) v1) (29 + 16) 0)) v2) (29 + 16 + 3) (ix ((um (um m1 (29 + 16 + 1) (ix (m1 (29 + 16) 0)) v1) (29 + 16 + 2) (ix ((um m1 (29 + 16 + 1) (ix (m1 (29 + 16) 0)) v1) (29 + 16) 0)) v2) (29 + 16) 0)) (n32 0)) rfl)
                · refine VL_norm km29 k29_1 (VL_at (al := []) (st := []) km29 k29_1 ?_)
                  exact (h1.2 c3)
      · refine VL_norm km158 k158_2 (VL_at (al := []) (st := []) km158 k158_2 ?_)
        exact (((h.2 c10).2 c9).2 c8)
/-- BannerParade.set, label 0 -/
theorem w150_0 {D : Nat} {v1 : Int32} {v2 : Int32} {m : XM} {Q : Int32 → XM → Prop} {E : Nat → XM → Prop}
    (h : (((m 0 7) = (n32 0) → E 0 m) ∧ (¬ (m 0 7) = (n32 0) → ((v1 < (n32 0) → E 1 m) ∧ (¬ v1 < (n32 0) → (((n32 5) < v1 → E 1 m) ∧ (¬ (n32 5) < v1 → (xin v1 6 = true ∧ ((v2 < (c40 (ix v1)) → E 1 m) ∧ (¬ v2 < (c40 (ix v1)) → (((c41 (ix v1)) < v2 → E 1 m) ∧ (¬ (c41 (ix v1)) < v2 → VU (D + 4) 13 [vR 2 (74), vR 8 (29)] m (fun m1 => Q (m1 (29 + 1) (ix v1)) (um m1 (29 + 1) (ix v1) v2)) E)))))))))))) :
    VI (D + 5) 150 [vR 10 (0), vI v1, vI v2] m Q E := by
  refine V_of (VL_at (al := [(0, vR 10 (0)), (1, vI v1), (2, vI v2)]) (st := []) km150 k150_0 ?_)
  refine V_of ?_
  refine VL_norm km155 k155_0 (VL_at (al := [(0, vR 10 (0))]) (st := []) km155 k155_0 ?_)
  refine And.intro (fun c6 => ?_) (fun c6 => ?_)
  · refine VL_norm km155 k155_1 (VL_at (al := []) (st := []) km155 k155_1 ?_)
    exact (h.1 c6)
  · refine VL_norm km155 k155_2 (VL_at (al := []) (st := []) km155 k155_2 ?_)
    refine V_of ?_
    refine VL_norm km159 k159_0 (VL_at (al := [(0, vI v1), (1, vI (n32 0)), (2, vI (n32 5))]) (st := []) km159 k159_0 ?_)
    refine And.intro (fun c5 => ?_) (fun c5 => ?_)
    · refine VL_norm km159 k159_3 (VL_at (al := []) (st := []) km159 k159_3 ?_)
      refine VL_norm km159 k159_4 (VL_at (al := []) (st := [vI (n32 0)]) km159 k159_4 ?_)
      refine V_of ?_
      refine VL_norm km160 k160_0 (VL_at (al := [(0, vI (n32 0))]) (st := []) km160 k160_0 ?_)
      refine And.intro (fun _ => ?_) (fun c => absurd (by decide) c)
      refine VL_norm km160 k160_1 (VL_at (al := []) (st := []) km160 k160_1 ?_)
      exact ((h.2 c6).1 c5)
    · refine VL_norm km159 k159_1 (VL_at (al := [(0, vI v1), (2, vI (n32 5))]) (st := []) km159 k159_1 ?_)
      refine And.intro (fun c4 => ?_) (fun c4 => ?_)
      · refine VL_norm km159 k159_3 (VL_at (al := []) (st := []) km159 k159_3 ?_)
        refine VL_norm km159 k159_4 (VL_at (al := []) (st := [vI (n32 0)]) km159 k159_4 ?_)
        refine V_of ?_
        refine VL_norm km160 k160_0 (VL_at (al := [(0, vI (n32 0))]) (st := []) km160 k160_0 ?_)
        refine And.intro (fun _ => ?_) (fun c => absurd (by decide) c)
        refine VL_norm km160 k160_1 (VL_at (al := []) (st := []) km160 k160_1 ?_)
        exact (((h.2 c6).2 c5).1 c4)
      · refine VL_norm km159 k159_2 (VL_at (al := []) (st := []) km159 k159_2 ?_)
        refine VL_norm km159 k159_4 (VL_at (al := []) (st := [vI (n32 1)]) km159 k159_4 ?_)
        refine V_of ?_
        refine VL_norm km160 k160_0 (VL_at (al := [(0, vI (n32 1))]) (st := []) km160 k160_0 ?_)
        refine And.intro (fun c => absurd c (by decide)) (fun _ => ?_)
        refine VL_norm km160 k160_2 (VL_at (al := []) (st := []) km160 k160_2 ?_)
        refine And.intro (((h.2 c6).2 c5).2 c4).1 ?_
        refine And.intro (((h.2 c6).2 c5).2 c4).1 ?_
        refine V_of ?_
        refine VL_norm km159 k159_0 (VL_at (al := [(0, vI v2), (1, vI (c40 (ix v1))), (2, vI (c41 (ix v1)))]) (st := []) km159 k159_0 ?_)
        refine And.intro (fun c3 => ?_) (fun c3 => ?_)
        · refine VL_norm km159 k159_3 (VL_at (al := []) (st := []) km159 k159_3 ?_)
          refine VL_norm km159 k159_4 (VL_at (al := []) (st := [vI (n32 0)]) km159 k159_4 ?_)
          refine V_of ?_
          refine VL_norm km160 k160_0 (VL_at (al := [(0, vI (n32 0))]) (st := []) km160 k160_0 ?_)
          refine And.intro (fun _ => ?_) (fun c => absurd (by decide) c)
          refine VL_norm km160 k160_1 (VL_at (al := []) (st := []) km160 k160_1 ?_)
          exact ((((h.2 c6).2 c5).2 c4).2.1 c3)
        · refine VL_norm km159 k159_1 (VL_at (al := [(0, vI v2), (2, vI (c41 (ix v1)))]) (st := []) km159 k159_1 ?_)
          refine And.intro (fun c2 => ?_) (fun c2 => ?_)
          · refine VL_norm km159 k159_3 (VL_at (al := []) (st := []) km159 k159_3 ?_)
            refine VL_norm km159 k159_4 (VL_at (al := []) (st := [vI (n32 0)]) km159 k159_4 ?_)
            refine V_of ?_
            refine VL_norm km160 k160_0 (VL_at (al := [(0, vI (n32 0))]) (st := []) km160 k160_0 ?_)
            refine And.intro (fun _ => ?_) (fun c => absurd (by decide) c)
            refine VL_norm km160 k160_1 (VL_at (al := []) (st := []) km160 k160_1 ?_)
            exact (((((h.2 c6).2 c5).2 c4).2.2 c3).1 c2)
          · refine VL_norm km159 k159_2 (VL_at (al := []) (st := []) km159 k159_2 ?_)
            refine VL_norm km159 k159_4 (VL_at (al := []) (st := [vI (n32 1)]) km159 k159_4 ?_)
            refine V_of ?_
            refine VL_norm km160 k160_0 (VL_at (al := [(0, vI (n32 1))]) (st := []) km160 k160_0 ?_)
            refine And.intro (fun c => absurd c (by decide)) (fun _ => ?_)
            refine VL_norm km160 k160_2 (VL_at (al := []) (st := []) km160 k160_2 ?_)
            refine V_mono (((((h.2 c6).2 c5).2 c4).2.2 c3).2 c2) (fun u1 m1 h1 => ?_) (fun _ _ h => h)
            refine And.intro (((h.2 c6).2 c5).2 c4).1 ?_
            refine And.intro (((h.2 c6).2 c5).2 c4).1 ?_
            exact h1
/-- BannerParade.undo, label 0 -/
theorem w151_0 {D : Nat}  {m : XM} {Q : Int32 → XM → Prop} {E : Nat → XM → Prop}
    (h : (((m 74 1) = (n32 0) → E 0 m) ∧ (¬ (m 74 1) = (n32 0) → VU (D + 4) 14 [vR 2 (74), vR 8 (29)] m (fun m1 => Q (m1 74 1) m1) E))) :
    VI (D + 5) 151 [vR 10 (0)] m Q E := by
  refine V_of (VL_at (al := [(0, vR 10 (0))]) (st := []) km151 k151_0 ?_)
  refine And.intro (fun c2 => ?_) (fun c2 => ?_)
  · refine VL_norm km151 k151_1 (VL_at (al := []) (st := []) km151 k151_1 ?_)
    exact (h.1 c2)
  · refine VL_norm km151 k151_2 (VL_at (al := [(0, vR 10 (0))]) (st := []) km151 k151_2 ?_)
    refine V_mono (h.2 c2) (fun u1 m1 h1 => ?_) (fun _ _ h => h)
    exact h1
/-- BannerParade.save, label 0 -/
theorem w153_0 {D : Nat} {v1 : Int32} {m : XM} {Q : Int32 → XM → Prop} {E : Nat → XM → Prop}
    (h : (((m 0 7) = (n32 0) → E 0 m) ∧ (¬ (m 0 7) = (n32 0) → ((v1 < (n32 0) → E 2 m) ∧ (¬ v1 < (n32 0) → ((v1 < (n32 2) → VU (D + 4) 15 [vR 2 (74), vI v1, vR 8 (29)] m (fun m1 => Q (m1 29 0) m1) E) ∧ (¬ v1 < (n32 2) → E 2 m))))))) :
    VI (D + 5) 153 [vR 10 (0), vI v1] m Q E := by
  refine V_of (VL_at (al := [(0, vR 10 (0)), (1, vI v1)]) (st := []) km153 k153_0 ?_)
  refine V_of ?_
  refine VL_norm km155 k155_0 (VL_at (al := [(0, vR 10 (0))]) (st := []) km155 k155_0 ?_)
  refine And.intro (fun c4 => ?_) (fun c4 => ?_)
  · refine VL_norm km155 k155_1 (VL_at (al := []) (st := []) km155 k155_1 ?_)
    exact (h.1 c4)
  · refine VL_norm km155 k155_2 (VL_at (al := []) (st := []) km155 k155_2 ?_)
    refine V_of ?_
    refine VL_norm km158 k158_0 (VL_at (al := [(0, vI v1), (1, vI (n32 2))]) (st := []) km158 k158_0 ?_)
    refine And.intro (fun c3 => ?_) (fun c3 => ?_)
    · refine VL_norm km158 k158_2 (VL_at (al := []) (st := []) km158 k158_2 ?_)
      exact ((h.2 c4).1 c3)
    · refine VL_norm km158 k158_1 (VL_at (al := [(0, vI v1), (1, vI (n32 2))]) (st := []) km158 k158_1 ?_)
      refine And.intro (fun c2 => ?_) (fun c2 => ?_)
      · refine VL_norm km158 k158_3 (VL_at (al := []) (st := []) km158 k158_3 ?_)
        refine V_mono (((h.2 c4).2 c3).1 c2) (fun u1 m1 h1 => ?_) (fun _ _ h => h)
        exact h1
      · refine VL_norm km158 k158_2 (VL_at (al := []) (st := []) km158 k158_2 ?_)
        exact (((h.2 c4).2 c3).2 c2)
/-- BannerParade.restore, label 0 -/
theorem w154_0 {D : Nat} {v1 : Int32} {m : XM} {Q : Int32 → XM → Prop} {E : Nat → XM → Prop}
    (h : ((v1 < (n32 0) → E 2 m) ∧ (¬ v1 < (n32 0) → ((v1 < (n32 2) → (xin v1 2 = true ∧ (((m (74 + 3) (ix v1)) = (n32 0) → E 0 m) ∧ (¬ (m (74 + 3) (ix v1)) = (n32 0) → VU (D + 4) 16 [vR 2 (74), vI v1, vR 8 (29)] m (fun m1 => Q ((um (um m1 (74) 0 (n32 0)) (74) 1 (n32 0)) 29 0) (um (um m1 (74) 0 (n32 0)) (74) 1 (n32 0))) E)))) ∧ (¬ v1 < (n32 2) → E 2 m))))) :
    VI (D + 5) 154 [vR 10 (0), vI v1] m Q E := by
  refine V_of (VL_at (al := [(0, vR 10 (0)), (1, vI v1)]) (st := []) km154 k154_0 ?_)
  refine V_of ?_
  refine VL_norm km158 k158_0 (VL_at (al := [(0, vI v1), (1, vI (n32 2))]) (st := []) km158 k158_0 ?_)
  refine And.intro (fun c4 => ?_) (fun c4 => ?_)
  · refine VL_norm km158 k158_2 (VL_at (al := []) (st := []) km158 k158_2 ?_)
    exact (h.1 c4)
  · refine VL_norm km158 k158_1 (VL_at (al := [(0, vI v1), (1, vI (n32 2))]) (st := []) km158 k158_1 ?_)
    refine And.intro (fun c3 => ?_) (fun c3 => ?_)
    · refine VL_norm km158 k158_3 (VL_at (al := []) (st := []) km158 k158_3 ?_)
      refine And.intro ((h.2 c4).1 c3).1 ?_
      refine And.intro (fun c2 => ?_) (fun c2 => ?_)
      · refine VL_norm km154 k154_1 (VL_at (al := []) (st := []) km154 k154_1 ?_)
        exact (((h.2 c4).1 c3).2.1 c2)
      · refine VL_norm km154 k154_2 (VL_at (al := [(0, vR 10 (0)), (1, vI v1)]) (st := []) km154 k154_2 ?_)
        refine V_mono (((h.2 c4).1 c3).2.2 c2) (fun u1 m1 h1 => ?_) (fun _ _ h => h)
        refine V_of ?_
        refine VL_norm km11 k11_0 (VL_at (al := [(0, vR 2 (74))]) (st := []) km11 k11_0 ?_)
        exact h1
    · refine VL_norm km158 k158_2 (VL_at (al := []) (st := []) km158 k158_2 ?_)
      exact ((h.2 c4).2 c3)
/-- BannerParade.readNow, label 0 -/
theorem w161_0 {D : Nat} {v1 : Int32} {m : XM} {Q : Nat → XM → Prop} {E : Nat → XM → Prop}
    (h : VU (D + 2) 33 [vR 5 (278), vR 8 (29), vR 6 (69), vI v1] m (fun m1 => Q 278 m1) E) :
    VA (D + 3) 161 [vR 10 (0), vI v1] m Q E := by
  refine V_of (VL_at (al := [(0, vR 10 (0)), (1, vI v1)]) (st := []) km161 k161_0 ?_)
  refine V_mono h (fun u1 m1 h1 => ?_) (fun _ _ h => h)
  exact h1
/-- BannerParade.readLater, label 0 -/
theorem w162_0 {D : Nat} {v1 : Int32} {m : XM} {Q : Nat → XM → Prop} {E : Nat → XM → Prop}
    (h : VU (D + 2) 33 [vR 5 (278), vR 8 (49), vR 6 (69), vI v1] m (fun m1 => Q 278 m1) E) :
    VA (D + 3) 162 [vR 10 (0), vI v1] m Q E := by
  refine V_of (VL_at (al := [(0, vR 10 (0)), (1, vI v1)]) (st := []) km162 k162_0 ?_)
  refine V_mono h (fun u1 m1 h1 => ?_) (fun _ _ h => h)
  exact h1
/-- BannerParade.foresee, label 0 -/
theorem w163_0 {D : Nat} {v1 : Int32} {m : XM} {Q : XM → Prop} {E : Nat → XM → Prop}
    (h : VU (D + 4) 68 [vR 8 (49), vR 8 (29)] m (fun m1 => VLU (D + 5) 163 1 [(0, vR 10 (0)), (1, vI v1), (2, vI (n32 0))] [] m1 Q E) E) :
    VU (D + 5) 163 [vR 10 (0), vI v1] m Q E := by
  refine V_of (VL_at (al := [(0, vR 10 (0)), (1, vI v1)]) (st := []) km163 k163_0 ?_)
  refine V_mono h (fun u1 m1 h1 => ?_) (fun _ _ h => h)
  exact VL_norm km163 k163_1 h1
/-- BannerParade.foresee, label 1 -/
theorem w163_1 {D : Nat} {v1 : Int32} {v2 : Int32} {m : XM} {Q : XM → Prop} {E : Nat → XM → Prop}
    (h : ((v1 ≤ v2 → Q m) ∧ (¬ v1 ≤ v2 → VU (D + 4) 70 [vR 8 (49)] m (fun m1 => VLU (D + 5) 163 1 [(0, vR 10 (0)), (1, vI v1), (2, vI (v2 + (n32 1)))] [] m1 Q E) E))) :
    VLU (D + 5) 163 1 [(0, vR 10 (0)), (1, vI v1), (2, vI v2)] [] m Q E := by
  refine VL_at (al := [(0, vR 10 (0)), (1, vI v1), (2, vI v2)]) (st := []) km163 k163_1 ?_
  refine And.intro (fun c2 => ?_) (fun c2 => ?_)
  · refine VL_norm km163 k163_3 (VL_at (al := []) (st := []) km163 k163_3 ?_)
    exact (h.1 c2)
  · refine VL_norm km163 k163_2 (VL_at (al := [(0, vR 10 (0)), (1, vI v1), (2, vI v2)]) (st := []) km163 k163_2 ?_)
    refine V_mono (h.2 c2) (fun u1 m1 h1 => ?_) (fun _ _ h => h)
    exact VL_norm km163 k163_1 h1
/-- BannerParade.ticksToDrop, label 0 -/
theorem w164_0 {D : Nat} {v1 : Int32} {m : XM} {Q : Int32 → XM → Prop} {E : Nat → XM → Prop}
    (h : VLI (D + 5) 164 1 [(0, vR 10 (0)), (1, vI v1), (2, vI (n32 1))] [] m Q E) :
    VI (D + 5) 164 [vR 10 (0), vI v1] m Q E := by
  refine V_of (VL_at (al := [(0, vR 10 (0)), (1, vI v1)]) (st := []) km164 k164_0 ?_)
  exact VL_norm km164 k164_1 h
/-- BannerParade.ticksToDrop, label 1 -/
theorem w164_1 {D : Nat} {v1 : Int32} {v2 : Int32} {m : XM} {Q : Int32 → XM → Prop} {E : Nat → XM → Prop}
    (h : ((v1 < v2 → Q (-(n32 1)) m) ∧ (¬ v1 < v2 → VU (D + 4) 70 [vR 8 (49)] m (fun m1 => (((m1 49 2) ≤ (m1 29 2) → VLI (D + 5) 164 1 [(0, vR 10 (0)), (1, vI v1), (2, vI (v2 + (n32 1)))] [] m1 Q E) ∧ (¬ (m1 49 2) ≤ (m1 29 2) → Q v2 m1))) E))) :
    VLI (D + 5) 164 1 [(0, vR 10 (0)), (1, vI v1), (2, vI v2)] [] m Q E := by
  refine VL_at (al := [(0, vR 10 (0)), (1, vI v1), (2, vI v2)]) (st := []) km164 k164_1 ?_
  refine And.intro (fun c3 => ?_) (fun c3 => ?_)
  · refine VL_norm km164 k164_5 (VL_at (al := []) (st := []) km164 k164_5 ?_)
    exact (h.1 c3)
  · refine VL_norm km164 k164_2 (VL_at (al := [(0, vR 10 (0)), (1, vI v1), (2, vI v2)]) (st := []) km164 k164_2 ?_)
    refine V_mono (h.2 c3) (fun u1 m1 h1 => ?_) (fun _ _ h => h)
    refine And.intro (fun c2 => ?_) (fun c2 => ?_)
    · refine VL_norm km164 k164_4 (VL_at (al := [(0, vR 10 (0)), (1, vI v1), (2, vI v2)]) (st := []) km164 k164_4 ?_)
      exact VL_norm km164 k164_1 (h1.1 c2)
    · refine VL_norm km164 k164_3 (VL_at (al := [(2, vI v2)]) (st := []) km164 k164_3 ?_)
      exact (h1.2 c2)
/-- BannerParade.readWords, label 0 -/
theorem w165_0 {D : Nat}  {m : XM} {Q : XM → Prop} {E : Nat → XM → Prop}
    (h : VLU (D + 4) 165 1 [(0, vR 10 (0)), (1, vI (n32 0))] [] m Q E) :
    VU (D + 4) 165 [vR 10 (0)] m Q E := by
  refine V_of (VL_at (al := [(0, vR 10 (0))]) (st := []) km165 k165_0 ?_)
  exact VL_norm km165 k165_1 h
/-- BannerParade.readWords, label 1 -/
theorem w165_1 {D : Nat} {v1 : Int32} {m : XM} {Q : XM → Prop} {E : Nat → XM → Prop}
    (h : (((m 69 0) ≤ v1 → Q m) ∧ (¬ (m 69 0) ≤ v1 → (xin v1 6 = true ∧ (((m (29 + 2) (ix v1)) = (-(n32 1)) → VA (D + 3) 161 [vR 10 (0), vI v1] m (fun x1 m1 => VI (D + 3) 39 [vR 5 (x1), vR 6 (69), vI v1] m1 (fun x2 m2 => ((x2 = (n32 0) → VLU (D + 4) 165 1 [(0, vR 10 (0)), (1, vI (v1 + (n32 1)))] [] m2 Q E) ∧ (¬ x2 = (n32 0) → VLU (D + 4) 165 1 [(0, vR 10 (0)), (1, vI (v1 + (n32 1)))] [] (um m2 (29 + 2) (ix v1) (m2 29 0)) Q E))) E) E) ∧ (¬ (m (29 + 2) (ix v1)) = (-(n32 1)) → VLU (D + 4) 165 1 [(0, vR 10 (0)), (1, vI (v1 + (n32 1)))] [] m Q E)))))) :
    VLU (D + 4) 165 1 [(0, vR 10 (0)), (1, vI v1)] [] m Q E := by
  refine VL_at (al := [(0, vR 10 (0)), (1, vI v1)]) (st := []) km165 k165_1 ?_
  refine And.intro (fun c5 => ?_) (fun c5 => ?_)
  · refine VL_norm km165 k165_6 (VL_at (al := []) (st := []) km165 k165_6 ?_)
    exact (h.1 c5)
  · refine VL_norm km165 k165_2 (VL_at (al := [(0, vR 10 (0)), (1, vI v1)]) (st := []) km165 k165_2 ?_)
    refine And.intro (h.2 c5).1 ?_
    refine And.intro (fun c4 => ?_) (fun c4 => ?_)
    · refine VL_norm km165 k165_3 (VL_at (al := [(0, vR 10 (0)), (1, vI v1)]) (st := []) km165 k165_3 ?_)
      refine V_mono ((h.2 c5).2.1 c4) (fun u1 m1 h1 => ?_) (fun _ _ h => h)
      refine V_mono h1 (fun u2 m2 h2 => ?_) (fun _ _ h => h)
      refine And.intro (fun c3 => ?_) (fun c3 => ?_)
      · refine VL_norm km165 k165_5 (VL_at (al := [(0, vR 10 (0)), (1, vI v1)]) (st := []) km165 k165_5 ?_)
        exact VL_norm km165 k165_1 (h2.1 c3)
      · refine VL_norm km165 k165_4 (VL_at (al := [(0, vR 10 (0)), (1, vI v1)]) (st := []) km165 k165_4 ?_)
        refine And.intro (h.2 c5).1 ?_
        refine VL_norm km165 k165_5 (VL_at (al := [(0, vR 10 (0)), (1, vI v1)]) (st := []) km165 k165_5 ?_)
        exact VL_norm km165 k165_1 (h2.2 c3)
    · refine VL_norm km165 k165_5 (VL_at (al := [(0, vR 10 (0)), (1, vI v1)]) (st := []) km165 k165_5 ?_)
      exact VL_norm km165 k165_1 ((h.2 c5).2.2 c4)
/-- BannerParade.standsWithReadWord, label 0 -/
theorem w166_0 {D : Nat}  {m : XM} {Q : Int32 → XM → Prop} {E : Nat → XM → Prop}
    (h : VLI D 166 1 [(0, vR 10 (0)), (1, vI (n32 0)), (2, vI (n32 0))] [] m Q E) :
    VI D 166 [vR 10 (0)] m Q E := by
  refine V_of (VL_at (al := [(0, vR 10 (0))]) (st := []) km166 k166_0 ?_)
  exact VL_norm km166 k166_1 h
/-- BannerParade.standsWithReadWord, label 1 -/
theorem w166_1 {D : Nat} {v1 : Int32} {v2 : Int32} {m : XM} {Q : Int32 → XM → Prop} {E : Nat → XM → Prop}
    (h : (((m 69 0) ≤ v2 → Q v1 m) ∧ (¬ (m 69 0) ≤ v2 → (xin v2 6 = true ∧ (((m (29 + 2) (ix v2)) = (-(n32 1)) → VLI D 166 1 [(0, vR 10 (0)), (1, vI v1), (2, vI (v2 + (n32 1)))] [] m Q E) ∧ (¬ (m (29 + 2) (ix v2)) = (-(n32 1)) → VLI D 166 1 [(0, vR 10 (0)), (1, vI (v1 ||| ((n32 1) <<< (v2 &&& 31)))), (2, vI (v2 + (n32 1)))] [] m Q E)))))) :
    VLI D 166 1 [(0, vR 10 (0)), (1, vI v1), (2, vI v2)] [] m Q E := by
  refine VL_at (al := [(0, vR 10 (0)), (1, vI v1), (2, vI v2)]) (st := []) km166 k166_1 ?_
  refine And.intro (fun c2 => ?_) (fun c2 => ?_)
  · refine VL_norm km166 k166_5 (VL_at (al := [(1, vI v1)]) (st := []) km166 k166_5 ?_)
    exact (h.1 c2)
  · refine VL_norm km166 k166_2 (VL_at (al := [(0, vR 10 (0)), (1, vI v1), (2, vI v2)]) (st := []) km166 k166_2 ?_)
    refine And.intro (h.2 c2).1 ?_
    refine And.intro (fun c1 => ?_) (fun c1 => ?_)
    · refine VL_norm km166 k166_4 (VL_at (al := [(0, vR 10 (0)), (1, vI v1), (2, vI v2)]) (st := []) km166 k166_4 ?_)
      exact VL_norm km166 k166_1 ((h.2 c2).2.1 c1)
    · refine VL_norm km166 k166_3 (VL_at (al := [(0, vR 10 (0)), (1, vI v1), (2, vI v2)]) (st := []) km166 k166_3 ?_)
      refine VL_norm km166 k166_4 (VL_at (al := [(0, vR 10 (0)), (1, vI (v1 ||| ((n32 1) <<< (v2 &&& 31)))), (2, vI v2)]) (st := []) km166 k166_4 ?_)
      exact VL_norm km166 k166_1 ((h.2 c2).2.2 c1)
/-- BannerParade.standsThatSeeAny, label 0 -/
theorem w167_0 {D : Nat}  {m : XM} {Q : Int32 → XM → Prop} {E : Nat → XM → Prop}
    (h : VLI (D + 3) 167 1 [(0, vR 10 (0)), (1, vI (n32 0)), (2, vI (n32 0))] [] m Q E) :
    VI (D + 3) 167 [vR 10 (0)] m Q E := by
  refine V_of (VL_at (al := [(0, vR 10 (0))]) (st := []) km167 k167_0 ?_)
  exact VL_norm km167 k167_1 h
/-- BannerParade.standsThatSeeAny, label 1 -/
theorem w167_1 {D : Nat} {v1 : Int32} {v2 : Int32} {m : XM} {Q : Int32 → XM → Prop} {E : Nat → XM → Prop}
    (h : (((m 69 0) ≤ v2 → Q v1 m) ∧ (¬ (m 69 0) ≤ v2 → VI (D + 2) 169 [vR 10 (0), vI v2] m (fun x1 m1 => ((x1 = (n32 0) → VLI (D + 3) 167 1 [(0, vR 10 (0)), (1, vI v1), (2, vI (v2 + (n32 1)))] [] m1 Q E) ∧ (¬ x1 = (n32 0) → VLI (D + 3) 167 1 [(0, vR 10 (0)), (1, vI (v1 + (n32 1))), (2, vI (v2 + (n32 1)))] [] m1 Q E))) E))) :
    VLI (D + 3) 167 1 [(0, vR 10 (0)), (1, vI v1), (2, vI v2)] [] m Q E := by
  refine VL_at (al := [(0, vR 10 (0)), (1, vI v1), (2, vI v2)]) (st := []) km167 k167_1 ?_
  refine And.intro (fun c3 => ?_) (fun c3 => ?_)
  · refine VL_norm km167 k167_5 (VL_at (al := [(1, vI v1)]) (st := []) km167 k167_5 ?_)
    exact (h.1 c3)
  · refine VL_norm km167 k167_2 (VL_at (al := [(0, vR 10 (0)), (1, vI v1), (2, vI v2)]) (st := []) km167 k167_2 ?_)
    refine V_mono (h.2 c3) (fun u1 m1 h1 => ?_) (fun _ _ h => h)
    refine And.intro (fun c2 => ?_) (fun c2 => ?_)
    · refine VL_norm km167 k167_4 (VL_at (al := [(0, vR 10 (0)), (1, vI v1), (2, vI v2)]) (st := []) km167 k167_4 ?_)
      exact VL_norm km167 k167_1 (h1.1 c2)
    · refine VL_norm km167 k167_3 (VL_at (al := [(0, vR 10 (0)), (1, vI v1), (2, vI v2)]) (st := []) km167 k167_3 ?_)
      refine VL_norm km167 k167_4 (VL_at (al := [(0, vR 10 (0)), (1, vI (v1 + (n32 1))), (2, vI v2)]) (st := []) km167 k167_4 ?_)
      exact VL_norm km167 k167_1 (h1.2 c2)
/-- BannerParade.standsThatSee, label 0 -/
theorem w168_0 {D : Nat} {v1 : Int32} {m : XM} {Q : Int32 → XM → Prop} {E : Nat → XM → Prop}
    (h : VLI (D + 2) 168 1 [(0, vR 10 (0)), (1, vI v1), (2, vI (n32 0)), (3, vI (n32 0))] [] m Q E) :
    VI (D + 2) 168 [vR 10 (0), vI v1] m Q E := by
  refine V_of (VL_at (al := [(0, vR 10 (0)), (1, vI v1)]) (st := []) km168 k168_0 ?_)
  exact VL_norm km168 k168_1 h
/-- BannerParade.standsThatSee, label 1 -/
theorem w168_1 {D : Nat} {v1 : Int32} {v2 : Int32} {v3 : Int32} {m : XM} {Q : Int32 → XM → Prop} {E : Nat → XM → Prop}
    (h : (((m 69 0) ≤ v3 → Q v2 m) ∧ (¬ (m 69 0) ≤ v3 → (xin v3 6 = true ∧ VI (D + 1) 79 [vR 8 (29), vI v1, vI (m (69 + 2) (ix v3))] m (fun x1 m1 => ((x1 = (n32 0) → VLI (D + 2) 168 1 [(0, vR 10 (0)), (1, vI v1), (2, vI v2), (3, vI (v3 + (n32 1)))] [] m1 Q E) ∧ (¬ x1 = (n32 0) → VLI (D + 2) 168 1 [(0, vR 10 (0)), (1, vI v1), (2, vI (v2 + (n32 1))), (3, vI (v3 + (n32 1)))] [] m1 Q E))) E)))) :
    VLI (D + 2) 168 1 [(0, vR 10 (0)), (1, vI v1), (2, vI v2), (3, vI v3)] [] m Q E := by
  refine VL_at (al := [(0, vR 10 (0)), (1, vI v1), (2, vI v2), (3, vI v3)]) (st := []) km168 k168_1 ?_
  refine And.intro (fun c3 => ?_) (fun c3 => ?_)
  · refine VL_norm km168 k168_5 (VL_at (al := [(2, vI v2)]) (st := []) km168 k168_5 ?_)
    exact (h.1 c3)
  · refine VL_norm km168 k168_2 (VL_at (al := [(0, vR 10 (0)), (1, vI v1), (2, vI v2), (3, vI v3)]) (st := []) km168 k168_2 ?_)
    refine And.intro (h.2 c3).1 ?_
    refine V_mono (h.2 c3).2 (fun u1 m1 h1 => ?_) (fun _ _ h => h)
    refine And.intro (fun c2 => ?_) (fun c2 => ?_)
    · refine VL_norm km168 k168_4 (VL_at (al := [(0, vR 10 (0)), (1, vI v1), (2, vI v2), (3, vI v3)]) (st := []) km168 k168_4 ?_)
      exact VL_norm km168 k168_1 (h1.1 c2)
    · refine VL_norm km168 k168_3 (VL_at (al := [(0, vR 10 (0)), (1, vI v1), (2, vI v2), (3, vI v3)]) (st := []) km168 k168_3 ?_)
      refine VL_norm km168 k168_4 (VL_at (al := [(0, vR 10 (0)), (1, vI v1), (2, vI (v2 + (n32 1))), (3, vI v3)]) (st := []) km168 k168_4 ?_)
      exact VL_norm km168 k168_1 (h1.2 c2)
/-- BannerParade.bearersSeenFrom, label 0 -/
theorem w169_0 {D : Nat} {v1 : Int32} {m : XM} {Q : Int32 → XM → Prop} {E : Nat → XM → Prop}
    (h : VLI (D + 2) 169 1 [(0, vR 10 (0)), (1, vI v1), (2, vI (n32 0)), (3, vI (n32 0))] [] m Q E) :
    VI (D + 2) 169 [vR 10 (0), vI v1] m Q E := by
  refine V_of (VL_at (al := [(0, vR 10 (0)), (1, vI v1)]) (st := []) km169 k169_0 ?_)
  exact VL_norm km169 k169_1 h
/-- BannerParade.bearersSeenFrom, label 1 -/
theorem w169_1 {D : Nat} {v1 : Int32} {v2 : Int32} {v3 : Int32} {m : XM} {Q : Int32 → XM → Prop} {E : Nat → XM → Prop}
    (h : (((m (29 + 3) 0) ≤ v3 → Q v2 m) ∧ (¬ (m (29 + 3) 0) ≤ v3 → (xin v1 6 = true ∧ VI (D + 1) 79 [vR 8 (29), vI v3, vI (m (69 + 2) (ix v1))] m (fun x1 m1 => ((x1 = (n32 0) → VLI (D + 2) 169 1 [(0, vR 10 (0)), (1, vI v1), (2, vI v2), (3, vI (v3 + (n32 1)))] [] m1 Q E) ∧ (¬ x1 = (n32 0) → VLI (D + 2) 169 1 [(0, vR 10 (0)), (1, vI v1), (2, vI (v2 ||| ((n32 1) <<< (v3 &&& 31)))), (3, vI (v3 + (n32 1)))] [] m1 Q E))) E)))) :
    VLI (D + 2) 169 1 [(0, vR 10 (0)), (1, vI v1), (2, vI v2), (3, vI v3)] [] m Q E := by
  refine VL_at (al := [(0, vR 10 (0)), (1, vI v1), (2, vI v2), (3, vI v3)]) (st := []) km169 k169_1 ?_
  refine And.intro (fun c3 => ?_) (fun c3 => ?_)
  · refine VL_norm km169 k169_5 (VL_at (al := [(2, vI v2)]) (st := []) km169 k169_5 ?_)
    exact (h.1 c3)
  · refine VL_norm km169 k169_2 (VL_at (al := [(0, vR 10 (0)), (1, vI v1), (2, vI v2), (3, vI v3)]) (st := []) km169 k169_2 ?_)
    refine And.intro (h.2 c3).1 ?_
    refine V_mono (h.2 c3).2 (fun u1 m1 h1 => ?_) (fun _ _ h => h)
    refine And.intro (fun c2 => ?_) (fun c2 => ?_)
    · refine VL_norm km169 k169_4 (VL_at (al := [(0, vR 10 (0)), (1, vI v1), (2, vI v2), (3, vI v3)]) (st := []) km169 k169_4 ?_)
      exact VL_norm km169 k169_1 (h1.1 c2)
    · refine VL_norm km169 k169_3 (VL_at (al := [(0, vR 10 (0)), (1, vI v1), (2, vI v2), (3, vI v3)]) (st := []) km169 k169_3 ?_)
      refine VL_norm km169 k169_4 (VL_at (al := [(0, vR 10 (0)), (1, vI v1), (2, vI (v2 ||| ((n32 1) <<< (v3 &&& 31)))), (3, vI v3)]) (st := []) km169 k169_4 ?_)
      exact VL_norm km169 k169_1 (h1.2 c2)
/-- BannerParade.floatBits, label 0 -/
theorem w170_0 {D : Nat} {v0 : UInt32} {m : XM} {Q : Int32 → XM → Prop} {E : Nat → XM → Prop}
    (h : (((n32 0) < (Op.cmpValue (FP.fcmp v0 FP.fconst0) .g) → VLI D 170 3 [(1, vI (n32 127)), (2, vF v0), (3, vI (n32 0))] [] m Q E) ∧ (¬ (n32 0) < (Op.cmpValue (FP.fcmp v0 FP.fconst0) .g) → Q (n32 0) m))) :
    VI D 170 [vF v0] m Q E := by
  refine V_of (VL_at (al := [(0, vF v0)]) (st := []) km170 k170_0 ?_)
  refine And.intro (fun c1 => ?_) (fun c1 => ?_)
  · refine VL_norm km170 k170_2 (VL_at (al := [(0, vF v0)]) (st := []) km170 k170_2 ?_)
    exact VL_norm km170 k170_3 (h.1 c1)
  · refine VL_norm km170 k170_1 (VL_at (al := []) (st := []) km170 k170_1 ?_)
    exact (h.2 c1)
/-- BannerParade.floatBits, label 3 -/
theorem w170_3 {D : Nat} {v1 : Int32} {v2 : UInt32} {v3 : Int32} {m : XM} {Q : Int32 → XM → Prop} {E : Nat → XM → Prop}
    (h : (((n32 60) ≤ v3 → ((FP.fsub v2 FP.fconst1) &&& 0x7fffffff ≤ 0x7f800000 ∧ ((FP.fmul (FP.fsub v2 FP.fconst1) (UInt32.ofNat 1258291200)) &&& 0x7fffffff ≤ 0x7f800000 ∧ Q ((v1 <<< ((n32 23) &&& 31)) + ((FP.f2i (FP.fmul (FP.fsub v2 FP.fconst1) (UInt32.ofNat 1258291200))))) m))) ∧ (¬ (n32 60) ≤ v3 → (((n32 0) ≤ (Op.cmpValue (FP.fcmp v2 FP.fconst1) .g) → ((FP.fsub v2 FP.fconst1) &&& 0x7fffffff ≤ 0x7f800000 ∧ ((FP.fmul (FP.fsub v2 FP.fconst1) (UInt32.ofNat 1258291200)) &&& 0x7fffffff ≤ 0x7f800000 ∧ Q ((v1 <<< ((n32 23) &&& 31)) + ((FP.f2i (FP.fmul (FP.fsub v2 FP.fconst1) (UInt32.ofNat 1258291200))))) m))) ∧ (¬ (n32 0) ≤ (Op.cmpValue (FP.fcmp v2 FP.fconst1) .g) → ((FP.fmul v2 FP.fconst2) &&& 0x7fffffff ≤ 0x7f800000 ∧ VLI D 170 3 [(1, vI (v1 + (-(n32 1)))), (2, vF (FP.fmul v2 FP.fconst2)), (3, vI (v3 + (n32 1)))] [] m Q E)))))) :
    VLI D 170 3 [(1, vI v1), (2, vF v2), (3, vI v3)] [] m Q E := by
  refine VL_at (al := [(1, vI v1), (2, vF v2), (3, vI v3)]) (st := []) km170 k170_3 ?_
  refine And.intro (fun c2 => ?_) (fun c2 => ?_)
  · refine VL_norm km170 k170_6 (VL_at (al := [(1, vI v1), (2, vF v2)]) (st := []) km170 k170_6 ?_)
    refine And.intro (h.1 c2).1 ?_
    refine And.intro (h.1 c2).2.1 ?_
    exact (h.1 c2).2.2
  · refine VL_norm km170 k170_4 (VL_at (al := [(1, vI v1), (2, vF v2), (3, vI v3)]) (st := []) km170 k170_4 ?_)
    refine And.intro (fun c1 => ?_) (fun c1 => ?_)
    · refine VL_norm km170 k170_6 (VL_at (al := [(1, vI v1), (2, vF v2)]) (st := []) km170 k170_6 ?_)
      refine And.intro ((h.2 c2).1 c1).1 ?_
      refine And.intro ((h.2 c2).1 c1).2.1 ?_
      exact ((h.2 c2).1 c1).2.2
    · refine VL_norm km170 k170_5 (VL_at (al := [(1, vI v1), (2, vF v2), (3, vI v3)]) (st := []) km170 k170_5 ?_)
      refine And.intro ((h.2 c2).2 c1).1 ?_
      exact VL_norm km170 k170_3 ((h.2 c2).2 c1).2
/-- BannerParade.doubleBits, label 0 -/
theorem w171_0 {D : Nat} {v0 : UInt64} {m : XM} {Q : Int64 → XM → Prop} {E : Nat → XM → Prop}
    (h : (((n32 0) < (Op.cmpValue (FP.dcmp v0 FP.dconst0) .g) → VLJ D 171 3 [(2, vJ (Int64.ofInt 1023)), (4, vD v0), (6, vI (n32 0))] [] m Q E) ∧ (¬ (n32 0) < (Op.cmpValue (FP.dcmp v0 FP.dconst0) .g) → Q (Int64.ofNat 0) m))) :
    VJ D 171 [vD v0] m Q E := by
  refine V_of (VL_at (al := [(0, vD v0)]) (st := []) km171 k171_0 ?_)
  refine And.intro (fun c1 => ?_) (fun c1 => ?_)
  · refine VL_norm km171 k171_2 (VL_at (al := [(0, vD v0)]) (st := []) km171 k171_2 ?_)
    exact VL_norm km171 k171_3 (h.1 c1)
  · refine VL_norm km171 k171_1 (VL_at (al := []) (st := []) km171 k171_1 ?_)
    exact (h.2 c1)
/-- BannerParade.doubleBits, label 3 -/
theorem w171_3 {D : Nat} {v2 : Int64} {v4 : UInt64} {v6 : Int32} {m : XM} {Q : Int64 → XM → Prop} {E : Nat → XM → Prop}
    (h : (((n32 60) ≤ v6 → VLJ D 171 7 [(2, vJ v2), (4, vD v4), (6, vI (n32 0))] [] m Q E) ∧ (¬ (n32 60) ≤ v6 → (((n32 0) ≤ (Op.cmpValue (FP.dcmp v4 FP.dconst1) .g) → VLJ D 171 7 [(2, vJ v2), (4, vD v4), (6, vI (n32 0))] [] m Q E) ∧ (¬ (n32 0) ≤ (Op.cmpValue (FP.dcmp v4 FP.dconst1) .g) → ((FP.dmul v4 (UInt64.ofNat 4611686018427387904)) &&& 0x7fffffffffffffff ≤ 0x7ff0000000000000 ∧ VLJ D 171 3 [(2, vJ (v2 - (Int64.ofNat 1))), (4, vD (FP.dmul v4 (UInt64.ofNat 4611686018427387904))), (6, vI (v6 + (n32 1)))] [] m Q E)))))) :
    VLJ D 171 3 [(2, vJ v2), (4, vD v4), (6, vI v6)] [] m Q E := by
  refine VL_at (al := [(2, vJ v2), (4, vD v4), (6, vI v6)]) (st := []) km171 k171_3 ?_
  refine And.intro (fun c2 => ?_) (fun c2 => ?_)
  · refine VL_norm km171 k171_6 (VL_at (al := [(2, vJ v2), (4, vD v4)]) (st := []) km171 k171_6 ?_)
    exact VL_norm km171 k171_7 (h.1 c2)
  · refine VL_norm km171 k171_4 (VL_at (al := [(2, vJ v2), (4, vD v4), (6, vI v6)]) (st := []) km171 k171_4 ?_)
    refine And.intro (fun c1 => ?_) (fun c1 => ?_)
    · refine VL_norm km171 k171_6 (VL_at (al := [(2, vJ v2), (4, vD v4)]) (st := []) km171 k171_6 ?_)
      exact VL_norm km171 k171_7 ((h.2 c2).1 c1)
    · refine VL_norm km171 k171_5 (VL_at (al := [(2, vJ v2), (4, vD v4), (6, vI v6)]) (st := []) km171 k171_5 ?_)
      refine And.intro ((h.2 c2).2 c1).1 ?_
      exact VL_norm km171 k171_3 ((h.2 c2).2 c1).2
/-- BannerParade.doubleBits, label 7 -/
theorem w171_7 {D : Nat} {v2 : Int64} {v4 : UInt64} {v6 : Int32} {m : XM} {Q : Int64 → XM → Prop} {E : Nat → XM → Prop}
    (h : (((n32 60) ≤ v6 → ((FP.dsub v4 FP.dconst1) &&& 0x7fffffffffffffff ≤ 0x7ff0000000000000 ∧ ((FP.dmul (FP.dsub v4 FP.dconst1) (UInt64.ofNat 4841369599423283200)) &&& 0x7fffffffffffffff ≤ 0x7ff0000000000000 ∧ Q ((v2 <<< (((n32 52)).toInt64 &&& 63)) + ((FP.d2l (FP.dmul (FP.dsub v4 FP.dconst1) (UInt64.ofNat 4841369599423283200))))) m))) ∧ (¬ (n32 60) ≤ v6 → (((Op.cmpValue (FP.dcmp v4 (UInt64.ofNat 4611686018427387904)) .l) < (n32 0) → ((FP.dsub v4 FP.dconst1) &&& 0x7fffffffffffffff ≤ 0x7ff0000000000000 ∧ ((FP.dmul (FP.dsub v4 FP.dconst1) (UInt64.ofNat 4841369599423283200)) &&& 0x7fffffffffffffff ≤ 0x7ff0000000000000 ∧ Q ((v2 <<< (((n32 52)).toInt64 &&& 63)) + ((FP.d2l (FP.dmul (FP.dsub v4 FP.dconst1) (UInt64.ofNat 4841369599423283200))))) m))) ∧ (¬ (Op.cmpValue (FP.dcmp v4 (UInt64.ofNat 4611686018427387904)) .l) < (n32 0) → ((FP.ddiv v4 (UInt64.ofNat 4611686018427387904)) &&& 0x7fffffffffffffff ≤ 0x7ff0000000000000 ∧ VLJ D 171 7 [(2, vJ (v2 + (Int64.ofNat 1))), (4, vD (FP.ddiv v4 (UInt64.ofNat 4611686018427387904))), (6, vI (v6 + (n32 1)))] [] m Q E)))))) :
    VLJ D 171 7 [(2, vJ v2), (4, vD v4), (6, vI v6)] [] m Q E := by
  refine VL_at (al := [(2, vJ v2), (4, vD v4), (6, vI v6)]) (st := []) km171 k171_7 ?_
  refine And.intro (fun c2 => ?_) (fun c2 => ?_)
  · refine VL_norm km171 k171_10 (VL_at (al := [(2, vJ v2), (4, vD v4)]) (st := []) km171 k171_10 ?_)
    refine And.intro (h.1 c2).1 ?_
    refine And.intro (h.1 c2).2.1 ?_
    exact (h.1 c2).2.2
  · refine VL_norm km171 k171_8 (VL_at (al := [(2, vJ v2), (4, vD v4), (6, vI v6)]) (st := []) km171 k171_8 ?_)
    refine And.intro (fun c1 => ?_) (fun c1 => ?_)
    · refine VL_norm km171 k171_10 (VL_at (al := [(2, vJ v2), (4, vD v4)]) (st := []) km171 k171_10 ?_)
      refine And.intro ((h.2 c2).1 c1).1 ?_
      refine And.intro ((h.2 c2).1 c1).2.1 ?_
      exact ((h.2 c2).1 c1).2.2
    · refine VL_norm km171 k171_9 (VL_at (al := [(2, vJ v2), (4, vD v4), (6, vI v6)]) (st := []) km171 k171_9 ?_)
      refine And.intro ((h.2 c2).2 c1).1 ?_
      exact VL_norm km171 k171_7 ((h.2 c2).2 c1).2
/-- BannerParade.copyNumbers, label 0 -/
theorem w172n12_0 {D : Nat} {a0 : Nat} {a1 : Nat} {m : XM} {Q : XM → Prop} {E : Nat → XM → Prop}
    (h : VLU D 172 1 [(0, vR 200012 (a0)), (1, vR 200012 (a1)), (2, vI (n32 0))] [] m Q E) :
    VU D 172 [vR 200012 (a0), vR 200012 (a1)] m Q E := by
  refine V_of (VL_at (al := [(0, vR 200012 (a0)), (1, vR 200012 (a1))]) (st := []) km172 k172_0 ?_)
  exact VL_norm km172 k172_1 h
/-- BannerParade.copyNumbers, label 1 -/
theorem w172n12_1 {D : Nat} {a0 : Nat} {a1 : Nat} {v2 : Int32} {m : XM} {Q : XM → Prop} {E : Nat → XM → Prop}
    (h : (((n32 12) ≤ v2 → Q m) ∧ (¬ (n32 12) ≤ v2 → (xin v2 12 = true ∧ VLU D 172 1 [(0, vR 200012 (a0)), (1, vR 200012 (a1)), (2, vI (v2 + (n32 1)))] [] (um m (a1) (ix v2) (m a0 (ix v2))) Q E)))) :
    VLU D 172 1 [(0, vR 200012 (a0)), (1, vR 200012 (a1)), (2, vI v2)] [] m Q E := by
  refine VL_at (al := [(0, vR 200012 (a0)), (1, vR 200012 (a1)), (2, vI v2)]) (st := []) km172 k172_1 ?_
  refine And.intro (fun c1 => ?_) (fun c1 => ?_)
  · refine VL_norm km172 k172_4 (VL_at (al := []) (st := []) km172 k172_4 ?_)
    exact (h.1 c1)
  · refine VL_norm km172 k172_2 (VL_at (al := [(0, vR 200012 (a0)), (1, vR 200012 (a1)), (2, vI v2)]) (st := []) km172 k172_2 ?_)
    refine And.intro (fun c => absurd c c1) (fun _ => ?_)
    refine VL_norm km172 k172_3 (VL_at (al := [(0, vR 200012 (a0)), (1, vR 200012 (a1)), (2, vI v2)]) (st := []) km172 k172_3 ?_)
    refine And.intro (h.2 c1).1 ?_
    refine And.intro (h.2 c1).1 ?_
    exact VL_norm km172 k172_1 (h.2 c1).2
/-- BannerParade.copyNumbers, label 0 -/
theorem w172n6_0 {D : Nat} {a0 : Nat} {a1 : Nat} {m : XM} {Q : XM → Prop} {E : Nat → XM → Prop}
    (h : VLU D 172 1 [(0, vR 200006 (a0)), (1, vR 200006 (a1)), (2, vI (n32 0))] [] m Q E) :
    VU D 172 [vR 200006 (a0), vR 200006 (a1)] m Q E := by
  refine V_of (VL_at (al := [(0, vR 200006 (a0)), (1, vR 200006 (a1))]) (st := []) km172 k172_0 ?_)
  exact VL_norm km172 k172_1 h
/-- BannerParade.copyNumbers, label 1 -/
theorem w172n6_1 {D : Nat} {a0 : Nat} {a1 : Nat} {v2 : Int32} {m : XM} {Q : XM → Prop} {E : Nat → XM → Prop}
    (h : (((n32 6) ≤ v2 → Q m) ∧ (¬ (n32 6) ≤ v2 → (xin v2 6 = true ∧ VLU D 172 1 [(0, vR 200006 (a0)), (1, vR 200006 (a1)), (2, vI (v2 + (n32 1)))] [] (um m (a1) (ix v2) (m a0 (ix v2))) Q E)))) :
    VLU D 172 1 [(0, vR 200006 (a0)), (1, vR 200006 (a1)), (2, vI v2)] [] m Q E := by
  refine VL_at (al := [(0, vR 200006 (a0)), (1, vR 200006 (a1)), (2, vI v2)]) (st := []) km172 k172_1 ?_
  refine And.intro (fun c1 => ?_) (fun c1 => ?_)
  · refine VL_norm km172 k172_4 (VL_at (al := []) (st := []) km172 k172_4 ?_)
    exact (h.1 c1)
  · refine VL_norm km172 k172_2 (VL_at (al := [(0, vR 200006 (a0)), (1, vR 200006 (a1)), (2, vI v2)]) (st := []) km172 k172_2 ?_)
    refine And.intro (fun c => absurd c c1) (fun _ => ?_)
    refine VL_norm km172 k172_3 (VL_at (al := [(0, vR 200006 (a0)), (1, vR 200006 (a1)), (2, vI v2)]) (st := []) km172 k172_3 ?_)
    refine And.intro (h.2 c1).1 ?_
    refine And.intro (h.2 c1).1 ?_
    exact VL_norm km172 k172_1 (h.2 c1).2
/-- BannerParade.copyNumbers, label 0 -/
theorem w172n48_0 {D : Nat} {a0 : Nat} {a1 : Nat} {m : XM} {Q : XM → Prop} {E : Nat → XM → Prop}
    (h : VLU D 172 1 [(0, vR 200048 (a0)), (1, vR 200048 (a1)), (2, vI (n32 0))] [] m Q E) :
    VU D 172 [vR 200048 (a0), vR 200048 (a1)] m Q E := by
  refine V_of (VL_at (al := [(0, vR 200048 (a0)), (1, vR 200048 (a1))]) (st := []) km172 k172_0 ?_)
  exact VL_norm km172 k172_1 h
/-- BannerParade.copyNumbers, label 1 -/
theorem w172n48_1 {D : Nat} {a0 : Nat} {a1 : Nat} {v2 : Int32} {m : XM} {Q : XM → Prop} {E : Nat → XM → Prop}
    (h : (((n32 48) ≤ v2 → Q m) ∧ (¬ (n32 48) ≤ v2 → (xin v2 48 = true ∧ VLU D 172 1 [(0, vR 200048 (a0)), (1, vR 200048 (a1)), (2, vI (v2 + (n32 1)))] [] (um m (a1) (ix v2) (m a0 (ix v2))) Q E)))) :
    VLU D 172 1 [(0, vR 200048 (a0)), (1, vR 200048 (a1)), (2, vI v2)] [] m Q E := by
  refine VL_at (al := [(0, vR 200048 (a0)), (1, vR 200048 (a1)), (2, vI v2)]) (st := []) km172 k172_1 ?_
  refine And.intro (fun c1 => ?_) (fun c1 => ?_)
  · refine VL_norm km172 k172_4 (VL_at (al := []) (st := []) km172 k172_4 ?_)
    exact (h.1 c1)
  · refine VL_norm km172 k172_2 (VL_at (al := [(0, vR 200048 (a0)), (1, vR 200048 (a1)), (2, vI v2)]) (st := []) km172 k172_2 ?_)
    refine And.intro (fun c => absurd c c1) (fun _ => ?_)
    refine VL_norm km172 k172_3 (VL_at (al := [(0, vR 200048 (a0)), (1, vR 200048 (a1)), (2, vI v2)]) (st := []) km172 k172_3 ?_)
    refine And.intro (h.2 c1).1 ?_
    refine And.intro (h.2 c1).1 ?_
    exact VL_norm km172 k172_1 (h.2 c1).2
/-- BannerParadeModel.may, label 0 -/
theorem w176_0 {D : Nat} {v1 : Int32} {v2 : Int32} {v3 : Int32} {m : XM} {Q : Int32 → XM → Prop} {E : Nat → XM → Prop}
    (h : ((v1 = (n32 0) → ((((um m (283) 0 (n32 1)) 283 0) = (n32 0) → Q (n32 1) (um m (283) 0 (n32 1))) ∧ (¬ ((um m (283) 0 (n32 1)) 283 0) = (n32 0) → Q (n32 0) (um m (283) 0 (n32 1))))) ∧ (¬ v1 = (n32 0) → ((v2 = (n32 0) → ((((um m (283) 0 (n32 2)) 283 0) = (n32 0) → Q (n32 1) (um m (283) 0 (n32 2))) ∧ (¬ ((um m (283) 0 (n32 2)) 283 0) = (n32 0) → Q (n32 0) (um m (283) 0 (n32 2))))) ∧ (¬ v2 = (n32 0) → ((v3 = (n32 0) → ((((um m (283) 0 (n32 3)) 283 0) = (n32 0) → Q (n32 1) (um m (283) 0 (n32 3))) ∧ (¬ ((um m (283) 0 (n32 3)) 283 0) = (n32 0) → Q (n32 0) (um m (283) 0 (n32 3))))) ∧ (¬ v3 = (n32 0) → ((((um m (283) 0 (n32 0)) 283 0) = (n32 0) → Q (n32 1) (um m (283) 0 (n32 0))) ∧ (¬ ((um m (283) 0 (n32 0)) 283 0) = (n32 0) → Q (n32 0) (um m (283) 0 (n32 0))))))))))) :
    VI D 176 [vR 11 (283), vI v1, vI v2, vI v3] m Q E := by
  refine V_of (VL_at (al := [(0, vR 11 (283)), (1, vI v1), (2, vI v2), (3, vI v3)]) (st := []) km176 k176_0 ?_)
  refine And.intro (fun c7 => ?_) (fun c7 => ?_)
  · refine VL_norm km176 k176_1 (VL_at (al := [(0, vR 11 (283))]) (st := [vR 11 (283)]) km176 k176_1 ?_)
    refine VL_norm km176 k176_7 (VL_at (al := [(0, vR 11 (283))]) (st := [vI (n32 1), vR 11 (283)]) km176 k176_7 ?_)
    refine And.intro (fun c1 => ?_) (fun c1 => ?_)
    · refine VL_norm km176 k176_8 (VL_at (al := []) (st := []) km176 k176_8 ?_)
      refine VL_norm km176 k176_10 (VL_at (al := []) (st := [vI (n32 1)]) km176 k176_10 ?_)
      refine And.intro xrt21 ?_
      exact ((h.1 c7).1 c1)
    · refine VL_norm km176 k176_9 (VL_at (al := []) (st := []) km176 k176_9 ?_)
      refine VL_norm km176 k176_10 (VL_at (al := []) (st := [vI (n32 0)]) km176 k176_10 ?_)
      refine And.intro xrt20 ?_
      exact ((h.1 c7).2 c1)
  · refine VL_norm km176 k176_2 (VL_at (al := [(0, vR 11 (283)), (2, vI v2), (3, vI v3)]) (st := [vR 11 (283)]) km176 k176_2 ?_)
    refine And.intro (fun c6 => ?_) (fun c6 => ?_)
    · refine VL_norm km176 k176_3 (VL_at (al := [(0, vR 11 (283))]) (st := [vR 11 (283)]) km176 k176_3 ?_)
      refine VL_norm km176 k176_7 (VL_at (al := [(0, vR 11 (283))]) (st := [vI (n32 2), vR 11 (283)]) km176 k176_7 ?_)
      refine And.intro (fun c2 => ?_) (fun c2 => ?_)
      · refine VL_norm km176 k176_8 (VL_at (al := []) (st := []) km176 k176_8 ?_)
        refine VL_norm km176 k176_10 (VL_at (al := []) (st := [vI (n32 1)]) km176 k176_10 ?_)
        refine And.intro xrt21 ?_
        exact (((h.2 c7).1 c6).1 c2)
      · refine VL_norm km176 k176_9 (VL_at (al := []) (st := []) km176 k176_9 ?_)
        refine VL_norm km176 k176_10 (VL_at (al := []) (st := [vI (n32 0)]) km176 k176_10 ?_)
        refine And.intro xrt20 ?_
        exact (((h.2 c7).1 c6).2 c2)
    · refine VL_norm km176 k176_4 (VL_at (al := [(0, vR 11 (283)), (3, vI v3)]) (st := [vR 11 (283)]) km176 k176_4 ?_)
      refine And.intro (fun c5 => ?_) (fun c5 => ?_)
      · refine VL_norm km176 k176_6 (VL_at (al := [(0, vR 11 (283))]) (st := [vR 11 (283)]) km176 k176_6 ?_)
        refine VL_norm km176 k176_7 (VL_at (al := [(0, vR 11 (283))]) (st := [vI (n32 3), vR 11 (283)]) km176 k176_7 ?_)
        refine And.intro (fun c3 => ?_) (fun c3 => ?_)
        · refine VL_norm km176 k176_8 (VL_at (al := []) (st := []) km176 k176_8 ?_)
          refine VL_norm km176 k176_10 (VL_at (al := []) (st := [vI (n32 1)]) km176 k176_10 ?_)
          refine And.intro xrt21 ?_
          exact ((((h.2 c7).2 c6).1 c5).1 c3)
        · refine VL_norm km176 k176_9 (VL_at (al := []) (st := []) km176 k176_9 ?_)
          refine VL_norm km176 k176_10 (VL_at (al := []) (st := [vI (n32 0)]) km176 k176_10 ?_)
          refine And.intro xrt20 ?_
          exact ((((h.2 c7).2 c6).1 c5).2 c3)
      · refine VL_norm km176 k176_5 (VL_at (al := [(0, vR 11 (283))]) (st := [vR 11 (283)]) km176 k176_5 ?_)
        refine VL_norm km176 k176_7 (VL_at (al := [(0, vR 11 (283))]) (st := [vI (n32 0), vR 11 (283)]) km176 k176_7 ?_)
        refine And.intro (fun c4 => ?_) (fun c4 => ?_)
        · refine VL_norm km176 k176_8 (VL_at (al := []) (st := []) km176 k176_8 ?_)
          refine VL_norm km176 k176_10 (VL_at (al := []) (st := [vI (n32 1)]) km176 k176_10 ?_)
          refine And.intro xrt21 ?_
          exact ((((h.2 c7).2 c6).2 c5).1 c4)
        · refine VL_norm km176 k176_9 (VL_at (al := []) (st := []) km176 k176_9 ?_)
          refine VL_norm km176 k176_10 (VL_at (al := []) (st := [vI (n32 0)]) km176 k176_10 ?_)
          refine And.intro xrt20 ?_
          exact ((((h.2 c7).2 c6).2 c5).2 c4)
/-- BannerParadeModel.mayTwo, label 0 -/
theorem w177_0 {D : Nat} {v1 : Int32} {v2 : Int32} {m : XM} {Q : Int32 → XM → Prop} {E : Nat → XM → Prop}
    (h : VI D 176 [vR 11 (283), vI v1, vI v2, vI (n32 1)] m (fun x1 m1 => (xrt 2 x1 = true ∧ Q x1 m1)) E) :
    VI (D + 1) 177 [vR 11 (283), vI v1, vI v2] m Q E := by
  refine V_of (VL_at (al := [(0, vR 11 (283)), (1, vI v1), (2, vI v2)]) (st := []) km177 k177_0 ?_)
  refine V_mono h (fun u1 m1 h1 => ?_) (fun _ _ h => h)
  refine And.intro h1.1 ?_
  exact h1.2
/-- BannerParadeModel.lays, label 0 -/
theorem w178a_0 {D : Nat} {a0 : Nat} {v1 : Int32} {a2 : Nat} {v3 : Int32} {m : XM} {Q : XM → Prop} {E : Nat → XM → Prop}
    (h : VLU D 178 1 [(0, vR 200243 (a0)), (1, vI v1), (2, vR 200243 (a2)), (3, vI v3), (4, vI (n32 0))] [] m Q E) :
    VU D 178 [vR 200243 (a0), vI v1, vR 200243 (a2), vI v3] m Q E := by
  refine V_of (VL_at (al := [(0, vR 200243 (a0)), (1, vI v1), (2, vR 200243 (a2)), (3, vI v3)]) (st := []) km178 k178_0 ?_)
  exact VL_norm km178 k178_1 h
/-- BannerParadeModel.lays, label 1 -/
theorem w178a_1 {D : Nat} {a0 : Nat} {v1 : Int32} {a2 : Nat} {v3 : Int32} {v4 : Int32} {m : XM} {Q : XM → Prop} {E : Nat → XM → Prop}
    (h : (((n32 243) ≤ v4 → Q m) ∧ (¬ (n32 243) ≤ v4 → (xin (v1 + v4) 243 = true ∧ (xin (v3 + v4) 243 = true ∧ VLU D 178 1 [(0, vR 200243 (a0)), (1, vI v1), (2, vR 200243 (a2)), (3, vI v3), (4, vI (v4 + (n32 1)))] [] (um m (a2) (ix (v3 + v4)) (m a0 (ix (v1 + v4)))) Q E))))) :
    VLU D 178 1 [(0, vR 200243 (a0)), (1, vI v1), (2, vR 200243 (a2)), (3, vI v3), (4, vI v4)] [] m Q E := by
  refine VL_at (al := [(0, vR 200243 (a0)), (1, vI v1), (2, vR 200243 (a2)), (3, vI v3), (4, vI v4)]) (st := []) km178 k178_1 ?_
  refine And.intro (fun c1 => ?_) (fun c1 => ?_)
  · refine VL_norm km178 k178_3 (VL_at (al := []) (st := []) km178 k178_3 ?_)
    exact (h.1 c1)
  · refine VL_norm km178 k178_2 (VL_at (al := [(0, vR 200243 (a0)), (1, vI v1), (2, vR 200243 (a2)), (3, vI v3), (4, vI v4)]) (st := []) km178 k178_2 ?_)
    refine And.intro (h.2 c1).1 ?_
    refine And.intro (h.2 c1).2.1 ?_
    exact VL_norm km178 k178_1 (h.2 c1).2.2
/-- BannerParadeModel.lays, label 0 -/
theorem w178b_0 {D : Nat} {a0 : Nat} {v1 : Int32} {a2 : Nat} {v3 : Int32} {m : XM} {Q : XM → Prop} {E : Nat → XM → Prop}
    (h : VLU D 178 1 [(0, vR 200243 (a0)), (1, vI v1), (2, vR 201944 (a2)), (3, vI v3), (4, vI (n32 0))] [] m Q E) :
    VU D 178 [vR 200243 (a0), vI v1, vR 201944 (a2), vI v3] m Q E := by
  refine V_of (VL_at (al := [(0, vR 200243 (a0)), (1, vI v1), (2, vR 201944 (a2)), (3, vI v3)]) (st := []) km178 k178_0 ?_)
  exact VL_norm km178 k178_1 h
/-- BannerParadeModel.lays, label 1 -/
theorem w178b_1 {D : Nat} {a0 : Nat} {v1 : Int32} {a2 : Nat} {v3 : Int32} {v4 : Int32} {m : XM} {Q : XM → Prop} {E : Nat → XM → Prop}
    (h : (((n32 243) ≤ v4 → Q m) ∧ (¬ (n32 243) ≤ v4 → (xin (v1 + v4) 243 = true ∧ (xin (v3 + v4) 1944 = true ∧ VLU D 178 1 [(0, vR 200243 (a0)), (1, vI v1), (2, vR 201944 (a2)), (3, vI v3), (4, vI (v4 + (n32 1)))] [] (um m (a2) (ix (v3 + v4)) (m a0 (ix (v1 + v4)))) Q E))))) :
    VLU D 178 1 [(0, vR 200243 (a0)), (1, vI v1), (2, vR 201944 (a2)), (3, vI v3), (4, vI v4)] [] m Q E := by
  refine VL_at (al := [(0, vR 200243 (a0)), (1, vI v1), (2, vR 201944 (a2)), (3, vI v3), (4, vI v4)]) (st := []) km178 k178_1 ?_
  refine And.intro (fun c1 => ?_) (fun c1 => ?_)
  · refine VL_norm km178 k178_3 (VL_at (al := []) (st := []) km178 k178_3 ?_)
    exact (h.1 c1)
  · refine VL_norm km178 k178_2 (VL_at (al := [(0, vR 200243 (a0)), (1, vI v1), (2, vR 201944 (a2)), (3, vI v3), (4, vI v4)]) (st := []) km178 k178_2 ?_)
    refine And.intro (h.2 c1).1 ?_
    refine And.intro (h.2 c1).2.1 ?_
    exact VL_norm km178 k178_1 (h.2 c1).2.2
/-- BannerParadeModel.lays, label 0 -/
theorem w178c_0 {D : Nat} {a0 : Nat} {v1 : Int32} {a2 : Nat} {v3 : Int32} {m : XM} {Q : XM → Prop} {E : Nat → XM → Prop}
    (h : VLU D 178 1 [(0, vR 201944 (a0)), (1, vI v1), (2, vR 200243 (a2)), (3, vI v3), (4, vI (n32 0))] [] m Q E) :
    VU D 178 [vR 201944 (a0), vI v1, vR 200243 (a2), vI v3] m Q E := by
  refine V_of (VL_at (al := [(0, vR 201944 (a0)), (1, vI v1), (2, vR 200243 (a2)), (3, vI v3)]) (st := []) km178 k178_0 ?_)
  exact VL_norm km178 k178_1 h
/-- BannerParadeModel.lays, label 1 -/
theorem w178c_1 {D : Nat} {a0 : Nat} {v1 : Int32} {a2 : Nat} {v3 : Int32} {v4 : Int32} {m : XM} {Q : XM → Prop} {E : Nat → XM → Prop}
    (h : (((n32 243) ≤ v4 → Q m) ∧ (¬ (n32 243) ≤ v4 → (xin (v1 + v4) 1944 = true ∧ (xin (v3 + v4) 243 = true ∧ VLU D 178 1 [(0, vR 201944 (a0)), (1, vI v1), (2, vR 200243 (a2)), (3, vI v3), (4, vI (v4 + (n32 1)))] [] (um m (a2) (ix (v3 + v4)) (m a0 (ix (v1 + v4)))) Q E))))) :
    VLU D 178 1 [(0, vR 201944 (a0)), (1, vI v1), (2, vR 200243 (a2)), (3, vI v3), (4, vI v4)] [] m Q E := by
  refine VL_at (al := [(0, vR 201944 (a0)), (1, vI v1), (2, vR 200243 (a2)), (3, vI v3), (4, vI v4)]) (st := []) km178 k178_1 ?_
  refine And.intro (fun c1 => ?_) (fun c1 => ?_)
  · refine VL_norm km178 k178_3 (VL_at (al := []) (st := []) km178 k178_3 ?_)
    exact (h.1 c1)
  · refine VL_norm km178 k178_2 (VL_at (al := [(0, vR 201944 (a0)), (1, vI v1), (2, vR 200243 (a2)), (3, vI v3), (4, vI v4)]) (st := []) km178 k178_2 ?_)
    refine And.intro (h.2 c1).1 ?_
    refine And.intro (h.2 c1).2.1 ?_
    exact VL_norm km178 k178_1 (h.2 c1).2.2
/-- BannerParadeModel.lays, label 0 -/
theorem w178d_0 {D : Nat} {a0 : Nat} {v1 : Int32} {a2 : Nat} {v3 : Int32} {m : XM} {Q : XM → Prop} {E : Nat → XM → Prop}
    (h : VLU D 178 1 [(0, vR 200243 (a0)), (1, vI v1), (2, vR 200486 (a2)), (3, vI v3), (4, vI (n32 0))] [] m Q E) :
    VU D 178 [vR 200243 (a0), vI v1, vR 200486 (a2), vI v3] m Q E := by
  refine V_of (VL_at (al := [(0, vR 200243 (a0)), (1, vI v1), (2, vR 200486 (a2)), (3, vI v3)]) (st := []) km178 k178_0 ?_)
  exact VL_norm km178 k178_1 h
/-- BannerParadeModel.lays, label 1 -/
theorem w178d_1 {D : Nat} {a0 : Nat} {v1 : Int32} {a2 : Nat} {v3 : Int32} {v4 : Int32} {m : XM} {Q : XM → Prop} {E : Nat → XM → Prop}
    (h : (((n32 243) ≤ v4 → Q m) ∧ (¬ (n32 243) ≤ v4 → (xin (v1 + v4) 243 = true ∧ (xin (v3 + v4) 486 = true ∧ VLU D 178 1 [(0, vR 200243 (a0)), (1, vI v1), (2, vR 200486 (a2)), (3, vI v3), (4, vI (v4 + (n32 1)))] [] (um m (a2) (ix (v3 + v4)) (m a0 (ix (v1 + v4)))) Q E))))) :
    VLU D 178 1 [(0, vR 200243 (a0)), (1, vI v1), (2, vR 200486 (a2)), (3, vI v3), (4, vI v4)] [] m Q E := by
  refine VL_at (al := [(0, vR 200243 (a0)), (1, vI v1), (2, vR 200486 (a2)), (3, vI v3), (4, vI v4)]) (st := []) km178 k178_1 ?_
  refine And.intro (fun c1 => ?_) (fun c1 => ?_)
  · refine VL_norm km178 k178_3 (VL_at (al := []) (st := []) km178 k178_3 ?_)
    exact (h.1 c1)
  · refine VL_norm km178 k178_2 (VL_at (al := [(0, vR 200243 (a0)), (1, vI v1), (2, vR 200486 (a2)), (3, vI v3), (4, vI v4)]) (st := []) km178 k178_2 ?_)
    refine And.intro (h.2 c1).1 ?_
    refine And.intro (h.2 c1).2.1 ?_
    exact VL_norm km178 k178_1 (h.2 c1).2.2
/-- BannerParadeModel.lays, label 0 -/
theorem w178e_0 {D : Nat} {a0 : Nat} {v1 : Int32} {a2 : Nat} {v3 : Int32} {m : XM} {Q : XM → Prop} {E : Nat → XM → Prop}
    (h : VLU D 178 1 [(0, vR 200486 (a0)), (1, vI v1), (2, vR 200243 (a2)), (3, vI v3), (4, vI (n32 0))] [] m Q E) :
    VU D 178 [vR 200486 (a0), vI v1, vR 200243 (a2), vI v3] m Q E := by
  refine V_of (VL_at (al := [(0, vR 200486 (a0)), (1, vI v1), (2, vR 200243 (a2)), (3, vI v3)]) (st := []) km178 k178_0 ?_)
  exact VL_norm km178 k178_1 h
/-- BannerParadeModel.lays, label 1 -/
theorem w178e_1 {D : Nat} {a0 : Nat} {v1 : Int32} {a2 : Nat} {v3 : Int32} {v4 : Int32} {m : XM} {Q : XM → Prop} {E : Nat → XM → Prop}
    (h : (((n32 243) ≤ v4 → Q m) ∧ (¬ (n32 243) ≤ v4 → (xin (v1 + v4) 486 = true ∧ (xin (v3 + v4) 243 = true ∧ VLU D 178 1 [(0, vR 200486 (a0)), (1, vI v1), (2, vR 200243 (a2)), (3, vI v3), (4, vI (v4 + (n32 1)))] [] (um m (a2) (ix (v3 + v4)) (m a0 (ix (v1 + v4)))) Q E))))) :
    VLU D 178 1 [(0, vR 200486 (a0)), (1, vI v1), (2, vR 200243 (a2)), (3, vI v3), (4, vI v4)] [] m Q E := by
  refine VL_at (al := [(0, vR 200486 (a0)), (1, vI v1), (2, vR 200243 (a2)), (3, vI v3), (4, vI v4)]) (st := []) km178 k178_1 ?_
  refine And.intro (fun c1 => ?_) (fun c1 => ?_)
  · refine VL_norm km178 k178_3 (VL_at (al := []) (st := []) km178 k178_3 ?_)
    exact (h.1 c1)
  · refine VL_norm km178 k178_2 (VL_at (al := [(0, vR 200486 (a0)), (1, vI v1), (2, vR 200243 (a2)), (3, vI v3), (4, vI v4)]) (st := []) km178 k178_2 ?_)
    refine And.intro (h.2 c1).1 ?_
    refine And.intro (h.2 c1).2.1 ?_
    exact VL_norm km178 k178_1 (h.2 c1).2.2
/-- BannerParadeModel.append, label 0 -/
theorem w179_0 {D : Nat} {v1 : Int32} {v2 : Int32} {v3 : Int32} {v4 : Int32} {v5 : Int32} {m : XM} {Q : Int32 → XM → Prop} {E : Nat → XM → Prop}
    (h : ((((um m (283) 0 (n32 0)) 283 9) ≤ (n32 680) → VU D 180 [vR 11 (283), vI v1] (um m (283) 0 (n32 0)) (fun m1 => VU D 180 [vR 11 (283), vI v2] m1 (fun m2 => VU D 180 [vR 11 (283), vI v3] m2 (fun m3 => VU D 180 [vR 11 (283), vI v4] m3 (fun m4 => VU D 180 [vR 11 (283), vI v5] m4 (fun m5 => Q (m5 283 9) m5) E) E) E) E) E) ∧ (¬ ((um m (283) 0 (n32 0)) 283 9) ≤ (n32 680) → Q (-(n32 1)) (um m (283) 0 (n32 0))))) :
    VI (D + 1) 179 [vR 11 (283), vI v1, vI v2, vI v3, vI v4, vI v5] m Q E := by
  refine V_of (VL_at (al := [(0, vR 11 (283)), (1, vI v1), (2, vI v2), (3, vI v3), (4, vI v4), (5, vI v5)]) (st := []) km179 k179_0 ?_)
  refine And.intro (fun c6 => ?_) (fun c6 => ?_)
  · refine VL_norm km179 k179_2 (VL_at (al := [(0, vR 11 (283)), (1, vI v1), (2, vI v2), (3, vI v3), (4, vI v4), (5, vI v5)]) (st := []) km179 k179_2 ?_)
    refine V_mono (h.1 c6) (fun u1 m1 h1 => ?_) (fun _ _ h => h)
    refine V_mono h1 (fun u2 m2 h2 => ?_) (fun _ _ h => h)
    refine V_mono h2 (fun u3 m3 h3 => ?_) (fun _ _ h => h)
    refine V_mono h3 (fun u4 m4 h4 => ?_) (fun _ _ h => h)
    refine V_mono h4 (fun u5 m5 h5 => ?_) (fun _ _ h => h)
    exact h5
  · refine VL_norm km179 k179_1 (VL_at (al := []) (st := []) km179 k179_1 ?_)
    exact (h.2 c6)
/-- BannerParadeModel.four, label 0 -/
theorem w180_0 {D : Nat} {v1 : Int32} {m : XM} {Q : XM → Prop} {E : Nat → XM → Prop}
    (h : VLU D 180 1 [(0, vR 11 (283)), (1, vI v1), (2, vI (n32 3))] [] m Q E) :
    VU D 180 [vR 11 (283), vI v1] m Q E := by
  refine V_of (VL_at (al := [(0, vR 11 (283)), (1, vI v1)]) (st := []) km180 k180_0 ?_)
  exact VL_norm km180 k180_1 h
/-- BannerParadeModel.four, label 1 -/
theorem w180_1 {D : Nat} {v1 : Int32} {v2 : Int32} {m : XM} {Q : XM → Prop} {E : Nat → XM → Prop}
    (h : ((v2 < (n32 0) → Q m) ∧ (¬ v2 < (n32 0) → (xin (m 283 9) 700 = true ∧ (∀ μ1 : XM, μ1 = um (um m (289) (ix (m 283 9)) (((((v1 >>> (((n32 8) * v2) &&& 31))).toInt8.toInt32)).toInt8.toInt32)) (283) 9 (((um m (289) (ix (m 283 9)) (((((v1 >>> (((n32 8) * v2) &&& 31))).toInt8.toInt32)).toInt8.toInt32)) 283 9) + (n32 1)) → VLU D 180 1 [(0, vR 11 (283)), (1, vI v1), (2, vI (v2 + (-(n32 1))))] [] μ1 Q E))))) :
    VLU D 180 1 [(0, vR 11 (283)), (1, vI v1), (2, vI v2)] [] m Q E := by
  refine VL_at (al := [(0, vR 11 (283)), (1, vI v1), (2, vI v2)]) (st := []) km180 k180_1 ?_
  refine And.intro (fun c2 => ?_) (fun c2 => ?_)
  · refine VL_norm km180 k180_3 (VL_at (al := []) (st := []) km180 k180_3 ?_)
    exact (h.1 c2)
  · refine VL_norm km180 k180_2 (VL_at (al := [(0, vR 11 (283)), (1, vI v1), (2, vI v2)]) (st := []) km180 k180_2 ?_)
    refine And.intro (h.2 c2).1 ?_
    exact VL_norm km180 k180_1 ((h.2 c2).2 (um (um m (289) (ix (m 283 9)) (((((v1 >>> (((n32 8) * v2) &&& 31))).toInt8.toInt32)).toInt8.toInt32)) (283) 9 (((um m (289) (ix (m 283 9)) (((((v1 >>> (((n32 8) * v2) &&& 31))).toInt8.toInt32)).toInt8.toInt32)) 283 9) + (n32 1))) rfl)
/-- BannerParadeModel.isLetter, label 0 -/
theorem w184_0 {D : Nat} {v1 : Int32} {m : XM} {Q : Int32 → XM → Prop} {E : Nat → XM → Prop}
    (h : (((m 283 12) ≤ v1 → Q (n32 0) m) ∧ (¬ (m 283 12) ≤ v1 → (xin v1 700 = true ∧ (((m 289 (ix v1)) < (n32 97) → Q (n32 0) m) ∧ (¬ (m 289 (ix v1)) < (n32 97) → (((n32 122) < (m 289 (ix v1)) → Q (n32 0) m) ∧ (¬ (n32 122) < (m 289 (ix v1)) → Q (n32 1) m)))))))) :
    VI (D + 1) 184 [vR 11 (283), vI v1] m Q E := by
  refine V_of (VL_at (al := [(0, vR 11 (283)), (1, vI v1)]) (st := []) km184 k184_0 ?_)
  refine And.intro (fun c3 => ?_) (fun c3 => ?_)
  · refine VL_norm km184 k184_3 (VL_at (al := []) (st := []) km184 k184_3 ?_)
    refine VL_norm km184 k184_4 (VL_at (al := []) (st := [vI (n32 0)]) km184 k184_4 ?_)
    refine And.intro xrt20 ?_
    exact (h.1 c3)
  · refine VL_norm km184 k184_1 (VL_at (al := [(0, vR 11 (283)), (1, vI v1)]) (st := []) km184 k184_1 ?_)
    refine And.intro (h.2 c3).1 ?_
    refine V_of ?_
    refine VL_norm km175 k175_0 (VL_at (al := [(0, vI (m 289 (ix v1))), (1, vI (n32 97)), (2, vI (n32 122))]) (st := []) km175 k175_0 ?_)
    refine And.intro (fun c2 => ?_) (fun c2 => ?_)
    · refine VL_norm km175 k175_3 (VL_at (al := []) (st := []) km175 k175_3 ?_)
      refine VL_norm km175 k175_4 (VL_at (al := []) (st := [vI (n32 0)]) km175 k175_4 ?_)
      refine And.intro xrt20 ?_
      refine And.intro (fun _ => ?_) (fun c => absurd (by decide) c)
      refine VL_norm km184 k184_3 (VL_at (al := []) (st := []) km184 k184_3 ?_)
      refine VL_norm km184 k184_4 (VL_at (al := []) (st := [vI (n32 0)]) km184 k184_4 ?_)
      refine And.intro xrt20 ?_
      exact ((h.2 c3).2.1 c2)
    · refine VL_norm km175 k175_1 (VL_at (al := [(0, vI (m 289 (ix v1))), (2, vI (n32 122))]) (st := []) km175 k175_1 ?_)
      refine And.intro (fun c1 => ?_) (fun c1 => ?_)
      · refine VL_norm km175 k175_3 (VL_at (al := []) (st := []) km175 k175_3 ?_)
        refine VL_norm km175 k175_4 (VL_at (al := []) (st := [vI (n32 0)]) km175 k175_4 ?_)
        refine And.intro xrt20 ?_
        refine And.intro (fun _ => ?_) (fun c => absurd (by decide) c)
        refine VL_norm km184 k184_3 (VL_at (al := []) (st := []) km184 k184_3 ?_)
        refine VL_norm km184 k184_4 (VL_at (al := []) (st := [vI (n32 0)]) km184 k184_4 ?_)
        refine And.intro xrt20 ?_
        exact (((h.2 c3).2.2 c2).1 c1)
      · refine VL_norm km175 k175_2 (VL_at (al := []) (st := []) km175 k175_2 ?_)
        refine VL_norm km175 k175_4 (VL_at (al := []) (st := [vI (n32 1)]) km175 k175_4 ?_)
        refine And.intro xrt21 ?_
        refine And.intro (fun c => absurd c (by decide)) (fun _ => ?_)
        refine VL_norm km184 k184_2 (VL_at (al := []) (st := []) km184 k184_2 ?_)
        refine VL_norm km184 k184_4 (VL_at (al := []) (st := [vI (n32 1)]) km184 k184_4 ?_)
        refine And.intro xrt21 ?_
        exact (((h.2 c3).2.2 c2).2 c1)
/-- BannerParadeModel.isDigit, label 0 -/
theorem w185_0 {D : Nat} {v1 : Int32} {m : XM} {Q : Int32 → XM → Prop} {E : Nat → XM → Prop}
    (h : (((m 283 12) ≤ v1 → Q (n32 0) m) ∧ (¬ (m 283 12) ≤ v1 → (xin v1 700 = true ∧ (((m 289 (ix v1)) < (n32 48) → Q (n32 0) m) ∧ (¬ (m 289 (ix v1)) < (n32 48) → (((n32 57) < (m 289 (ix v1)) → Q (n32 0) m) ∧ (¬ (n32 57) < (m 289 (ix v1)) → Q (n32 1) m)))))))) :
    VI (D + 1) 185 [vR 11 (283), vI v1] m Q E := by
  refine V_of (VL_at (al := [(0, vR 11 (283)), (1, vI v1)]) (st := []) km185 k185_0 ?_)
  refine And.intro (fun c3 => ?_) (fun c3 => ?_)
  · refine VL_norm km185 k185_3 (VL_at (al := []) (st := []) km185 k185_3 ?_)
    refine VL_norm km185 k185_4 (VL_at (al := []) (st := [vI (n32 0)]) km185 k185_4 ?_)
    refine And.intro xrt20 ?_
    exact (h.1 c3)
  · refine VL_norm km185 k185_1 (VL_at (al := [(0, vR 11 (283)), (1, vI v1)]) (st := []) km185 k185_1 ?_)
    refine And.intro (h.2 c3).1 ?_
    refine V_of ?_
    refine VL_norm km175 k175_0 (VL_at (al := [(0, vI (m 289 (ix v1))), (1, vI (n32 48)), (2, vI (n32 57))]) (st := []) km175 k175_0 ?_)
    refine And.intro (fun c2 => ?_) (fun c2 => ?_)
    · refine VL_norm km175 k175_3 (VL_at (al := []) (st := []) km175 k175_3 ?_)
      refine VL_norm km175 k175_4 (VL_at (al := []) (st := [vI (n32 0)]) km175 k175_4 ?_)
      refine And.intro xrt20 ?_
      refine And.intro (fun _ => ?_) (fun c => absurd (by decide) c)
      refine VL_norm km185 k185_3 (VL_at (al := []) (st := []) km185 k185_3 ?_)
      refine VL_norm km185 k185_4 (VL_at (al := []) (st := [vI (n32 0)]) km185 k185_4 ?_)
      refine And.intro xrt20 ?_
      exact ((h.2 c3).2.1 c2)
    · refine VL_norm km175 k175_1 (VL_at (al := [(0, vI (m 289 (ix v1))), (2, vI (n32 57))]) (st := []) km175 k175_1 ?_)
      refine And.intro (fun c1 => ?_) (fun c1 => ?_)
      · refine VL_norm km175 k175_3 (VL_at (al := []) (st := []) km175 k175_3 ?_)
        refine VL_norm km175 k175_4 (VL_at (al := []) (st := [vI (n32 0)]) km175 k175_4 ?_)
        refine And.intro xrt20 ?_
        refine And.intro (fun _ => ?_) (fun c => absurd (by decide) c)
        refine VL_norm km185 k185_3 (VL_at (al := []) (st := []) km185 k185_3 ?_)
        refine VL_norm km185 k185_4 (VL_at (al := []) (st := [vI (n32 0)]) km185 k185_4 ?_)
        refine And.intro xrt20 ?_
        exact (((h.2 c3).2.2 c2).1 c1)
      · refine VL_norm km175 k175_2 (VL_at (al := []) (st := []) km175 k175_2 ?_)
        refine VL_norm km175 k175_4 (VL_at (al := []) (st := [vI (n32 1)]) km175 k175_4 ?_)
        refine And.intro xrt21 ?_
        refine And.intro (fun c => absurd c (by decide)) (fun _ => ?_)
        refine VL_norm km185 k185_2 (VL_at (al := []) (st := []) km185 k185_2 ?_)
        refine VL_norm km185 k185_4 (VL_at (al := []) (st := [vI (n32 1)]) km185 k185_4 ?_)
        refine And.intro xrt21 ?_
        exact (((h.2 c3).2.2 c2).2 c1)
/-- BannerParadeModel.next, label 0 -/
theorem w186_0 {D : Nat}  {m : XM} {Q : XM → Prop} {E : Nat → XM → Prop}
    (h : (((m 283 10) ≤ (n32 0) → VLU (D + 2) 186 2 [(0, vR 11 (283))] [] m Q E) ∧ (¬ (m 283 10) ≤ (n32 0) → Q m))) :
    VU (D + 2) 186 [vR 11 (283)] m Q E := by
  refine V_of (VL_at (al := [(0, vR 11 (283))]) (st := []) km186 k186_0 ?_)
  refine And.intro (fun c1 => ?_) (fun c1 => ?_)
  · exact VL_norm km186 k186_2 (h.1 c1)
  · refine VL_norm km186 k186_1 (VL_at (al := []) (st := []) km186 k186_1 ?_)
    exact (h.2 c1)
/-- BannerParadeModel.next, label 2 -/
theorem w186_2 {D : Nat}  {m : XM} {Q : XM → Prop} {E : Nat → XM → Prop}
    (h : (((m 283 12) ≤ (m 283 13) → ((((um m (283) 14 (m 283 13)) 283 13) = ((um m (283) 14 (m 283 13)) 283 12) → ((((um (um m (283) 14 (m 283 13)) (283) 15 (n32 1)) 283 15) = (n32 1) → Q (um (um m (283) 14 (m 283 13)) (283) 15 (n32 1))) ∧ (¬ ((um (um m (283) 14 (m 283 13)) (283) 15 (n32 1)) 283 15) = (n32 1) → VI (D + 1) 184 [vR 11 (283), vI ((um (um m (283) 14 (m 283 13)) (283) 15 (n32 1)) 283 13)] (um (um m (283) 14 (m 283 13)) (283) 15 (n32 1)) (fun x1 m1 => ((x1 = (n32 0) → VI (D + 1) 185 [vR 11 (283), vI (m1 283 13)] m1 (fun x2 m2 => ((x2 = (n32 0) → (xin (m2 283 13) 700 = true ∧ (((m2 289 (ix (m2 283 13))) = (n32 59) → Q (um (um m2 (283) 15 (n32 4)) (283) 13 (((um m2 (283) 15 (n32 4)) 283 13) + (n32 1)))) ∧ (¬ (m2 289 (ix (m2 283 13))) = (n32 59) → Q (um m2 (283) 13 ((m2 283 13) + (n32 1))))))) ∧ (¬ x2 = (n32 0) → VLU (D + 2) 186 19 [(0, vR 11 (283))] [] (um m2 (283) 16 (n32 0)) Q E))) E) ∧ (¬ x1 = (n32 0) → VLU (D + 2) 186 11 [(0, vR 11 (283))] [] m1 Q E))) E))) ∧ (¬ ((um m (283) 14 (m 283 13)) 283 13) = ((um m (283) 14 (m 283 13)) 283 12) → ((((um (um m (283) 14 (m 283 13)) (283) 15 (n32 0)) 283 15) = (n32 1) → Q (um (um m (283) 14 (m 283 13)) (283) 15 (n32 0))) ∧ (¬ ((um (um m (283) 14 (m 283 13)) (283) 15 (n32 0)) 283 15) = (n32 1) → VI (D + 1) 184 [vR 11 (283), vI ((um (um m (283) 14 (m 283 13)) (283) 15 (n32 0)) 283 13)] (um (um m (283) 14 (m 283 13)) (283) 15 (n32 0)) (fun x7 m7 => ((x7 = (n32 0) → VI (D + 1) 185 [vR 11 (283), vI (m7 283 13)] m7 (fun x8 m8 => ((x8 = (n32 0) → (xin (m8 283 13) 700 = true ∧ (((m8 289 (ix (m8 283 13))) = (n32 59) → Q (um (um m8 (283) 15 (n32 4)) (283) 13 (((um m8 (283) 15 (n32 4)) 283 13) + (n32 1)))) ∧ (¬ (m8 289 (ix (m8 283 13))) = (n32 59) → Q (um m8 (283) 13 ((m8 283 13) + (n32 1))))))) ∧ (¬ x8 = (n32 0) → VLU (D + 2) 186 19 [(0, vR 11 (283))] [] (um m8 (283) 16 (n32 0)) Q E))) E) ∧ (¬ x7 = (n32 0) → VLU (D + 2) 186 11 [(0, vR 11 (283))] [] m7 Q E))) E))))) ∧ (¬ (m 283 12) ≤ (m 283 13) → (xin (m 283 13) 700 = true ∧ (((m 289 (ix (m 283 13))) = (n32 32) → VLU (D + 2) 186 2 [(0, vR 11 (283))] [] (um m (283) 13 ((m 283 13) + (n32 1))) Q E) ∧ (¬ (m 289 (ix (m 283 13))) = (n32 32) → ((((um m (283) 14 (m 283 13)) 283 13) = ((um m (283) 14 (m 283 13)) 283 12) → ((((um (um m (283) 14 (m 283 13)) (283) 15 (n32 1)) 283 15) = (n32 1) → Q (um (um m (283) 14 (m 283 13)) (283) 15 (n32 1))) ∧ (¬ ((um (um m (283) 14 (m 283 13)) (283) 15 (n32 1)) 283 15) = (n32 1) → VI (D + 1) 184 [vR 11 (283), vI ((um (um m (283) 14 (m 283 13)) (283) 15 (n32 1)) 283 13)] (um (um m (283) 14 (m 283 13)) (283) 15 (n32 1)) (fun x14 m14 => ((x14 = (n32 0) → VI (D + 1) 185 [vR 11 (283), vI (m14 283 13)] m14 (fun x15 m15 => ((x15 = (n32 0) → (xin (m15 283 13) 700 = true ∧ (((m15 289 (ix (m15 283 13))) = (n32 59) → Q (um (um m15 (283) 15 (n32 4)) (283) 13 (((um m15 (283) 15 (n32 4)) 283 13) + (n32 1)))) ∧ (¬ (m15 289 (ix (m15 283 13))) = (n32 59) → Q (um m15 (283) 13 ((m15 283 13) + (n32 1))))))) ∧ (¬ x15 = (n32 0) → VLU (D + 2) 186 19 [(0, vR 11 (283))] [] (um m15 (283) 16 (n32 0)) Q E))) E) ∧ (¬ x14 = (n32 0) → VLU (D + 2) 186 11 [(0, vR 11 (283))] [] m14 Q E))) E))) ∧ (¬ ((um m (283) 14 (m 283 13)) 283 13) = ((um m (283) 14 (m 283 13)) 283 12) → ((((um (um m (283) 14 (m 283 13)) (283) 15 (n32 0)) 283 15) = (n32 1) → Q (um (um m (283) 14 (m 283 13)) (283) 15 (n32 0))) ∧ (¬ ((um (um m (283) 14 (m 283 13)) (283) 15 (n32 0)) 283 15) = (n32 1) → VI (D + 1) 184 [vR 11 (283), vI ((um (um m (283) 14 (m 283 13)) (283) 15 (n32 0)) 283 13)] (um (um m (283) 14 (m 283 13)) (283) 15 (n32 0)) (fun x20 m20 => ((x20 = (n32 0) → VI (D + 1) 185 [vR 11 (283), vI (m20 283 13)] m20 (fun x21 m21 => ((x21 = (n32 0) → (xin (m21 283 13) 700 = true ∧ (((m21 289 (ix (m21 283 13))) = (n32 59) → Q (um (um m21 (283) 15 (n32 4)) (283) 13 (((um m21 (283) 15 (n32 4)) 283 13) + (n32 1)))) ∧ (¬ (m21 289 (ix (m21 283 13))) = (n32 59) → Q (um m21 (283) 13 ((m21 283 13) + (n32 1))))))) ∧ (¬ x21 = (n32 0) → VLU (D + 2) 186 19 [(0, vR 11 (283))] [] (um m21 (283) 16 (n32 0)) Q E))) E) ∧ (¬ x20 = (n32 0) → VLU (D + 2) 186 11 [(0, vR 11 (283))] [] m20 Q E))) E)))))))))) :
    VLU (D + 2) 186 2 [(0, vR 11 (283))] [] m Q E := by
  refine VL_at (al := [(0, vR 11 (283))]) (st := []) km186 k186_2 ?_
  refine And.intro (fun c28 => ?_) (fun c28 => ?_)
  · refine VL_norm km186 k186_5 (VL_at (al := [(0, vR 11 (283))]) (st := []) km186 k186_5 ?_)
    refine And.intro (fun c13 => ?_) (fun c13 => ?_)
    · refine VL_norm km186 k186_6 (VL_at (al := [(0, vR 11 (283))]) (st := [vR 11 (283)]) km186 k186_6 ?_)
      refine VL_norm km186 k186_8 (VL_at (al := [(0, vR 11 (283))]) (st := [vI (n32 1), vR 11 (283)]) km186 k186_8 ?_)
      refine And.intro (fun c6 => ?_) (fun c6 => ?_)
      · refine VL_norm km186 k186_9 (VL_at (al := []) (st := []) km186 k186_9 ?_)
        exact (((h.1 c28).1 c13).1 c6)
      · refine VL_norm km186 k186_10 (VL_at (al := [(0, vR 11 (283))]) (st := []) km186 k186_10 ?_)
        refine V_mono (((h.1 c28).1 c13).2 c6) (fun u1 m1 h1 => ?_) (fun _ _ h => h)
        refine And.intro (fun c5 => ?_) (fun c5 => ?_)
        · refine VL_norm km186 k186_17 (VL_at (al := [(0, vR 11 (283))]) (st := []) km186 k186_17 ?_)
          refine V_mono (h1.1 c5) (fun u2 m2 h2 => ?_) (fun _ _ h => h)
          refine And.intro (fun c4 => ?_) (fun c4 => ?_)
          · refine VL_norm km186 k186_27 (VL_at (al := [(0, vR 11 (283))]) (st := []) km186 k186_27 ?_)
            refine And.intro (h2.1 c4).1 ?_
            refine And.intro (fun c3 => ?_) (fun c3 => ?_)
            · refine VL_norm km186 k186_28 (VL_at (al := [(0, vR 11 (283))]) (st := []) km186 k186_28 ?_)
              refine VL_norm km186 k186_29 (VL_at (al := [(0, vR 11 (283))]) (st := []) km186 k186_29 ?_)
              exact ((h2.1 c4).2.1 c3)
            · refine VL_norm km186 k186_29 (VL_at (al := [(0, vR 11 (283))]) (st := []) km186 k186_29 ?_)
              exact ((h2.1 c4).2.2 c3)
          · refine VL_norm km186 k186_18 (VL_at (al := [(0, vR 11 (283))]) (st := []) km186 k186_18 ?_)
            exact VL_norm km186 k186_19 (h2.2 c4)
        · exact VL_norm km186 k186_11 (h1.2 c5)
    · refine VL_norm km186 k186_7 (VL_at (al := [(0, vR 11 (283))]) (st := [vR 11 (283)]) km186 k186_7 ?_)
      refine VL_norm km186 k186_8 (VL_at (al := [(0, vR 11 (283))]) (st := [vI (n32 0), vR 11 (283)]) km186 k186_8 ?_)
      refine And.intro (fun c12 => ?_) (fun c12 => ?_)
      · refine VL_norm km186 k186_9 (VL_at (al := []) (st := []) km186 k186_9 ?_)
        exact (((h.1 c28).2 c13).1 c12)
      · refine VL_norm km186 k186_10 (VL_at (al := [(0, vR 11 (283))]) (st := []) km186 k186_10 ?_)
        refine V_mono (((h.1 c28).2 c13).2 c12) (fun u7 m7 h7 => ?_) (fun _ _ h => h)
        refine And.intro (fun c11 => ?_) (fun c11 => ?_)
        · refine VL_norm km186 k186_17 (VL_at (al := [(0, vR 11 (283))]) (st := []) km186 k186_17 ?_)
          refine V_mono (h7.1 c11) (fun u8 m8 h8 => ?_) (fun _ _ h => h)
          refine And.intro (fun c10 => ?_) (fun c10 => ?_)
          · refine VL_norm km186 k186_27 (VL_at (al := [(0, vR 11 (283))]) (st := []) km186 k186_27 ?_)
            refine And.intro (h8.1 c10).1 ?_
            refine And.intro (fun c9 => ?_) (fun c9 => ?_)
            · refine VL_norm km186 k186_28 (VL_at (al := [(0, vR 11 (283))]) (st := []) km186 k186_28 ?_)
              refine VL_norm km186 k186_29 (VL_at (al := [(0, vR 11 (283))]) (st := []) km186 k186_29 ?_)
              exact ((h8.1 c10).2.1 c9)
            · refine VL_norm km186 k186_29 (VL_at (al := [(0, vR 11 (283))]) (st := []) km186 k186_29 ?_)
              exact ((h8.1 c10).2.2 c9)
          · refine VL_norm km186 k186_18 (VL_at (al := [(0, vR 11 (283))]) (st := []) km186 k186_18 ?_)
            exact VL_norm km186 k186_19 (h8.2 c10)
        · exact VL_norm km186 k186_11 (h7.2 c11)
  · refine VL_norm km186 k186_3 (VL_at (al := [(0, vR 11 (283))]) (st := []) km186 k186_3 ?_)
    refine And.intro (h.2 c28).1 ?_
    refine And.intro (fun c27 => ?_) (fun c27 => ?_)
    · refine VL_norm km186 k186_4 (VL_at (al := [(0, vR 11 (283))]) (st := []) km186 k186_4 ?_)
      exact VL_norm km186 k186_2 ((h.2 c28).2.1 c27)
    · refine VL_norm km186 k186_5 (VL_at (al := [(0, vR 11 (283))]) (st := []) km186 k186_5 ?_)
      refine And.intro (fun c26 => ?_) (fun c26 => ?_)
      · refine VL_norm km186 k186_6 (VL_at (al := [(0, vR 11 (283))]) (st := [vR 11 (283)]) km186 k186_6 ?_)
        refine VL_norm km186 k186_8 (VL_at (al := [(0, vR 11 (283))]) (st := [vI (n32 1), vR 11 (283)]) km186 k186_8 ?_)
        refine And.intro (fun c19 => ?_) (fun c19 => ?_)
        · refine VL_norm km186 k186_9 (VL_at (al := []) (st := []) km186 k186_9 ?_)
          exact ((((h.2 c28).2.2 c27).1 c26).1 c19)
        · refine VL_norm km186 k186_10 (VL_at (al := [(0, vR 11 (283))]) (st := []) km186 k186_10 ?_)
          refine V_mono ((((h.2 c28).2.2 c27).1 c26).2 c19) (fun u14 m14 h14 => ?_) (fun _ _ h => h)
          refine And.intro (fun c18 => ?_) (fun c18 => ?_)
          · refine VL_norm km186 k186_17 (VL_at (al := [(0, vR 11 (283))]) (st := []) km186 k186_17 ?_)
            refine V_mono (h14.1 c18) (fun u15 m15 h15 => ?_) (fun _ _ h => h)
            refine And.intro (fun c17 => ?_) (fun c17 => ?_)
            · refine VL_norm km186 k186_27 (VL_at (al := [(0, vR 11 (283))]) (st := []) km186 k186_27 ?_)
              refine And.intro (h15.1 c17).1 ?_
              refine And.intro (fun c16 => ?_) (fun c16 => ?_)
              · refine VL_norm km186 k186_28 (VL_at (al := [(0, vR 11 (283))]) (st := []) km186 k186_28 ?_)
                refine VL_norm km186 k186_29 (VL_at (al := [(0, vR 11 (283))]) (st := []) km186 k186_29 ?_)
                exact ((h15.1 c17).2.1 c16)
              · refine VL_norm km186 k186_29 (VL_at (al := [(0, vR 11 (283))]) (st := []) km186 k186_29 ?_)
                exact ((h15.1 c17).2.2 c16)
            · refine VL_norm km186 k186_18 (VL_at (al := [(0, vR 11 (283))]) (st := []) km186 k186_18 ?_)
              exact VL_norm km186 k186_19 (h15.2 c17)
          · exact VL_norm km186 k186_11 (h14.2 c18)
      · refine VL_norm km186 k186_7 (VL_at (al := [(0, vR 11 (283))]) (st := [vR 11 (283)]) km186 k186_7 ?_)
        refine VL_norm km186 k186_8 (VL_at (al := [(0, vR 11 (283))]) (st := [vI (n32 0), vR 11 (283)]) km186 k186_8 ?_)
        refine And.intro (fun c25 => ?_) (fun c25 => ?_)
        · refine VL_norm km186 k186_9 (VL_at (al := []) (st := []) km186 k186_9 ?_)
          exact ((((h.2 c28).2.2 c27).2 c26).1 c25)
        · refine VL_norm km186 k186_10 (VL_at (al := [(0, vR 11 (283))]) (st := []) km186 k186_10 ?_)
          refine V_mono ((((h.2 c28).2.2 c27).2 c26).2 c25) (fun u20 m20 h20 => ?_) (fun _ _ h => h)
          refine And.intro (fun c24 => ?_) (fun c24 => ?_)
          · refine VL_norm km186 k186_17 (VL_at (al := [(0, vR 11 (283))]) (st := []) km186 k186_17 ?_)
            refine V_mono (h20.1 c24) (fun u21 m21 h21 => ?_) (fun _ _ h => h)
            refine And.intro (fun c23 => ?_) (fun c23 => ?_)
            · refine VL_norm km186 k186_27 (VL_at (al := [(0, vR 11 (283))]) (st := []) km186 k186_27 ?_)
              refine And.intro (h21.1 c23).1 ?_
              refine And.intro (fun c22 => ?_) (fun c22 => ?_)
              · refine VL_norm km186 k186_28 (VL_at (al := [(0, vR 11 (283))]) (st := []) km186 k186_28 ?_)
                refine VL_norm km186 k186_29 (VL_at (al := [(0, vR 11 (283))]) (st := []) km186 k186_29 ?_)
                exact ((h21.1 c23).2.1 c22)
              · refine VL_norm km186 k186_29 (VL_at (al := [(0, vR 11 (283))]) (st := []) km186 k186_29 ?_)
                exact ((h21.1 c23).2.2 c22)
            · refine VL_norm km186 k186_18 (VL_at (al := [(0, vR 11 (283))]) (st := []) km186 k186_18 ?_)
              exact VL_norm km186 k186_19 (h21.2 c23)
          · exact VL_norm km186 k186_11 (h20.2 c24)
/-- BannerParadeModel.next, label 19 -/
theorem w186_19 {D : Nat}  {m : XM} {Q : XM → Prop} {E : Nat → XM → Prop}
    (h : VI (D + 1) 185 [vR 11 (283), vI (m 283 13)] m (fun x1 m1 => ((x1 = (n32 0) → (((n32 4) < ((m1 283 13) - (m1 283 14)) → Q (um m1 (283) 15 (n32 0))) ∧ (¬ (n32 4) < ((m1 283 13) - (m1 283 14)) → Q (um m1 (283) 15 (n32 3))))) ∧ (¬ x1 = (n32 0) → (((n32 4) ≤ ((m1 283 13) - (m1 283 14)) → VLU (D + 2) 186 19 [(0, vR 11 (283))] [] (um m1 (283) 13 ((m1 283 13) + (n32 1))) Q E) ∧ (¬ (n32 4) ≤ ((m1 283 13) - (m1 283 14)) → (xin (m1 283 13) 700 = true ∧ (∀ μ3 : XM, μ3 = um (um m1 (283) 16 ((((n32 10) * (m1 283 16)) + (m1 289 (ix (m1 283 13)))) - (n32 48))) (283) 13 (((um m1 (283) 16 ((((n32 10) * (m1 283 16)) + (m1 289 (ix (m1 283 13)))) - (n32 48))) 283 13) + (n32 1)) → VLU (D + 2) 186 19 [(0, vR 11 (283))] [] μ3 Q E))))))) E) :
    VLU (D + 2) 186 19 [(0, vR 11 (283))] [] m Q E := by
  refine VL_at (al := [(0, vR 11 (283))]) (st := []) km186 k186_19 ?_
  refine V_mono h (fun u1 m1 h1 => ?_) (fun _ _ h => h)
  refine And.intro (fun c5 => ?_) (fun c5 => ?_)
  · refine VL_norm km186 k186_23 (VL_at (al := [(0, vR 11 (283))]) (st := []) km186 k186_23 ?_)
    refine And.intro (fun c2 => ?_) (fun c2 => ?_)
    · refine VL_norm km186 k186_25 (VL_at (al := []) (st := [vR 11 (283)]) km186 k186_25 ?_)
      refine VL_norm km186 k186_26 (VL_at (al := []) (st := [vI (n32 0), vR 11 (283)]) km186 k186_26 ?_)
      exact ((h1.1 c5).1 c2)
    · refine VL_norm km186 k186_24 (VL_at (al := []) (st := [vR 11 (283)]) km186 k186_24 ?_)
      refine VL_norm km186 k186_26 (VL_at (al := []) (st := [vI (n32 3), vR 11 (283)]) km186 k186_26 ?_)
      exact ((h1.1 c5).2 c2)
  · refine VL_norm km186 k186_20 (VL_at (al := [(0, vR 11 (283))]) (st := []) km186 k186_20 ?_)
    refine And.intro (fun c4 => ?_) (fun c4 => ?_)
    · refine VL_norm km186 k186_22 (VL_at (al := [(0, vR 11 (283))]) (st := []) km186 k186_22 ?_)
      exact VL_norm km186 k186_19 ((h1.2 c5).1 c4)
    · refine VL_norm km186 k186_21 (VL_at (al := [(0, vR 11 (283))]) (st := []) km186 k186_21 ?_)
      refine And.intro ((h1.2 c5).2 c4).1 ?_
      refine VL_norm km186 k186_22 (VL_at (al := [(0, vR 11 (283))]) (st := []) km186 k186_22 ?_)
      exact VL_norm km186 k186_19 (((h1.2 c5).2 c4).2 (um (um m1 (283) 16 ((((n32 10) * (m1 283 16)) + (m1 289 (ix (m1 283 13)))) - (n32 48))) (283) 13 (((um m1 (283) 16 ((((n32 10) * (m1 283 16)) + (m1 289 (ix (m1 283 13)))) - (n32 48))) 283 13) + (n32 1))) rfl)
/-- BannerParadeModel.next, label 11 -/
theorem w186_11 {D : Nat}  {m : XM} {Q : XM → Prop} {E : Nat → XM → Prop}
    (h : VI (D + 1) 184 [vR 11 (283), vI (m 283 13)] m (fun x1 m1 => ((x1 = (n32 0) → (((n32 8) < ((m1 283 13) - (m1 283 14)) → Q (um m1 (283) 15 (n32 0))) ∧ (¬ (n32 8) < ((m1 283 13) - (m1 283 14)) → Q (um m1 (283) 15 (n32 2))))) ∧ (¬ x1 = (n32 0) → VLU (D + 2) 186 11 [(0, vR 11 (283))] [] (um m1 (283) 13 ((m1 283 13) + (n32 1))) Q E))) E) :
    VLU (D + 2) 186 11 [(0, vR 11 (283))] [] m Q E := by
  refine VL_at (al := [(0, vR 11 (283))]) (st := []) km186 k186_11 ?_
  refine V_mono h (fun u1 m1 h1 => ?_) (fun _ _ h => h)
  refine And.intro (fun c3 => ?_) (fun c3 => ?_)
  · refine VL_norm km186 k186_13 (VL_at (al := [(0, vR 11 (283))]) (st := []) km186 k186_13 ?_)
    refine And.intro (fun c2 => ?_) (fun c2 => ?_)
    · refine VL_norm km186 k186_15 (VL_at (al := []) (st := [vR 11 (283)]) km186 k186_15 ?_)
      refine VL_norm km186 k186_16 (VL_at (al := []) (st := [vI (n32 0), vR 11 (283)]) km186 k186_16 ?_)
      exact ((h1.1 c3).1 c2)
    · refine VL_norm km186 k186_14 (VL_at (al := []) (st := [vR 11 (283)]) km186 k186_14 ?_)
      refine VL_norm km186 k186_16 (VL_at (al := []) (st := [vI (n32 2), vR 11 (283)]) km186 k186_16 ?_)
      exact ((h1.1 c3).2 c2)
  · refine VL_norm km186 k186_12 (VL_at (al := [(0, vR 11 (283))]) (st := []) km186 k186_12 ?_)
    exact VL_norm km186 k186_11 (h1.2 c3)
/-- BannerParadeModel.faults, label 0 -/
theorem w187_0 {D : Nat} {v1 : Int32} {m : XM} {Q : XM → Prop} {E : Nat → XM → Prop}
    (h : (((m 283 10) ≤ (n32 0) → Q (um (um m (283) 10 v1) (283) 11 ((um m (283) 10 v1) 283 14))) ∧ (¬ (m 283 10) ≤ (n32 0) → Q m))) :
    VU D 187 [vR 11 (283), vI v1] m Q E := by
  refine V_of (VL_at (al := [(0, vR 11 (283)), (1, vI v1)]) (st := []) km187 k187_0 ?_)
  refine And.intro (fun c1 => ?_) (fun c1 => ?_)
  · refine VL_norm km187 k187_2 (VL_at (al := [(0, vR 11 (283)), (1, vI v1)]) (st := []) km187 k187_2 ?_)
    exact (h.1 c1)
  · refine VL_norm km187 k187_1 (VL_at (al := []) (st := []) km187 k187_1 ?_)
    exact (h.2 c1)
/-- BannerParadeModel.isWord, label 0 -/
theorem w189_0 {D : Nat} {a1 : Nat} {m : XM} {Q : Int32 → XM → Prop} {E : Nat → XM → Prop}
    (h : (((m 283 10) = (n32 0) → (((m 283 15) = (n32 2) → VI (D + 3) 391 [vR 30 (a1)] m (fun x1 m1 => ((((m 283 13) - (m 283 14)) = x1 → VLI (D + 4) 189 4 [(0, vR 11 (283)), (1, vR 30 (a1)), (2, vI (n32 0))] [] m1 Q E) ∧ (¬ ((m 283 13) - (m 283 14)) = x1 → Q (n32 0) m1))) E) ∧ (¬ (m 283 15) = (n32 2) → Q (n32 0) m))) ∧ (¬ (m 283 10) = (n32 0) → Q (n32 0) m))) :
    VI (D + 4) 189 [vR 11 (283), vR 30 (a1)] m Q E := by
  refine V_of (VL_at (al := [(0, vR 11 (283)), (1, vR 30 (a1))]) (st := []) km189 k189_0 ?_)
  refine V_of ?_
  refine VL_norm km188 k188_0 (VL_at (al := [(0, vR 11 (283)), (1, vI (n32 2))]) (st := []) km188 k188_0 ?_)
  refine And.intro (fun c4 => ?_) (fun c4 => ?_)
  · refine VL_norm km188 k188_1 (VL_at (al := [(0, vR 11 (283)), (1, vI (n32 2))]) (st := []) km188 k188_1 ?_)
    refine And.intro (fun c3 => ?_) (fun c3 => ?_)
    · refine VL_norm km188 k188_2 (VL_at (al := []) (st := []) km188 k188_2 ?_)
      refine VL_norm km188 k188_4 (VL_at (al := []) (st := [vI (n32 1)]) km188 k188_4 ?_)
      refine And.intro xrt21 ?_
      refine And.intro (fun c => absurd c (by decide)) (fun _ => ?_)
      refine VL_norm km189 k189_1 (VL_at (al := [(0, vR 11 (283)), (1, vR 30 (a1))]) (st := []) km189 k189_1 ?_)
      refine V_mono ((h.1 c4).1 c3) (fun u1 m1 h1 => ?_) (fun _ _ h => h)
      refine And.intro (fun c2 => ?_) (fun c2 => ?_)
      · refine VL_norm km189 k189_3 (VL_at (al := [(0, vR 11 (283)), (1, vR 30 (a1))]) (st := []) km189 k189_3 ?_)
        exact VL_norm km189 k189_4 (h1.1 c2)
      · refine VL_norm km189 k189_2 (VL_at (al := []) (st := []) km189 k189_2 ?_)
        refine And.intro xrt20 ?_
        exact (h1.2 c2)
    · refine VL_norm km188 k188_3 (VL_at (al := []) (st := []) km188 k188_3 ?_)
      refine VL_norm km188 k188_4 (VL_at (al := []) (st := [vI (n32 0)]) km188 k188_4 ?_)
      refine And.intro xrt20 ?_
      refine And.intro (fun _ => ?_) (fun c => absurd (by decide) c)
      refine VL_norm km189 k189_2 (VL_at (al := []) (st := []) km189 k189_2 ?_)
      refine And.intro xrt20 ?_
      exact ((h.1 c4).2 c3)
  · refine VL_norm km188 k188_3 (VL_at (al := []) (st := []) km188 k188_3 ?_)
    refine VL_norm km188 k188_4 (VL_at (al := []) (st := [vI (n32 0)]) km188 k188_4 ?_)
    refine And.intro xrt20 ?_
    refine And.intro (fun _ => ?_) (fun c => absurd (by decide) c)
    refine VL_norm km189 k189_2 (VL_at (al := []) (st := []) km189 k189_2 ?_)
    refine And.intro xrt20 ?_
    exact (h.2 c4)
/-- BannerParadeModel.isWord, label 4 -/
theorem w189_4 {D : Nat} {a1 : Nat} {v2 : Int32} {m : XM} {Q : Int32 → XM → Prop} {E : Nat → XM → Prop}
    (h : VI (D + 3) 391 [vR 30 (a1)] m (fun x1 m1 => ((x1 ≤ v2 → Q (n32 1) m1) ∧ (¬ x1 ≤ v2 → (xin ((m1 283 14) + v2) 700 = true ∧ VI (D + 3) 392 [vR 30 (a1), vI v2] m1 (fun x2 m2 => (((m1 289 (ix ((m1 283 14) + v2))) = x2 → VLI (D + 4) 189 4 [(0, vR 11 (283)), (1, vR 30 (a1)), (2, vI (v2 + (n32 1)))] [] m2 Q E) ∧ (¬ (m1 289 (ix ((m1 283 14) + v2))) = x2 → Q (n32 0) m2))) E)))) E) :
    VLI (D + 4) 189 4 [(0, vR 11 (283)), (1, vR 30 (a1)), (2, vI v2)] [] m Q E := by
  refine VL_at (al := [(0, vR 11 (283)), (1, vR 30 (a1)), (2, vI v2)]) (st := []) km189 k189_4 ?_
  refine V_mono h (fun u1 m1 h1 => ?_) (fun _ _ h => h)
  refine And.intro (fun c4 => ?_) (fun c4 => ?_)
  · refine VL_norm km189 k189_8 (VL_at (al := []) (st := []) km189 k189_8 ?_)
    refine And.intro xrt21 ?_
    exact (h1.1 c4)
  · refine VL_norm km189 k189_5 (VL_at (al := [(0, vR 11 (283)), (1, vR 30 (a1)), (2, vI v2)]) (st := []) km189 k189_5 ?_)
    refine And.intro (h1.2 c4).1 ?_
    refine V_mono (h1.2 c4).2 (fun u2 m2 h2 => ?_) (fun _ _ h => h)
    refine And.intro (fun c3 => ?_) (fun c3 => ?_)
    · refine VL_norm km189 k189_7 (VL_at (al := [(0, vR 11 (283)), (1, vR 30 (a1)), (2, vI v2)]) (st := []) km189 k189_7 ?_)
      exact VL_norm km189 k189_4 (h2.1 c3)
    · refine VL_norm km189 k189_6 (VL_at (al := []) (st := []) km189 k189_6 ?_)
      refine And.intro xrt20 ?_
      exact (h2.2 c3)
/-- BannerParadeModel.takes, label 0 -/
theorem w190_0 {D : Nat} {a1 : Nat} {m : XM} {Q : XM → Prop} {E : Nat → XM → Prop}
    (h : VI (D + 4) 189 [vR 11 (283), vR 30 (a1)] m (fun x1 m1 => ((x1 = (n32 0) → VU (D + 4) 187 [vR 11 (283), vI (n32 1)] m1 (fun m2 => VU (D + 4) 186 [vR 11 (283)] m2 (fun m3 => Q m3) E) E) ∧ (¬ x1 = (n32 0) → VU (D + 4) 186 [vR 11 (283)] m1 (fun m4 => Q m4) E))) E) :
    VU (D + 5) 190 [vR 11 (283), vR 30 (a1)] m Q E := by
  refine V_of (VL_at (al := [(0, vR 11 (283)), (1, vR 30 (a1))]) (st := []) km190 k190_0 ?_)
  refine V_mono h (fun u1 m1 h1 => ?_) (fun _ _ h => h)
  refine And.intro (fun c5 => ?_) (fun c5 => ?_)
  · refine VL_norm km190 k190_1 (VL_at (al := [(0, vR 11 (283))]) (st := []) km190 k190_1 ?_)
    refine V_mono (h1.1 c5) (fun u2 m2 h2 => ?_) (fun _ _ h => h)
    refine VL_norm km190 k190_2 (VL_at (al := [(0, vR 11 (283))]) (st := []) km190 k190_2 ?_)
    refine V_mono h2 (fun u3 m3 h3 => ?_) (fun _ _ h => h)
    exact h3
  · refine VL_norm km190 k190_2 (VL_at (al := [(0, vR 11 (283))]) (st := []) km190 k190_2 ?_)
    refine V_mono (h1.2 c5) (fun u4 m4 h4 => ?_) (fun _ _ h => h)
    exact h4
/-- BannerParadeModel.number, label 0 -/
theorem w191_0 {D : Nat} {v1 : Int32} {v2 : Int32} {m : XM} {Q : Int32 → XM → Prop} {E : Nat → XM → Prop}
    (h : (((m 283 10) = (n32 0) → (((m 283 15) = (n32 3) → (((m 283 16) < v1 → VU (D + 2) 187 [vR 11 (283), vI (n32 2)] m (fun m1 => VU (D + 2) 186 [vR 11 (283)] m1 (fun m2 => (((m2 283 10) ≤ (n32 0) → Q (m1 283 16) m2) ∧ (¬ (m2 283 10) ≤ (n32 0) → Q v1 m2))) E) E) ∧ (¬ (m 283 16) < v1 → ((v2 < (m 283 16) → VU (D + 2) 187 [vR 11 (283), vI (n32 2)] m (fun m4 => VU (D + 2) 186 [vR 11 (283)] m4 (fun m5 => (((m5 283 10) ≤ (n32 0) → Q (m4 283 16) m5) ∧ (¬ (m5 283 10) ≤ (n32 0) → Q v1 m5))) E) E) ∧ (¬ v2 < (m 283 16) → VU (D + 2) 186 [vR 11 (283)] m (fun m7 => (((m7 283 10) ≤ (n32 0) → Q (m 283 16) m7) ∧ (¬ (m7 283 10) ≤ (n32 0) → Q v1 m7))) E))))) ∧ (¬ (m 283 15) = (n32 3) → VU (D + 2) 187 [vR 11 (283), vI (n32 1)] m (fun m11 => VU (D + 2) 186 [vR 11 (283)] m11 (fun m12 => (((m12 283 10) ≤ (n32 0) → Q (m11 283 16) m12) ∧ (¬ (m12 283 10) ≤ (n32 0) → Q v1 m12))) E) E))) ∧ (¬ (m 283 10) = (n32 0) → VU (D + 2) 187 [vR 11 (283), vI (n32 1)] m (fun m15 => VU (D + 2) 186 [vR 11 (283)] m15 (fun m16 => (((m16 283 10) ≤ (n32 0) → Q (m15 283 16) m16) ∧ (¬ (m16 283 10) ≤ (n32 0) → Q v1 m16))) E) E))) :
    VI (D + 3) 191 [vR 11 (283), vI v1, vI v2] m Q E := by
  refine V_of (VL_at (al := [(0, vR 11 (283)), (1, vI v1), (2, vI v2)]) (st := []) km191 k191_0 ?_)
  refine V_of ?_
  refine VL_norm km188 k188_0 (VL_at (al := [(0, vR 11 (283)), (1, vI (n32 3))]) (st := []) km188 k188_0 ?_)
  refine And.intro (fun c18 => ?_) (fun c18 => ?_)
  · refine VL_norm km188 k188_1 (VL_at (al := [(0, vR 11 (283)), (1, vI (n32 3))]) (st := []) km188 k188_1 ?_)
    refine And.intro (fun c14 => ?_) (fun c14 => ?_)
    · refine VL_norm km188 k188_2 (VL_at (al := []) (st := []) km188 k188_2 ?_)
      refine VL_norm km188 k188_4 (VL_at (al := []) (st := [vI (n32 1)]) km188 k188_4 ?_)
      refine And.intro xrt21 ?_
      refine And.intro (fun c => absurd c (by decide)) (fun _ => ?_)
      refine VL_norm km191 k191_2 (VL_at (al := [(0, vR 11 (283)), (1, vI v1), (2, vI v2)]) (st := []) km191 k191_2 ?_)
      refine V_of ?_
      refine VL_norm km175 k175_0 (VL_at (al := [(0, vI (m 283 16)), (1, vI v1), (2, vI v2)]) (st := []) km175 k175_0 ?_)
      refine And.intro (fun c10 => ?_) (fun c10 => ?_)
      · refine VL_norm km175 k175_3 (VL_at (al := []) (st := []) km175 k175_3 ?_)
        refine VL_norm km175 k175_4 (VL_at (al := []) (st := [vI (n32 0)]) km175 k175_4 ?_)
        refine And.intro xrt20 ?_
        refine And.intro (fun _ => ?_) (fun c => absurd (by decide) c)
        refine VL_norm km191 k191_3 (VL_at (al := [(0, vR 11 (283)), (1, vI v1)]) (st := []) km191 k191_3 ?_)
        refine V_mono (((h.1 c18).1 c14).1 c10) (fun u1 m1 h1 => ?_) (fun _ _ h => h)
        refine VL_norm km191 k191_4 (VL_at (al := [(0, vR 11 (283)), (1, vI v1)]) (st := []) km191 k191_4 ?_)
        refine V_mono h1 (fun u2 m2 h2 => ?_) (fun _ _ h => h)
        refine And.intro (fun c3 => ?_) (fun c3 => ?_)
        · refine VL_norm km191 k191_6 (VL_at (al := [(3, vI (m1 283 16))]) (st := []) km191 k191_6 ?_)
          refine VL_norm km191 k191_7 (VL_at (al := []) (st := [vI (m1 283 16)]) km191 k191_7 ?_)
          exact (h2.1 c3)
        · refine VL_norm km191 k191_5 (VL_at (al := [(1, vI v1)]) (st := []) km191 k191_5 ?_)
          refine VL_norm km191 k191_7 (VL_at (al := []) (st := [vI v1]) km191 k191_7 ?_)
          exact (h2.2 c3)
      · refine VL_norm km175 k175_1 (VL_at (al := [(0, vI (m 283 16)), (2, vI v2)]) (st := []) km175 k175_1 ?_)
        refine And.intro (fun c9 => ?_) (fun c9 => ?_)
        · refine VL_norm km175 k175_3 (VL_at (al := []) (st := []) km175 k175_3 ?_)
          refine VL_norm km175 k175_4 (VL_at (al := []) (st := [vI (n32 0)]) km175 k175_4 ?_)
          refine And.intro xrt20 ?_
          refine And.intro (fun _ => ?_) (fun c => absurd (by decide) c)
          refine VL_norm km191 k191_3 (VL_at (al := [(0, vR 11 (283)), (1, vI v1)]) (st := []) km191 k191_3 ?_)
          refine V_mono ((((h.1 c18).1 c14).2 c10).1 c9) (fun u4 m4 h4 => ?_) (fun _ _ h => h)
          refine VL_norm km191 k191_4 (VL_at (al := [(0, vR 11 (283)), (1, vI v1)]) (st := []) km191 k191_4 ?_)
          refine V_mono h4 (fun u5 m5 h5 => ?_) (fun _ _ h => h)
          refine And.intro (fun c6 => ?_) (fun c6 => ?_)
          · refine VL_norm km191 k191_6 (VL_at (al := [(3, vI (m4 283 16))]) (st := []) km191 k191_6 ?_)
            refine VL_norm km191 k191_7 (VL_at (al := []) (st := [vI (m4 283 16)]) km191 k191_7 ?_)
            exact (h5.1 c6)
          · refine VL_norm km191 k191_5 (VL_at (al := [(1, vI v1)]) (st := []) km191 k191_5 ?_)
            refine VL_norm km191 k191_7 (VL_at (al := []) (st := [vI v1]) km191 k191_7 ?_)
            exact (h5.2 c6)
        · refine VL_norm km175 k175_2 (VL_at (al := []) (st := []) km175 k175_2 ?_)
          refine VL_norm km175 k175_4 (VL_at (al := []) (st := [vI (n32 1)]) km175 k175_4 ?_)
          refine And.intro xrt21 ?_
          refine And.intro (fun c => absurd c (by decide)) (fun _ => ?_)
          refine VL_norm km191 k191_4 (VL_at (al := [(0, vR 11 (283)), (1, vI v1)]) (st := []) km191 k191_4 ?_)
          refine V_mono ((((h.1 c18).1 c14).2 c10).2 c9) (fun u7 m7 h7 => ?_) (fun _ _ h => h)
          refine And.intro (fun c8 => ?_) (fun c8 => ?_)
          · refine VL_norm km191 k191_6 (VL_at (al := [(3, vI (m 283 16))]) (st := []) km191 k191_6 ?_)
            refine VL_norm km191 k191_7 (VL_at (al := []) (st := [vI (m 283 16)]) km191 k191_7 ?_)
            exact (h7.1 c8)
          · refine VL_norm km191 k191_5 (VL_at (al := [(1, vI v1)]) (st := []) km191 k191_5 ?_)
            refine VL_norm km191 k191_7 (VL_at (al := []) (st := [vI v1]) km191 k191_7 ?_)
            exact (h7.2 c8)
    · refine VL_norm km188 k188_3 (VL_at (al := []) (st := []) km188 k188_3 ?_)
      refine VL_norm km188 k188_4 (VL_at (al := []) (st := [vI (n32 0)]) km188 k188_4 ?_)
      refine And.intro xrt20 ?_
      refine And.intro (fun _ => ?_) (fun c => absurd (by decide) c)
      refine VL_norm km191 k191_1 (VL_at (al := [(0, vR 11 (283)), (1, vI v1)]) (st := []) km191 k191_1 ?_)
      refine V_mono ((h.1 c18).2 c14) (fun u11 m11 h11 => ?_) (fun _ _ h => h)
      refine VL_norm km191 k191_4 (VL_at (al := [(0, vR 11 (283)), (1, vI v1)]) (st := []) km191 k191_4 ?_)
      refine V_mono h11 (fun u12 m12 h12 => ?_) (fun _ _ h => h)
      refine And.intro (fun c13 => ?_) (fun c13 => ?_)
      · refine VL_norm km191 k191_6 (VL_at (al := [(3, vI (m11 283 16))]) (st := []) km191 k191_6 ?_)
        refine VL_norm km191 k191_7 (VL_at (al := []) (st := [vI (m11 283 16)]) km191 k191_7 ?_)
        exact (h12.1 c13)
      · refine VL_norm km191 k191_5 (VL_at (al := [(1, vI v1)]) (st := []) km191 k191_5 ?_)
        refine VL_norm km191 k191_7 (VL_at (al := []) (st := [vI v1]) km191 k191_7 ?_)
        exact (h12.2 c13)
  · refine VL_norm km188 k188_3 (VL_at (al := []) (st := []) km188 k188_3 ?_)
    refine VL_norm km188 k188_4 (VL_at (al := []) (st := [vI (n32 0)]) km188 k188_4 ?_)
    refine And.intro xrt20 ?_
    refine And.intro (fun _ => ?_) (fun c => absurd (by decide) c)
    refine VL_norm km191 k191_1 (VL_at (al := [(0, vR 11 (283)), (1, vI v1)]) (st := []) km191 k191_1 ?_)
    refine V_mono (h.2 c18) (fun u15 m15 h15 => ?_) (fun _ _ h => h)
    refine VL_norm km191 k191_4 (VL_at (al := [(0, vR 11 (283)), (1, vI v1)]) (st := []) km191 k191_4 ?_)
    refine V_mono h15 (fun u16 m16 h16 => ?_) (fun _ _ h => h)
    refine And.intro (fun c17 => ?_) (fun c17 => ?_)
    · refine VL_norm km191 k191_6 (VL_at (al := [(3, vI (m15 283 16))]) (st := []) km191 k191_6 ?_)
      refine VL_norm km191 k191_7 (VL_at (al := []) (st := [vI (m15 283 16)]) km191 k191_7 ?_)
      exact (h16.1 c17)
    · refine VL_norm km191 k191_5 (VL_at (al := [(1, vI v1)]) (st := []) km191 k191_5 ?_)
      refine VL_norm km191 k191_7 (VL_at (al := []) (st := [vI v1]) km191 k191_7 ?_)
      exact (h16.2 c17)
/-- BannerParadeModel.lowOf, label 0 -/
theorem w192_0 {D : Nat} {v0 : Int32} {m : XM} {Q : Int32 → XM → Prop} {E : Nat → XM → Prop}
    (h : ((v0 = (n32 0) → Q (n32 1) m) ∧ (¬ v0 = (n32 0) → ((v0 = (n32 2) → Q (n32 1) m) ∧ (¬ v0 = (n32 2) → ((v0 = (n32 4) → Q (n32 1) m) ∧ (¬ v0 = (n32 4) → Q (n32 0) m))))))) :
    VI D 192 [vI v0] m Q E := by
  refine V_of (VL_at (al := [(0, vI v0)]) (st := []) km192 k192_0 ?_)
  refine And.intro (fun c3 => ?_) (fun c3 => ?_)
  · refine VL_norm km192 k192_3 (VL_at (al := []) (st := []) km192 k192_3 ?_)
    refine VL_norm km192 k192_5 (VL_at (al := []) (st := [vI (n32 1)]) km192 k192_5 ?_)
    exact (h.1 c3)
  · refine VL_norm km192 k192_1 (VL_at (al := [(0, vI v0)]) (st := []) km192 k192_1 ?_)
    refine And.intro (fun c2 => ?_) (fun c2 => ?_)
    · refine VL_norm km192 k192_3 (VL_at (al := []) (st := []) km192 k192_3 ?_)
      refine VL_norm km192 k192_5 (VL_at (al := []) (st := [vI (n32 1)]) km192 k192_5 ?_)
      exact ((h.2 c3).1 c2)
    · refine VL_norm km192 k192_2 (VL_at (al := [(0, vI v0)]) (st := []) km192 k192_2 ?_)
      refine And.intro (fun c1 => ?_) (fun c1 => ?_)
      · refine VL_norm km192 k192_3 (VL_at (al := []) (st := []) km192 k192_3 ?_)
        refine VL_norm km192 k192_5 (VL_at (al := []) (st := [vI (n32 1)]) km192 k192_5 ?_)
        exact (((h.2 c3).2 c2).1 c1)
      · refine VL_norm km192 k192_4 (VL_at (al := []) (st := []) km192 k192_4 ?_)
        refine VL_norm km192 k192_5 (VL_at (al := []) (st := [vI (n32 0)]) km192 k192_5 ?_)
        exact (((h.2 c3).2 c2).2 c1)
/-- BannerParadeModel.highOf, label 0 -/
theorem w193_0 {D : Nat} {v0 : Int32} {m : XM} {Q : Int32 → XM → Prop} {E : Nat → XM → Prop}
    (h : ((v0 = (n32 0) → Q (n32 999) m) ∧ (¬ v0 = (n32 0) → ((v0 = (n32 1) → Q (n32 9999) m) ∧ (¬ v0 = (n32 1) → ((v0 = (n32 2) → Q (n32 9999) m) ∧ (¬ v0 = (n32 2) → ((v0 = (n32 3) → Q (n32 50) m) ∧ (¬ v0 = (n32 3) → ((v0 = (n32 4) → Q (n32 100) m) ∧ (¬ v0 = (n32 4) → Q (n32 9999) m))))))))))) :
    VI D 193 [vI v0] m Q E := by
  refine V_of (VL_at (al := [(0, vI v0)]) (st := []) km193 k193_0 ?_)
  refine And.intro (fun c5 => ?_) (fun c5 => ?_)
  · refine VL_norm km193 k193_1 (VL_at (al := []) (st := []) km193 k193_1 ?_)
    exact (h.1 c5)
  · refine And.intro (fun c4 => ?_) (fun c4 => ?_)
    · refine VL_norm km193 k193_4 (VL_at (al := []) (st := []) km193 k193_4 ?_)
      exact ((h.2 c5).1 c4)
    · refine And.intro (fun c3 => ?_) (fun c3 => ?_)
      · refine VL_norm km193 k193_4 (VL_at (al := []) (st := []) km193 k193_4 ?_)
        exact (((h.2 c5).2 c4).1 c3)
      · refine And.intro (fun c2 => ?_) (fun c2 => ?_)
        · refine VL_norm km193 k193_2 (VL_at (al := []) (st := []) km193 k193_2 ?_)
          exact ((((h.2 c5).2 c4).2 c3).1 c2)
        · refine And.intro (fun c1 => ?_) (fun c1 => ?_)
          · refine VL_norm km193 k193_3 (VL_at (al := []) (st := []) km193 k193_3 ?_)
            exact (((((h.2 c5).2 c4).2 c3).2 c2).1 c1)
          · refine VL_norm km193 k193_4 (VL_at (al := []) (st := []) km193 k193_4 ?_)
            exact (((((h.2 c5).2 c4).2 c3).2 c2).2 c1)
/-- BannerParadeModel.begins, label 0 -/
theorem w194_0 {D : Nat} {v1 : Int32} {v2 : Int32} {m : XM} {Q : Int32 → XM → Prop} {E : Nat → XM → Prop}
    (h : (xin v1 243 = true ∧ (((m 284 (ix v1)) = v2 → VU (D + 2) 187 [vR 11 (283), vI (n32 4)] m (fun m1 => VU (D + 2) 186 [vR 11 (283)] m1 (fun m2 => (((m2 283 10) = (n32 0) → Q (n32 1) m2) ∧ (¬ (m2 283 10) = (n32 0) → Q (n32 0) m2))) E) E) ∧ (¬ (m 284 (ix v1)) = v2 → VU (D + 2) 186 [vR 11 (283)] m (fun m4 => (((m4 283 10) = (n32 0) → Q (n32 1) m4) ∧ (¬ (m4 283 10) = (n32 0) → Q (n32 0) m4))) E)))) :
    VI (D + 3) 194 [vR 11 (283), vI v1, vI v2] m Q E := by
  refine V_of (VL_at (al := [(0, vR 11 (283)), (1, vI v1), (2, vI v2)]) (st := []) km194 k194_0 ?_)
  refine And.intro h.1 ?_
  refine And.intro (fun c6 => ?_) (fun c6 => ?_)
  · refine VL_norm km194 k194_1 (VL_at (al := [(0, vR 11 (283))]) (st := []) km194 k194_1 ?_)
    refine V_mono (h.2.1 c6) (fun u1 m1 h1 => ?_) (fun _ _ h => h)
    refine VL_norm km194 k194_2 (VL_at (al := [(0, vR 11 (283))]) (st := []) km194 k194_2 ?_)
    refine V_mono h1 (fun u2 m2 h2 => ?_) (fun _ _ h => h)
    refine And.intro (fun c3 => ?_) (fun c3 => ?_)
    · refine VL_norm km194 k194_3 (VL_at (al := []) (st := []) km194 k194_3 ?_)
      refine VL_norm km194 k194_5 (VL_at (al := []) (st := [vI (n32 1)]) km194 k194_5 ?_)
      refine And.intro xrt21 ?_
      exact (h2.1 c3)
    · refine VL_norm km194 k194_4 (VL_at (al := []) (st := []) km194 k194_4 ?_)
      refine VL_norm km194 k194_5 (VL_at (al := []) (st := [vI (n32 0)]) km194 k194_5 ?_)
      refine And.intro xrt20 ?_
      exact (h2.2 c3)
  · refine VL_norm km194 k194_2 (VL_at (al := [(0, vR 11 (283))]) (st := []) km194 k194_2 ?_)
    refine V_mono (h.2.2 c6) (fun u4 m4 h4 => ?_) (fun _ _ h => h)
    refine And.intro (fun c5 => ?_) (fun c5 => ?_)
    · refine VL_norm km194 k194_3 (VL_at (al := []) (st := []) km194 k194_3 ?_)
      refine VL_norm km194 k194_5 (VL_at (al := []) (st := [vI (n32 1)]) km194 k194_5 ?_)
      refine And.intro xrt21 ?_
      exact (h4.1 c5)
    · refine VL_norm km194 k194_4 (VL_at (al := []) (st := []) km194 k194_4 ?_)
      refine VL_norm km194 k194_5 (VL_at (al := []) (st := [vI (n32 0)]) km194 k194_5 ?_)
      refine And.intro xrt20 ?_
      exact (h4.2 c5)
/-- BannerParadeModel.letterHere, label 0 -/
theorem w195_0 {D : Nat}  {m : XM} {Q : Int32 → XM → Prop} {E : Nat → XM → Prop}
    (h : (((m 283 10) = (n32 0) → (((m 283 15) = (n32 2) → ((((m 283 13) - (m 283 14)) = (n32 1) → (((m 283 10) ≤ (n32 0) → (xin (m 283 14) 700 = true ∧ VU (D + 2) 186 [vR 11 (283)] m (fun m1 => Q (((m 289 (ix (m 283 14))) - (n32 97)) + (n32 1)) m1) E)) ∧ (¬ (m 283 10) ≤ (n32 0) → VU (D + 2) 186 [vR 11 (283)] m (fun m2 => Q (n32 1) m2) E))) ∧ (¬ ((m 283 13) - (m 283 14)) = (n32 1) → VU (D + 2) 187 [vR 11 (283), vI (n32 1)] m (fun m4 => (((m4 283 10) ≤ (n32 0) → (xin (m4 283 14) 700 = true ∧ VU (D + 2) 186 [vR 11 (283)] m4 (fun m5 => Q (((m4 289 (ix (m4 283 14))) - (n32 97)) + (n32 1)) m5) E)) ∧ (¬ (m4 283 10) ≤ (n32 0) → VU (D + 2) 186 [vR 11 (283)] m4 (fun m6 => Q (n32 1) m6) E))) E))) ∧ (¬ (m 283 15) = (n32 2) → VU (D + 2) 187 [vR 11 (283), vI (n32 1)] m (fun m9 => (((m9 283 10) ≤ (n32 0) → (xin (m9 283 14) 700 = true ∧ VU (D + 2) 186 [vR 11 (283)] m9 (fun m10 => Q (((m9 289 (ix (m9 283 14))) - (n32 97)) + (n32 1)) m10) E)) ∧ (¬ (m9 283 10) ≤ (n32 0) → VU (D + 2) 186 [vR 11 (283)] m9 (fun m11 => Q (n32 1) m11) E))) E))) ∧ (¬ (m 283 10) = (n32 0) → VU (D + 2) 187 [vR 11 (283), vI (n32 1)] m (fun m14 => (((m14 283 10) ≤ (n32 0) → (xin (m14 283 14) 700 = true ∧ VU (D + 2) 186 [vR 11 (283)] m14 (fun m15 => Q (((m14 289 (ix (m14 283 14))) - (n32 97)) + (n32 1)) m15) E)) ∧ (¬ (m14 283 10) ≤ (n32 0) → VU (D + 2) 186 [vR 11 (283)] m14 (fun m16 => Q (n32 1) m16) E))) E))) :
    VI (D + 3) 195 [vR 11 (283)] m Q E := by
  refine V_of (VL_at (al := [(0, vR 11 (283))]) (st := []) km195 k195_0 ?_)
  refine V_of ?_
  refine VL_norm km188 k188_0 (VL_at (al := [(0, vR 11 (283)), (1, vI (n32 2))]) (st := []) km188 k188_0 ?_)
  refine And.intro (fun c18 => ?_) (fun c18 => ?_)
  · refine VL_norm km188 k188_1 (VL_at (al := [(0, vR 11 (283)), (1, vI (n32 2))]) (st := []) km188 k188_1 ?_)
    refine And.intro (fun c13 => ?_) (fun c13 => ?_)
    · refine VL_norm km188 k188_2 (VL_at (al := []) (st := []) km188 k188_2 ?_)
      refine VL_norm km188 k188_4 (VL_at (al := []) (st := [vI (n32 1)]) km188 k188_4 ?_)
      refine And.intro xrt21 ?_
      refine And.intro (fun c => absurd c (by decide)) (fun _ => ?_)
      refine VL_norm km195 k195_1 (VL_at (al := [(0, vR 11 (283))]) (st := []) km195 k195_1 ?_)
      refine And.intro (fun c8 => ?_) (fun c8 => ?_)
      · refine VL_norm km195 k195_3 (VL_at (al := [(0, vR 11 (283))]) (st := []) km195 k195_3 ?_)
        refine And.intro (fun c3 => ?_) (fun c3 => ?_)
        · refine VL_norm km195 k195_5 (VL_at (al := [(0, vR 11 (283))]) (st := []) km195 k195_5 ?_)
          refine And.intro ((((h.1 c18).1 c13).1 c8).1 c3).1 ?_
          refine VL_norm km195 k195_6 (VL_at (al := [(0, vR 11 (283))]) (st := [vI (((m 289 (ix (m 283 14))) - (n32 97)) + (n32 1))]) km195 k195_6 ?_)
          refine V_mono ((((h.1 c18).1 c13).1 c8).1 c3).2 (fun u1 m1 h1 => ?_) (fun _ _ h => h)
          exact h1
        · refine VL_norm km195 k195_4 (VL_at (al := [(0, vR 11 (283))]) (st := []) km195 k195_4 ?_)
          refine VL_norm km195 k195_6 (VL_at (al := [(0, vR 11 (283))]) (st := [vI (n32 1)]) km195 k195_6 ?_)
          refine V_mono ((((h.1 c18).1 c13).1 c8).2 c3) (fun u2 m2 h2 => ?_) (fun _ _ h => h)
          exact h2
      · refine VL_norm km195 k195_2 (VL_at (al := [(0, vR 11 (283))]) (st := []) km195 k195_2 ?_)
        refine V_mono (((h.1 c18).1 c13).2 c8) (fun u4 m4 h4 => ?_) (fun _ _ h => h)
        refine VL_norm km195 k195_3 (VL_at (al := [(0, vR 11 (283))]) (st := []) km195 k195_3 ?_)
        refine And.intro (fun c7 => ?_) (fun c7 => ?_)
        · refine VL_norm km195 k195_5 (VL_at (al := [(0, vR 11 (283))]) (st := []) km195 k195_5 ?_)
          refine And.intro (h4.1 c7).1 ?_
          refine VL_norm km195 k195_6 (VL_at (al := [(0, vR 11 (283))]) (st := [vI (((m4 289 (ix (m4 283 14))) - (n32 97)) + (n32 1))]) km195 k195_6 ?_)
          refine V_mono (h4.1 c7).2 (fun u5 m5 h5 => ?_) (fun _ _ h => h)
          exact h5
        · refine VL_norm km195 k195_4 (VL_at (al := [(0, vR 11 (283))]) (st := []) km195 k195_4 ?_)
          refine VL_norm km195 k195_6 (VL_at (al := [(0, vR 11 (283))]) (st := [vI (n32 1)]) km195 k195_6 ?_)
          refine V_mono (h4.2 c7) (fun u6 m6 h6 => ?_) (fun _ _ h => h)
          exact h6
    · refine VL_norm km188 k188_3 (VL_at (al := []) (st := []) km188 k188_3 ?_)
      refine VL_norm km188 k188_4 (VL_at (al := []) (st := [vI (n32 0)]) km188 k188_4 ?_)
      refine And.intro xrt20 ?_
      refine And.intro (fun _ => ?_) (fun c => absurd (by decide) c)
      refine VL_norm km195 k195_2 (VL_at (al := [(0, vR 11 (283))]) (st := []) km195 k195_2 ?_)
      refine V_mono ((h.1 c18).2 c13) (fun u9 m9 h9 => ?_) (fun _ _ h => h)
      refine VL_norm km195 k195_3 (VL_at (al := [(0, vR 11 (283))]) (st := []) km195 k195_3 ?_)
      refine And.intro (fun c12 => ?_) (fun c12 => ?_)
      · refine VL_norm km195 k195_5 (VL_at (al := [(0, vR 11 (283))]) (st := []) km195 k195_5 ?_)
        refine And.intro (h9.1 c12).1 ?_
        refine VL_norm km195 k195_6 (VL_at (al := [(0, vR 11 (283))]) (st := [vI (((m9 289 (ix (m9 283 14))) - (n32 97)) + (n32 1))]) km195 k195_6 ?_)
        refine V_mono (h9.1 c12).2 (fun u10 m10 h10 => ?_) (fun _ _ h => h)
        exact h10
      · refine VL_norm km195 k195_4 (VL_at (al := [(0, vR 11 (283))]) (st := []) km195 k195_4 ?_)
        refine VL_norm km195 k195_6 (VL_at (al := [(0, vR 11 (283))]) (st := [vI (n32 1)]) km195 k195_6 ?_)
        refine V_mono (h9.2 c12) (fun u11 m11 h11 => ?_) (fun _ _ h => h)
        exact h11
  · refine VL_norm km188 k188_3 (VL_at (al := []) (st := []) km188 k188_3 ?_)
    refine VL_norm km188 k188_4 (VL_at (al := []) (st := [vI (n32 0)]) km188 k188_4 ?_)
    refine And.intro xrt20 ?_
    refine And.intro (fun _ => ?_) (fun c => absurd (by decide) c)
    refine VL_norm km195 k195_2 (VL_at (al := [(0, vR 11 (283))]) (st := []) km195 k195_2 ?_)
    refine V_mono (h.2 c18) (fun u14 m14 h14 => ?_) (fun _ _ h => h)
    refine VL_norm km195 k195_3 (VL_at (al := [(0, vR 11 (283))]) (st := []) km195 k195_3 ?_)
    refine And.intro (fun c17 => ?_) (fun c17 => ?_)
    · refine VL_norm km195 k195_5 (VL_at (al := [(0, vR 11 (283))]) (st := []) km195 k195_5 ?_)
      refine And.intro (h14.1 c17).1 ?_
      refine VL_norm km195 k195_6 (VL_at (al := [(0, vR 11 (283))]) (st := [vI (((m14 289 (ix (m14 283 14))) - (n32 97)) + (n32 1))]) km195 k195_6 ?_)
      refine V_mono (h14.1 c17).2 (fun u15 m15 h15 => ?_) (fun _ _ h => h)
      exact h15
    · refine VL_norm km195 k195_4 (VL_at (al := [(0, vR 11 (283))]) (st := []) km195 k195_4 ?_)
      refine VL_norm km195 k195_6 (VL_at (al := [(0, vR 11 (283))]) (st := [vI (n32 1)]) km195 k195_6 ?_)
      refine V_mono (h14.2 c17) (fun u16 m16 h16 => ?_) (fun _ _ h => h)
      exact h16
