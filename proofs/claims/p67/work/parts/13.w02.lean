/-! Verification conditions (written by program: wip/whole/mkw.py). -/
/-- BannerParade.plan, label 0 -/
theorem w100_0 {D : Nat} {v1 : Int32} {v2 : Int32} {m : XM} {Q : Int32 → XM → Prop} {E : Nat → XM → Prop}
    (h : (((m 0 7) = (n32 0) → E 0 m) ∧ (¬ (m 0 7) = (n32 0) → ((v1 < (n32 0) → E 2 m) ∧ (¬ v1 < (n32 0) → ((v1 < (m (29 + 16) 0) → ((v2 < (n32 0) → E 1 m) ∧ (¬ v2 < (n32 0) → (((n32 3) < v2 → E 1 m) ∧ (¬ (n32 3) < v2 → ((v2 = (n32 0) → (xin v1 12 = true ∧ Q (m (29 + 16 + 1) (ix v1)) m)) ∧ (¬ v2 = (n32 0) → ((v2 = (n32 1) → (xin v1 12 = true ∧ Q (m (29 + 16 + 2) (ix v1)) m)) ∧ (¬ v2 = (n32 1) → ((v2 = (n32 2) → (xin v1 12 = true ∧ Q (m (29 + 16 + 3) (ix v1)) m)) ∧ (¬ v2 = (n32 2) → (xin v1 12 = true ∧ (((m (29 + 16 + 3) (ix v1)) = (n32 0) → Q ((m (29 + 16 + 1) (ix v1)) - (m 29 0)) m) ∧ (¬ (m (29 + 16 + 3) (ix v1)) = (n32 0) → Q (-(n32 1)) m)))))))))))))) ∧ (¬ v1 < (m (29 + 16) 0) → E 2 m))))))) :
    VI (D + 2) 100 [vR 10 (0), vI v1, vI v2] m Q E := by
  refine V_of (VL_at (al := [(0, vR 10 (0)), (1, vI v1), (2, vI v2)]) (st := []) km100 k100_0 ?_)
  refine V_of ?_
  refine VL_norm km155 k155_0 (VL_at (al := [(0, vR 10 (0))]) (st := []) km155 k155_0 ?_)
  refine And.intro (fun c9 => ?_) (fun c9 => ?_)
  · refine VL_norm km155 k155_1 (VL_at (al := []) (st := []) km155 k155_1 ?_)
    exact (h.1 c9)
  · refine VL_norm km155 k155_2 (VL_at (al := []) (st := []) km155 k155_2 ?_)
    refine V_of ?_
    refine VL_norm km158 k158_0 (VL_at (al := [(0, vI v1), (1, vI (m (29 + 16) 0))]) (st := []) km158 k158_0 ?_)
    refine And.intro (fun c8 => ?_) (fun c8 => ?_)
    · refine VL_norm km158 k158_2 (VL_at (al := []) (st := []) km158 k158_2 ?_)
      exact ((h.2 c9).1 c8)
    · refine VL_norm km158 k158_1 (VL_at (al := [(0, vI v1), (1, vI (m (29 + 16) 0))]) (st := []) km158 k158_1 ?_)
      refine And.intro (fun c7 => ?_) (fun c7 => ?_)
      · refine VL_norm km158 k158_3 (VL_at (al := []) (st := []) km158 k158_3 ?_)
        refine V_of ?_
        refine VL_norm km159 k159_0 (VL_at (al := [(0, vI v2), (1, vI (n32 0)), (2, vI (n32 3))]) (st := []) km159 k159_0 ?_)
        refine And.intro (fun c6 => ?_) (fun c6 => ?_)
        · refine VL_norm km159 k159_3 (VL_at (al := []) (st := []) km159 k159_3 ?_)
          refine VL_norm km159 k159_4 (VL_at (al := []) (st := [vI (n32 0)]) km159 k159_4 ?_)
          refine V_of ?_
          refine VL_norm km160 k160_0 (VL_at (al := [(0, vI (n32 0))]) (st := []) km160 k160_0 ?_)
          refine And.intro (fun _ => ?_) (fun c => absurd (by decide) c)
          refine VL_norm km160 k160_1 (VL_at (al := []) (st := []) km160 k160_1 ?_)
          exact ((((h.2 c9).2 c8).1 c7).1 c6)
        · refine VL_norm km159 k159_1 (VL_at (al := [(0, vI v2), (2, vI (n32 3))]) (st := []) km159 k159_1 ?_)
          refine And.intro (fun c5 => ?_) (fun c5 => ?_)
          · refine VL_norm km159 k159_3 (VL_at (al := []) (st := []) km159 k159_3 ?_)
            refine VL_norm km159 k159_4 (VL_at (al := []) (st := [vI (n32 0)]) km159 k159_4 ?_)
            refine V_of ?_
            refine VL_norm km160 k160_0 (VL_at (al := [(0, vI (n32 0))]) (st := []) km160 k160_0 ?_)
            refine And.intro (fun _ => ?_) (fun c => absurd (by decide) c)
            refine VL_norm km160 k160_1 (VL_at (al := []) (st := []) km160 k160_1 ?_)
            exact (((((h.2 c9).2 c8).1 c7).2 c6).1 c5)
          · refine VL_norm km159 k159_2 (VL_at (al := []) (st := []) km159 k159_2 ?_)
            refine VL_norm km159 k159_4 (VL_at (al := []) (st := [vI (n32 1)]) km159 k159_4 ?_)
            refine V_of ?_
            refine VL_norm km160 k160_0 (VL_at (al := [(0, vI (n32 1))]) (st := []) km160 k160_0 ?_)
            refine And.intro (fun c => absurd c (by decide)) (fun _ => ?_)
            refine VL_norm km160 k160_2 (VL_at (al := []) (st := []) km160 k160_2 ?_)
            refine And.intro (fun c4 => ?_) (fun c4 => ?_)
            · refine VL_norm km100 k100_1 (VL_at (al := [(1, vI v1), (3, vR 4 (29 + 16))]) (st := []) km100 k100_1 ?_)
              refine And.intro ((((((h.2 c9).2 c8).1 c7).2 c6).2 c5).1 c4).1 ?_
              exact ((((((h.2 c9).2 c8).1 c7).2 c6).2 c5).1 c4).2
            · refine And.intro (fun c3 => ?_) (fun c3 => ?_)
              · refine VL_norm km100 k100_2 (VL_at (al := [(1, vI v1), (3, vR 4 (29 + 16))]) (st := []) km100 k100_2 ?_)
                refine And.intro (((((((h.2 c9).2 c8).1 c7).2 c6).2 c5).2 c4).1 c3).1 ?_
                exact (((((((h.2 c9).2 c8).1 c7).2 c6).2 c5).2 c4).1 c3).2
              · refine And.intro (fun c2 => ?_) (fun c2 => ?_)
                · refine VL_norm km100 k100_3 (VL_at (al := [(1, vI v1), (3, vR 4 (29 + 16))]) (st := []) km100 k100_3 ?_)
                  refine And.intro ((((((((h.2 c9).2 c8).1 c7).2 c6).2 c5).2 c4).2 c3).1 c2).1 ?_
                  exact ((((((((h.2 c9).2 c8).1 c7).2 c6).2 c5).2 c4).2 c3).1 c2).2
                · refine VL_norm km100 k100_4 (VL_at (al := [(0, vR 10 (0)), (1, vI v1), (3, vR 4 (29 + 16))]) (st := []) km100 k100_4 ?_)
                  refine And.intro ((((((((h.2 c9).2 c8).1 c7).2 c6).2 c5).2 c4).2 c3).2 c2).1 ?_
                  refine And.intro (fun c1 => ?_) (fun c1 => ?_)
                  · refine VL_norm km100 k100_5 (VL_at (al := [(0, vR 10 (0)), (1, vI v1), (3, vR 4 (29 + 16))]) (st := []) km100 k100_5 ?_)
                    refine And.intro ((((((((h.2 c9).2 c8).1 c7).2 c6).2 c5).2 c4).2 c3).2 c2).1 ?_
                    refine VL_norm km100 k100_7 (VL_at (al := []) (st := [vI ((m (29 + 16 + 1) (ix v1)) - (m 29 0))]) km100 k100_7 ?_)
                    exact (((((((((h.2 c9).2 c8).1 c7).2 c6).2 c5).2 c4).2 c3).2 c2).2.1 c1)
                  · refine VL_norm km100 k100_6 (VL_at (al := []) (st := []) km100 k100_6 ?_)
                    refine VL_norm km100 k100_7 (VL_at (al := []) (st := [vI (-(n32 1))]) km100 k100_7 ?_)
                    exact (((((((((h.2 c9).2 c8).1 c7).2 c6).2 c5).2 c4).2 c3).2 c2).2.2 c1)
      · refine VL_norm km158 k158_2 (VL_at (al := []) (st := []) km158 k158_2 ?_)
        exact (((h.2 c9).2 c8).2 c7)
/-- BannerParade.lying, label 0 -/
theorem w101_0 {D : Nat} {v1 : Int32} {v2 : Int32} {m : XM} {Q : Int32 → XM → Prop} {E : Nat → XM → Prop}
    (h : (((m 0 7) = (n32 0) → E 0 m) ∧ (¬ (m 0 7) = (n32 0) → ((v1 < (n32 0) → E 2 m) ∧ (¬ v1 < (n32 0) → ((v1 < (m (29 + 12) 0) → ((v2 < (n32 0) → E 1 m) ∧ (¬ v2 < (n32 0) → (((n32 2) < v2 → E 1 m) ∧ (¬ (n32 2) < v2 → ((v2 = (n32 0) → (xin v1 12 = true ∧ Q (m (29 + 12 + 1) (ix v1)) m)) ∧ (¬ v2 = (n32 0) → ((v2 = (n32 1) → (xin v1 12 = true ∧ Q (m (29 + 12 + 2) (ix v1)) m)) ∧ (¬ v2 = (n32 1) → (xin v1 12 = true ∧ Q (m (29 + 12 + 3) (ix v1)) m)))))))))) ∧ (¬ v1 < (m (29 + 12) 0) → E 2 m))))))) :
    VI (D + 2) 101 [vR 10 (0), vI v1, vI v2] m Q E := by
  refine V_of (VL_at (al := [(0, vR 10 (0)), (1, vI v1), (2, vI v2)]) (st := []) km101 k101_0 ?_)
  refine V_of ?_
  refine VL_norm km155 k155_0 (VL_at (al := [(0, vR 10 (0))]) (st := []) km155 k155_0 ?_)
  refine And.intro (fun c7 => ?_) (fun c7 => ?_)
  · refine VL_norm km155 k155_1 (VL_at (al := []) (st := []) km155 k155_1 ?_)
    exact (h.1 c7)
  · refine VL_norm km155 k155_2 (VL_at (al := []) (st := []) km155 k155_2 ?_)
    refine V_of ?_
    refine VL_norm km158 k158_0 (VL_at (al := [(0, vI v1), (1, vI (m (29 + 12) 0))]) (st := []) km158 k158_0 ?_)
    refine And.intro (fun c6 => ?_) (fun c6 => ?_)
    · refine VL_norm km158 k158_2 (VL_at (al := []) (st := []) km158 k158_2 ?_)
      exact ((h.2 c7).1 c6)
    · refine VL_norm km158 k158_1 (VL_at (al := [(0, vI v1), (1, vI (m (29 + 12) 0))]) (st := []) km158 k158_1 ?_)
      refine And.intro (fun c5 => ?_) (fun c5 => ?_)
      · refine VL_norm km158 k158_3 (VL_at (al := []) (st := []) km158 k158_3 ?_)
        refine V_of ?_
        refine VL_norm km159 k159_0 (VL_at (al := [(0, vI v2), (1, vI (n32 0)), (2, vI (n32 2))]) (st := []) km159 k159_0 ?_)
        refine And.intro (fun c4 => ?_) (fun c4 => ?_)
        · refine VL_norm km159 k159_3 (VL_at (al := []) (st := []) km159 k159_3 ?_)
          refine VL_norm km159 k159_4 (VL_at (al := []) (st := [vI (n32 0)]) km159 k159_4 ?_)
          refine V_of ?_
          refine VL_norm km160 k160_0 (VL_at (al := [(0, vI (n32 0))]) (st := []) km160 k160_0 ?_)
          refine And.intro (fun _ => ?_) (fun c => absurd (by decide) c)
          refine VL_norm km160 k160_1 (VL_at (al := []) (st := []) km160 k160_1 ?_)
          exact ((((h.2 c7).2 c6).1 c5).1 c4)
        · refine VL_norm km159 k159_1 (VL_at (al := [(0, vI v2), (2, vI (n32 2))]) (st := []) km159 k159_1 ?_)
          refine And.intro (fun c3 => ?_) (fun c3 => ?_)
          · refine VL_norm km159 k159_3 (VL_at (al := []) (st := []) km159 k159_3 ?_)
            refine VL_norm km159 k159_4 (VL_at (al := []) (st := [vI (n32 0)]) km159 k159_4 ?_)
            refine V_of ?_
            refine VL_norm km160 k160_0 (VL_at (al := [(0, vI (n32 0))]) (st := []) km160 k160_0 ?_)
            refine And.intro (fun _ => ?_) (fun c => absurd (by decide) c)
            refine VL_norm km160 k160_1 (VL_at (al := []) (st := []) km160 k160_1 ?_)
            exact (((((h.2 c7).2 c6).1 c5).2 c4).1 c3)
          · refine VL_norm km159 k159_2 (VL_at (al := []) (st := []) km159 k159_2 ?_)
            refine VL_norm km159 k159_4 (VL_at (al := []) (st := [vI (n32 1)]) km159 k159_4 ?_)
            refine V_of ?_
            refine VL_norm km160 k160_0 (VL_at (al := [(0, vI (n32 1))]) (st := []) km160 k160_0 ?_)
            refine And.intro (fun c => absurd c (by decide)) (fun _ => ?_)
            refine VL_norm km160 k160_2 (VL_at (al := []) (st := []) km160 k160_2 ?_)
            refine And.intro (fun c2 => ?_) (fun c2 => ?_)
            · refine VL_norm km101 k101_1 (VL_at (al := [(1, vI v1), (3, vR 1 (29 + 12))]) (st := []) km101 k101_1 ?_)
              refine And.intro ((((((h.2 c7).2 c6).1 c5).2 c4).2 c3).1 c2).1 ?_
              exact ((((((h.2 c7).2 c6).1 c5).2 c4).2 c3).1 c2).2
            · refine And.intro (fun c1 => ?_) (fun c1 => ?_)
              · refine VL_norm km101 k101_2 (VL_at (al := [(1, vI v1), (3, vR 1 (29 + 12))]) (st := []) km101 k101_2 ?_)
                refine And.intro (((((((h.2 c7).2 c6).1 c5).2 c4).2 c3).2 c2).1 c1).1 ?_
                exact (((((((h.2 c7).2 c6).1 c5).2 c4).2 c3).2 c2).1 c1).2
              · refine VL_norm km101 k101_3 (VL_at (al := [(1, vI v1), (3, vR 1 (29 + 12))]) (st := []) km101 k101_3 ?_)
                refine And.intro (((((((h.2 c7).2 c6).1 c5).2 c4).2 c3).2 c2).2 c1).1 ?_
                exact (((((((h.2 c7).2 c6).1 c5).2 c4).2 c3).2 c2).2 c1).2
      · refine VL_norm km158 k158_2 (VL_at (al := []) (st := []) km158 k158_2 ?_)
        exact (((h.2 c7).2 c6).2 c5)
/-- BannerParade.seen, label 0 -/
theorem w104_0 {D : Nat} {v1 : Int32} {m : XM} {Q : Int32 → XM → Prop} {E : Nat → XM → Prop}
    (h : (((m 0 7) = (n32 0) → E 0 m) ∧ (¬ (m 0 7) = (n32 0) → ((v1 < (n32 0) → E 2 m) ∧ (¬ v1 < (n32 0) → ((v1 < (m 69 0) → VI (D + 2) 169 [vR 10 (0), vI v1] m (fun x1 m1 => Q x1 m1) E) ∧ (¬ v1 < (m 69 0) → E 2 m))))))) :
    VI (D + 3) 104 [vR 10 (0), vI v1] m Q E := by
  refine V_of (VL_at (al := [(0, vR 10 (0)), (1, vI v1)]) (st := []) km104 k104_0 ?_)
  refine V_of ?_
  refine VL_norm km155 k155_0 (VL_at (al := [(0, vR 10 (0))]) (st := []) km155 k155_0 ?_)
  refine And.intro (fun c4 => ?_) (fun c4 => ?_)
  · refine VL_norm km155 k155_1 (VL_at (al := []) (st := []) km155 k155_1 ?_)
    exact (h.1 c4)
  · refine VL_norm km155 k155_2 (VL_at (al := []) (st := []) km155 k155_2 ?_)
    refine V_of ?_
    refine VL_norm km157 k157_0 (VL_at (al := [(0, vR 10 (0)), (1, vI v1)]) (st := []) km157 k157_0 ?_)
    refine V_of ?_
    refine VL_norm km158 k158_0 (VL_at (al := [(0, vI v1), (1, vI (m 69 0))]) (st := []) km158 k158_0 ?_)
    refine And.intro (fun c3 => ?_) (fun c3 => ?_)
    · refine VL_norm km158 k158_2 (VL_at (al := []) (st := []) km158 k158_2 ?_)
      exact ((h.2 c4).1 c3)
    · refine VL_norm km158 k158_1 (VL_at (al := [(0, vI v1), (1, vI (m 69 0))]) (st := []) km158 k158_1 ?_)
      refine And.intro (fun c2 => ?_) (fun c2 => ?_)
      · refine VL_norm km158 k158_3 (VL_at (al := []) (st := []) km158 k158_3 ?_)
        refine V_mono (((h.2 c4).2 c3).1 c2) (fun u1 m1 h1 => ?_) (fun _ _ h => h)
        exact h1
      · refine VL_norm km158 k158_2 (VL_at (al := []) (st := []) km158 k158_2 ?_)
        exact (((h.2 c4).2 c3).2 c2)
/-- BannerParade.isRead, label 0 -/
theorem w106_0 {D : Nat} {v1 : Int32} {m : XM} {Q : Int32 → XM → Prop} {E : Nat → XM → Prop}
    (h : (((m 0 7) = (n32 0) → E 0 m) ∧ (¬ (m 0 7) = (n32 0) → ((v1 < (n32 0) → E 2 m) ∧ (¬ v1 < (n32 0) → ((v1 < (m 69 0) → VA (D + 3) 161 [vR 10 (0), vI v1] m (fun x1 m1 => VI (D + 3) 39 [vR 5 (x1), vR 6 (69), vI v1] m1 (fun x2 m2 => (xrt 2 x2 = true ∧ Q x2 m2)) E) E) ∧ (¬ v1 < (m 69 0) → E 2 m))))))) :
    VI (D + 4) 106 [vR 10 (0), vI v1] m Q E := by
  refine V_of (VL_at (al := [(0, vR 10 (0)), (1, vI v1)]) (st := []) km106 k106_0 ?_)
  refine V_of ?_
  refine VL_norm km155 k155_0 (VL_at (al := [(0, vR 10 (0))]) (st := []) km155 k155_0 ?_)
  refine And.intro (fun c5 => ?_) (fun c5 => ?_)
  · refine VL_norm km155 k155_1 (VL_at (al := []) (st := []) km155 k155_1 ?_)
    exact (h.1 c5)
  · refine VL_norm km155 k155_2 (VL_at (al := []) (st := []) km155 k155_2 ?_)
    refine V_of ?_
    refine VL_norm km157 k157_0 (VL_at (al := [(0, vR 10 (0)), (1, vI v1)]) (st := []) km157 k157_0 ?_)
    refine V_of ?_
    refine VL_norm km158 k158_0 (VL_at (al := [(0, vI v1), (1, vI (m 69 0))]) (st := []) km158 k158_0 ?_)
    refine And.intro (fun c4 => ?_) (fun c4 => ?_)
    · refine VL_norm km158 k158_2 (VL_at (al := []) (st := []) km158 k158_2 ?_)
      exact ((h.2 c5).1 c4)
    · refine VL_norm km158 k158_1 (VL_at (al := [(0, vI v1), (1, vI (m 69 0))]) (st := []) km158 k158_1 ?_)
      refine And.intro (fun c3 => ?_) (fun c3 => ?_)
      · refine VL_norm km158 k158_3 (VL_at (al := []) (st := []) km158 k158_3 ?_)
        refine V_mono (((h.2 c5).2 c4).1 c3) (fun u1 m1 h1 => ?_) (fun _ _ h => h)
        refine V_mono h1 (fun u2 m2 h2 => ?_) (fun _ _ h => h)
        refine And.intro h2.1 ?_
        exact h2.2
      · refine VL_norm km158 k158_2 (VL_at (al := []) (st := []) km158 k158_2 ?_)
        exact (((h.2 c5).2 c4).2 c3)
/-- BannerParade.share, label 0 -/
theorem w107_0 {D : Nat} {v1 : Int32} {m : XM} {Q : UInt32 → XM → Prop} {E : Nat → XM → Prop}
    (h : (((m 0 7) = (n32 0) → E 0 m) ∧ (¬ (m 0 7) = (n32 0) → ((v1 < (n32 0) → E 2 m) ∧ (¬ v1 < (n32 0) → ((v1 < (m 69 0) → VA (D + 3) 161 [vR 10 (0), vI v1] m (fun x1 m1 => VF (D + 3) 40 [vR 5 (x1), vR 6 (69), vI v1] m1 (fun x2 m2 => Q x2 m2) E) E) ∧ (¬ v1 < (m 69 0) → E 2 m))))))) :
    VF (D + 4) 107 [vR 10 (0), vI v1] m Q E := by
  refine V_of (VL_at (al := [(0, vR 10 (0)), (1, vI v1)]) (st := []) km107 k107_0 ?_)
  refine V_of ?_
  refine VL_norm km155 k155_0 (VL_at (al := [(0, vR 10 (0))]) (st := []) km155 k155_0 ?_)
  refine And.intro (fun c5 => ?_) (fun c5 => ?_)
  · refine VL_norm km155 k155_1 (VL_at (al := []) (st := []) km155 k155_1 ?_)
    exact (h.1 c5)
  · refine VL_norm km155 k155_2 (VL_at (al := []) (st := []) km155 k155_2 ?_)
    refine V_of ?_
    refine VL_norm km157 k157_0 (VL_at (al := [(0, vR 10 (0)), (1, vI v1)]) (st := []) km157 k157_0 ?_)
    refine V_of ?_
    refine VL_norm km158 k158_0 (VL_at (al := [(0, vI v1), (1, vI (m 69 0))]) (st := []) km158 k158_0 ?_)
    refine And.intro (fun c4 => ?_) (fun c4 => ?_)
    · refine VL_norm km158 k158_2 (VL_at (al := []) (st := []) km158 k158_2 ?_)
      exact ((h.2 c5).1 c4)
    · refine VL_norm km158 k158_1 (VL_at (al := [(0, vI v1), (1, vI (m 69 0))]) (st := []) km158 k158_1 ?_)
      refine And.intro (fun c3 => ?_) (fun c3 => ?_)
      · refine VL_norm km158 k158_3 (VL_at (al := []) (st := []) km158 k158_3 ?_)
        refine V_mono (((h.2 c5).2 c4).1 c3) (fun u1 m1 h1 => ?_) (fun _ _ h => h)
        refine V_mono h1 (fun u2 m2 h2 => ?_) (fun _ _ h => h)
        exact h2
      · refine VL_norm km158 k158_2 (VL_at (al := []) (st := []) km158 k158_2 ?_)
        exact (((h.2 c5).2 c4).2 c3)
/-- BannerParade.placeIn, label 0 -/
theorem w128_0 {D : Nat} {v1 : Int32} {v2 : Int32} {m : XM} {Q : Int32 → XM → Prop} {E : Nat → XM → Prop}
    (h : (((m 0 7) = (n32 0) → E 0 m) ∧ (¬ (m 0 7) = (n32 0) → ((v1 < (n32 0) → E 2 m) ∧ (¬ v1 < (n32 0) → ((v1 < (m (29 + 3) 0) → ((v2 < (n32 0) → E 1 m) ∧ (¬ v2 < (n32 0) → (((n32 300) < v2 → E 1 m) ∧ (¬ (n32 300) < v2 → VU (D + 5) 163 [vR 10 (0), vI v2] m (fun m1 => (xin v1 12 = true ∧ Q (m1 (49 + 3 + 6) (ix v1)) m1)) E))))) ∧ (¬ v1 < (m (29 + 3) 0) → E 2 m))))))) :
    VI (D + 6) 128 [vR 10 (0), vI v1, vI v2] m Q E := by
  refine V_of (VL_at (al := [(0, vR 10 (0)), (1, vI v1), (2, vI v2)]) (st := []) km128 k128_0 ?_)
  refine V_of ?_
  refine VL_norm km155 k155_0 (VL_at (al := [(0, vR 10 (0))]) (st := []) km155 k155_0 ?_)
  refine And.intro (fun c6 => ?_) (fun c6 => ?_)
  · refine VL_norm km155 k155_1 (VL_at (al := []) (st := []) km155 k155_1 ?_)
    exact (h.1 c6)
  · refine VL_norm km155 k155_2 (VL_at (al := []) (st := []) km155 k155_2 ?_)
    refine V_of ?_
    refine VL_norm km156 k156_0 (VL_at (al := [(0, vR 10 (0)), (1, vI v1)]) (st := []) km156 k156_0 ?_)
    refine V_of ?_
    refine VL_norm km158 k158_0 (VL_at (al := [(0, vI v1), (1, vI (m (29 + 3) 0))]) (st := []) km158 k158_0 ?_)
    refine And.intro (fun c5 => ?_) (fun c5 => ?_)
    · refine VL_norm km158 k158_2 (VL_at (al := []) (st := []) km158 k158_2 ?_)
      exact ((h.2 c6).1 c5)
    · refine VL_norm km158 k158_1 (VL_at (al := [(0, vI v1), (1, vI (m (29 + 3) 0))]) (st := []) km158 k158_1 ?_)
      refine And.intro (fun c4 => ?_) (fun c4 => ?_)
      · refine VL_norm km158 k158_3 (VL_at (al := []) (st := []) km158 k158_3 ?_)
        refine V_of ?_
        refine VL_norm km159 k159_0 (VL_at (al := [(0, vI v2), (1, vI (n32 0)), (2, vI (n32 300))]) (st := []) km159 k159_0 ?_)
        refine And.intro (fun c3 => ?_) (fun c3 => ?_)
        · refine VL_norm km159 k159_3 (VL_at (al := []) (st := []) km159 k159_3 ?_)
          refine VL_norm km159 k159_4 (VL_at (al := []) (st := [vI (n32 0)]) km159 k159_4 ?_)
          refine V_of ?_
          refine VL_norm km160 k160_0 (VL_at (al := [(0, vI (n32 0))]) (st := []) km160 k160_0 ?_)
          refine And.intro (fun _ => ?_) (fun c => absurd (by decide) c)
          refine VL_norm km160 k160_1 (VL_at (al := []) (st := []) km160 k160_1 ?_)
          exact ((((h.2 c6).2 c5).1 c4).1 c3)
        · refine VL_norm km159 k159_1 (VL_at (al := [(0, vI v2), (2, vI (n32 300))]) (st := []) km159 k159_1 ?_)
          refine And.intro (fun c2 => ?_) (fun c2 => ?_)
          · refine VL_norm km159 k159_3 (VL_at (al := []) (st := []) km159 k159_3 ?_)
            refine VL_norm km159 k159_4 (VL_at (al := []) (st := [vI (n32 0)]) km159 k159_4 ?_)
            refine V_of ?_
            refine VL_norm km160 k160_0 (VL_at (al := [(0, vI (n32 0))]) (st := []) km160 k160_0 ?_)
            refine And.intro (fun _ => ?_) (fun c => absurd (by decide) c)
            refine VL_norm km160 k160_1 (VL_at (al := []) (st := []) km160 k160_1 ?_)
            exact (((((h.2 c6).2 c5).1 c4).2 c3).1 c2)
          · refine VL_norm km159 k159_2 (VL_at (al := []) (st := []) km159 k159_2 ?_)
            refine VL_norm km159 k159_4 (VL_at (al := []) (st := [vI (n32 1)]) km159 k159_4 ?_)
            refine V_of ?_
            refine VL_norm km160 k160_0 (VL_at (al := [(0, vI (n32 1))]) (st := []) km160 k160_0 ?_)
            refine And.intro (fun c => absurd c (by decide)) (fun _ => ?_)
            refine VL_norm km160 k160_2 (VL_at (al := []) (st := []) km160 k160_2 ?_)
            refine V_mono (((((h.2 c6).2 c5).1 c4).2 c3).2 c2) (fun u1 m1 h1 => ?_) (fun _ _ h => h)
            refine And.intro h1.1 ?_
            exact h1.2
      · refine VL_norm km158 k158_2 (VL_at (al := []) (st := []) km158 k158_2 ?_)
        exact (((h.2 c6).2 c5).2 c4)
/-- BannerParade.strengthIn, label 0 -/
theorem w129_0 {D : Nat} {v1 : Int32} {v2 : Int32} {m : XM} {Q : Int32 → XM → Prop} {E : Nat → XM → Prop}
    (h : (((m 0 7) = (n32 0) → E 0 m) ∧ (¬ (m 0 7) = (n32 0) → ((v1 < (n32 0) → E 2 m) ∧ (¬ v1 < (n32 0) → ((v1 < (m (29 + 3) 0) → ((v2 < (n32 0) → E 1 m) ∧ (¬ v2 < (n32 0) → (((n32 300) < v2 → E 1 m) ∧ (¬ (n32 300) < v2 → VU (D + 5) 163 [vR 10 (0), vI v2] m (fun m1 => (xin v1 12 = true ∧ Q (m1 (49 + 3 + 4) (ix v1)) m1)) E))))) ∧ (¬ v1 < (m (29 + 3) 0) → E 2 m))))))) :
    VI (D + 6) 129 [vR 10 (0), vI v1, vI v2] m Q E := by
  refine V_of (VL_at (al := [(0, vR 10 (0)), (1, vI v1), (2, vI v2)]) (st := []) km129 k129_0 ?_)
  refine V_of ?_
  refine VL_norm km155 k155_0 (VL_at (al := [(0, vR 10 (0))]) (st := []) km155 k155_0 ?_)
  refine And.intro (fun c6 => ?_) (fun c6 => ?_)
  · refine VL_norm km155 k155_1 (VL_at (al := []) (st := []) km155 k155_1 ?_)
    exact (h.1 c6)
  · refine VL_norm km155 k155_2 (VL_at (al := []) (st := []) km155 k155_2 ?_)
    refine V_of ?_
    refine VL_norm km156 k156_0 (VL_at (al := [(0, vR 10 (0)), (1, vI v1)]) (st := []) km156 k156_0 ?_)
    refine V_of ?_
    refine VL_norm km158 k158_0 (VL_at (al := [(0, vI v1), (1, vI (m (29 + 3) 0))]) (st := []) km158 k158_0 ?_)
    refine And.intro (fun c5 => ?_) (fun c5 => ?_)
    · refine VL_norm km158 k158_2 (VL_at (al := []) (st := []) km158 k158_2 ?_)
      exact ((h.2 c6).1 c5)
    · refine VL_norm km158 k158_1 (VL_at (al := [(0, vI v1), (1, vI (m (29 + 3) 0))]) (st := []) km158 k158_1 ?_)
      refine And.intro (fun c4 => ?_) (fun c4 => ?_)
      · refine VL_norm km158 k158_3 (VL_at (al := []) (st := []) km158 k158_3 ?_)
        refine V_of ?_
        refine VL_norm km159 k159_0 (VL_at (al := [(0, vI v2), (1, vI (n32 0)), (2, vI (n32 300))]) (st := []) km159 k159_0 ?_)
        refine And.intro (fun c3 => ?_) (fun c3 => ?_)
        · refine VL_norm km159 k159_3 (VL_at (al := []) (st := []) km159 k159_3 ?_)
          refine VL_norm km159 k159_4 (VL_at (al := []) (st := [vI (n32 0)]) km159 k159_4 ?_)
          refine V_of ?_
          refine VL_norm km160 k160_0 (VL_at (al := [(0, vI (n32 0))]) (st := []) km160 k160_0 ?_)
          refine And.intro (fun _ => ?_) (fun c => absurd (by decide) c)
          refine VL_norm km160 k160_1 (VL_at (al := []) (st := []) km160 k160_1 ?_)
          exact ((((h.2 c6).2 c5).1 c4).1 c3)
        · refine VL_norm km159 k159_1 (VL_at (al := [(0, vI v2), (2, vI (n32 300))]) (st := []) km159 k159_1 ?_)
          refine And.intro (fun c2 => ?_) (fun c2 => ?_)
          · refine VL_norm km159 k159_3 (VL_at (al := []) (st := []) km159 k159_3 ?_)
            refine VL_norm km159 k159_4 (VL_at (al := []) (st := [vI (n32 0)]) km159 k159_4 ?_)
            refine V_of ?_
            refine VL_norm km160 k160_0 (VL_at (al := [(0, vI (n32 0))]) (st := []) km160 k160_0 ?_)
            refine And.intro (fun _ => ?_) (fun c => absurd (by decide) c)
            refine VL_norm km160 k160_1 (VL_at (al := []) (st := []) km160 k160_1 ?_)
            exact (((((h.2 c6).2 c5).1 c4).2 c3).1 c2)
          · refine VL_norm km159 k159_2 (VL_at (al := []) (st := []) km159 k159_2 ?_)
            refine VL_norm km159 k159_4 (VL_at (al := []) (st := [vI (n32 1)]) km159 k159_4 ?_)
            refine V_of ?_
            refine VL_norm km160 k160_0 (VL_at (al := [(0, vI (n32 1))]) (st := []) km160 k160_0 ?_)
            refine And.intro (fun c => absurd c (by decide)) (fun _ => ?_)
            refine VL_norm km160 k160_2 (VL_at (al := []) (st := []) km160 k160_2 ?_)
            refine V_mono (((((h.2 c6).2 c5).1 c4).2 c3).2 c2) (fun u1 m1 h1 => ?_) (fun _ _ h => h)
            refine And.intro h1.1 ?_
            exact h1.2
      · refine VL_norm km158 k158_2 (VL_at (al := []) (st := []) km158 k158_2 ?_)
        exact (((h.2 c6).2 c5).2 c4)
/-- BannerParade.bannerIn, label 0 -/
theorem w130_0 {D : Nat} {v1 : Int32} {v2 : Int32} {m : XM} {Q : Int32 → XM → Prop} {E : Nat → XM → Prop}
    (h : (((m 0 7) = (n32 0) → E 0 m) ∧ (¬ (m 0 7) = (n32 0) → ((v1 < (n32 0) → E 2 m) ∧ (¬ v1 < (n32 0) → ((v1 < (m (29 + 3) 0) → ((v2 < (n32 0) → E 1 m) ∧ (¬ v2 < (n32 0) → (((n32 300) < v2 → E 1 m) ∧ (¬ (n32 300) < v2 → VU (D + 5) 163 [vR 10 (0), vI v2] m (fun m1 => (xin v1 12 = true ∧ Q (m1 (49 + 3 + 5) (ix v1)) m1)) E))))) ∧ (¬ v1 < (m (29 + 3) 0) → E 2 m))))))) :
    VI (D + 6) 130 [vR 10 (0), vI v1, vI v2] m Q E := by
  refine V_of (VL_at (al := [(0, vR 10 (0)), (1, vI v1), (2, vI v2)]) (st := []) km130 k130_0 ?_)
  refine V_of ?_
  refine VL_norm km155 k155_0 (VL_at (al := [(0, vR 10 (0))]) (st := []) km155 k155_0 ?_)
  refine And.intro (fun c6 => ?_) (fun c6 => ?_)
  · refine VL_norm km155 k155_1 (VL_at (al := []) (st := []) km155 k155_1 ?_)
    exact (h.1 c6)
  · refine VL_norm km155 k155_2 (VL_at (al := []) (st := []) km155 k155_2 ?_)
    refine V_of ?_
    refine VL_norm km156 k156_0 (VL_at (al := [(0, vR 10 (0)), (1, vI v1)]) (st := []) km156 k156_0 ?_)
    refine V_of ?_
    refine VL_norm km158 k158_0 (VL_at (al := [(0, vI v1), (1, vI (m (29 + 3) 0))]) (st := []) km158 k158_0 ?_)
    refine And.intro (fun c5 => ?_) (fun c5 => ?_)
    · refine VL_norm km158 k158_2 (VL_at (al := []) (st := []) km158 k158_2 ?_)
      exact ((h.2 c6).1 c5)
    · refine VL_norm km158 k158_1 (VL_at (al := [(0, vI v1), (1, vI (m (29 + 3) 0))]) (st := []) km158 k158_1 ?_)
      refine And.intro (fun c4 => ?_) (fun c4 => ?_)
      · refine VL_norm km158 k158_3 (VL_at (al := []) (st := []) km158 k158_3 ?_)
        refine V_of ?_
        refine VL_norm km159 k159_0 (VL_at (al := [(0, vI v2), (1, vI (n32 0)), (2, vI (n32 300))]) (st := []) km159 k159_0 ?_)
        refine And.intro (fun c3 => ?_) (fun c3 => ?_)
        · refine VL_norm km159 k159_3 (VL_at (al := []) (st := []) km159 k159_3 ?_)
          refine VL_norm km159 k159_4 (VL_at (al := []) (st := [vI (n32 0)]) km159 k159_4 ?_)
          refine V_of ?_
          refine VL_norm km160 k160_0 (VL_at (al := [(0, vI (n32 0))]) (st := []) km160 k160_0 ?_)
          refine And.intro (fun _ => ?_) (fun c => absurd (by decide) c)
          refine VL_norm km160 k160_1 (VL_at (al := []) (st := []) km160 k160_1 ?_)
          exact ((((h.2 c6).2 c5).1 c4).1 c3)
        · refine VL_norm km159 k159_1 (VL_at (al := [(0, vI v2), (2, vI (n32 300))]) (st := []) km159 k159_1 ?_)
          refine And.intro (fun c2 => ?_) (fun c2 => ?_)
          · refine VL_norm km159 k159_3 (VL_at (al := []) (st := []) km159 k159_3 ?_)
            refine VL_norm km159 k159_4 (VL_at (al := []) (st := [vI (n32 0)]) km159 k159_4 ?_)
            refine V_of ?_
            refine VL_norm km160 k160_0 (VL_at (al := [(0, vI (n32 0))]) (st := []) km160 k160_0 ?_)
            refine And.intro (fun _ => ?_) (fun c => absurd (by decide) c)
            refine VL_norm km160 k160_1 (VL_at (al := []) (st := []) km160 k160_1 ?_)
            exact (((((h.2 c6).2 c5).1 c4).2 c3).1 c2)
          · refine VL_norm km159 k159_2 (VL_at (al := []) (st := []) km159 k159_2 ?_)
            refine VL_norm km159 k159_4 (VL_at (al := []) (st := [vI (n32 1)]) km159 k159_4 ?_)
            refine V_of ?_
            refine VL_norm km160 k160_0 (VL_at (al := [(0, vI (n32 1))]) (st := []) km160 k160_0 ?_)
            refine And.intro (fun c => absurd c (by decide)) (fun _ => ?_)
            refine VL_norm km160 k160_2 (VL_at (al := []) (st := []) km160 k160_2 ?_)
            refine V_mono (((((h.2 c6).2 c5).1 c4).2 c3).2 c2) (fun u1 m1 h1 => ?_) (fun _ _ h => h)
            refine And.intro h1.1 ?_
            exact h1.2
      · refine VL_norm km158 k158_2 (VL_at (al := []) (st := []) km158 k158_2 ?_)
        exact (((h.2 c6).2 c5).2 c4)
/-- BannerParade.dropsIn, label 0 -/
theorem w131_0 {D : Nat} {v1 : Int32} {m : XM} {Q : Int32 → XM → Prop} {E : Nat → XM → Prop}
    (h : (((m 0 7) = (n32 0) → E 0 m) ∧ (¬ (m 0 7) = (n32 0) → ((v1 < (n32 0) → E 1 m) ∧ (¬ v1 < (n32 0) → (((n32 300) < v1 → E 1 m) ∧ (¬ (n32 300) < v1 → VU (D + 5) 163 [vR 10 (0), vI v1] m (fun m1 => Q ((m1 49 2) - (m1 29 2)) m1) E))))))) :
    VI (D + 6) 131 [vR 10 (0), vI v1] m Q E := by
  refine V_of (VL_at (al := [(0, vR 10 (0)), (1, vI v1)]) (st := []) km131 k131_0 ?_)
  refine V_of ?_
  refine VL_norm km155 k155_0 (VL_at (al := [(0, vR 10 (0))]) (st := []) km155 k155_0 ?_)
  refine And.intro (fun c4 => ?_) (fun c4 => ?_)
  · refine VL_norm km155 k155_1 (VL_at (al := []) (st := []) km155 k155_1 ?_)
    exact (h.1 c4)
  · refine VL_norm km155 k155_2 (VL_at (al := []) (st := []) km155 k155_2 ?_)
    refine V_of ?_
    refine VL_norm km159 k159_0 (VL_at (al := [(0, vI v1), (1, vI (n32 0)), (2, vI (n32 300))]) (st := []) km159 k159_0 ?_)
    refine And.intro (fun c3 => ?_) (fun c3 => ?_)
    · refine VL_norm km159 k159_3 (VL_at (al := []) (st := []) km159 k159_3 ?_)
      refine VL_norm km159 k159_4 (VL_at (al := []) (st := [vI (n32 0)]) km159 k159_4 ?_)
      refine V_of ?_
      refine VL_norm km160 k160_0 (VL_at (al := [(0, vI (n32 0))]) (st := []) km160 k160_0 ?_)
      refine And.intro (fun _ => ?_) (fun c => absurd (by decide) c)
      refine VL_norm km160 k160_1 (VL_at (al := []) (st := []) km160 k160_1 ?_)
      exact ((h.2 c4).1 c3)
    · refine VL_norm km159 k159_1 (VL_at (al := [(0, vI v1), (2, vI (n32 300))]) (st := []) km159 k159_1 ?_)
      refine And.intro (fun c2 => ?_) (fun c2 => ?_)
      · refine VL_norm km159 k159_3 (VL_at (al := []) (st := []) km159 k159_3 ?_)
        refine VL_norm km159 k159_4 (VL_at (al := []) (st := [vI (n32 0)]) km159 k159_4 ?_)
        refine V_of ?_
        refine VL_norm km160 k160_0 (VL_at (al := [(0, vI (n32 0))]) (st := []) km160 k160_0 ?_)
        refine And.intro (fun _ => ?_) (fun c => absurd (by decide) c)
        refine VL_norm km160 k160_1 (VL_at (al := []) (st := []) km160 k160_1 ?_)
        exact (((h.2 c4).2 c3).1 c2)
      · refine VL_norm km159 k159_2 (VL_at (al := []) (st := []) km159 k159_2 ?_)
        refine VL_norm km159 k159_4 (VL_at (al := []) (st := [vI (n32 1)]) km159 k159_4 ?_)
        refine V_of ?_
        refine VL_norm km160 k160_0 (VL_at (al := [(0, vI (n32 1))]) (st := []) km160 k160_0 ?_)
        refine And.intro (fun c => absurd c (by decide)) (fun _ => ?_)
        refine VL_norm km160 k160_2 (VL_at (al := []) (st := []) km160 k160_2 ?_)
        refine V_mono (((h.2 c4).2 c3).2 c2) (fun u1 m1 h1 => ?_) (fun _ _ h => h)
        exact h1
/-- BannerParade.tick, label 0 -/
theorem w142_0 {D : Nat} {v1 : Int32} {m : XM} {Q : Int32 → XM → Prop} {E : Nat → XM → Prop}
    (h : (((m 0 7) = (n32 0) → E 0 m) ∧ (¬ (m 0 7) = (n32 0) → ((v1 < (n32 1) → E 1 m) ∧ (¬ v1 < (n32 1) → (((n32 100) < v1 → E 1 m) ∧ (¬ (n32 100) < v1 → (((n32 5000) < ((m 29 0) + v1) → E 1 m) ∧ (¬ (n32 5000) < ((m 29 0) + v1) → VU (D + 4) 13 [vR 2 (74), vR 8 (29)] m (fun m1 => VI (D + 4) 166 [vR 10 (0)] m1 (fun x2 m2 => VLI (D + 5) 142 4 [(0, vR 10 (0)), (1, vI v1), (2, vI ((((((((x2 - (((x2).toUInt32 >>> (((n32 1)).toUInt32 &&& Int32.toUInt32 31)).toInt32 &&& (n32 1431655765))) &&& (n32 858993459)) + ((((x2 - (((x2).toUInt32 >>> (((n32 1)).toUInt32 &&& Int32.toUInt32 31)).toInt32 &&& (n32 1431655765)))).toUInt32 >>> (((n32 2)).toUInt32 &&& Int32.toUInt32 31)).toInt32 &&& (n32 858993459))) + (((((x2 - (((x2).toUInt32 >>> (((n32 1)).toUInt32 &&& Int32.toUInt32 31)).toInt32 &&& (n32 1431655765))) &&& (n32 858993459)) + ((((x2 - (((x2).toUInt32 >>> (((n32 1)).toUInt32 &&& Int32.toUInt32 31)).toInt32 &&& (n32 1431655765)))).toUInt32 >>> (((n32 2)).toUInt32 &&& Int32.toUInt32 31)).toInt32 &&& (n32 858993459)))).toUInt32 >>> (((n32 4)).toUInt32 &&& Int32.toUInt32 31)).toInt32) &&& (n32 252645135)) + (((((((x2 - (((x2).toUInt32 >>> (((n32 1)).toUInt32 &&& Int32.toUInt32 31)).toInt32 &&& (n32 1431655765))) &&& (n32 858993459)) + ((((x2 - (((x2).toUInt32 >>> (((n32 1)).toUInt32 &&& Int32.toUInt32 31)).toInt32 &&& (n32 1431655765)))).toUInt32 >>> (((n32 2)).toUInt32 &&& Int32.toUInt32 31)).toInt32 &&& (n32 858993459))) + (((((x2 - (((x2).toUInt32 >>> (((n32 1)).toUInt32 &&& Int32.toUInt32 31)).toInt32 &&& (n32 1431655765))) &&& (n32 858993459)) + ((((x2 - (((x2).toUInt32 >>> (((n32 1)).toUInt32 &&& Int32.toUInt32 31)).toInt32 &&& (n32 1431655765)))).toUInt32 >>> (((n32 2)).toUInt32 &&& Int32.toUInt32 31)).toInt32 &&& (n32 858993459)))).toUInt32 >>> (((n32 4)).toUInt32 &&& Int32.toUInt32 31)).toInt32) &&& (n32 252645135))).toUInt32 >>> (((n32 8)).toUInt32 &&& Int32.toUInt32 31)).toInt32) + ((((((((x2 - (((x2).toUInt32 >>> (((n32 1)).toUInt32 &&& Int32.toUInt32 31)).toInt32 &&& (n32 1431655765))) &&& (n32 858993459)) + ((((x2 - (((x2).toUInt32 >>> (((n32 1)).toUInt32 &&& Int32.toUInt32 31)).toInt32 &&& (n32 1431655765)))).toUInt32 >>> (((n32 2)).toUInt32 &&& Int32.toUInt32 31)).toInt32 &&& (n32 858993459))) + (((((x2 - (((x2).toUInt32 >>> (((n32 1)).toUInt32 &&& Int32.toUInt32 31)).toInt32 &&& (n32 1431655765))) &&& (n32 858993459)) + ((((x2 - (((x2).toUInt32 >>> (((n32 1)).toUInt32 &&& Int32.toUInt32 31)).toInt32 &&& (n32 1431655765)))).toUInt32 >>> (((n32 2)).toUInt32 &&& Int32.toUInt32 31)).toInt32 &&& (n32 858993459)))).toUInt32 >>> (((n32 4)).toUInt32 &&& Int32.toUInt32 31)).toInt32) &&& (n32 252645135)) + (((((((x2 - (((x2).toUInt32 >>> (((n32 1)).toUInt32 &&& Int32.toUInt32 31)).toInt32 &&& (n32 1431655765))) &&& (n32 858993459)) + ((((x2 - (((x2).toUInt32 >>> (((n32 1)).toUInt32 &&& Int32.toUInt32 31)).toInt32 &&& (n32 1431655765)))).toUInt32 >>> (((n32 2)).toUInt32 &&& Int32.toUInt32 31)).toInt32 &&& (n32 858993459))) + (((((x2 - (((x2).toUInt32 >>> (((n32 1)).toUInt32 &&& Int32.toUInt32 31)).toInt32 &&& (n32 1431655765))) &&& (n32 858993459)) + ((((x2 - (((x2).toUInt32 >>> (((n32 1)).toUInt32 &&& Int32.toUInt32 31)).toInt32 &&& (n32 1431655765)))).toUInt32 >>> (((n32 2)).toUInt32 &&& Int32.toUInt32 31)).toInt32 &&& (n32 858993459)))).toUInt32 >>> (((n32 4)).toUInt32 &&& Int32.toUInt32 31)).toInt32) &&& (n32 252645135))).toUInt32 >>> (((n32 8)).toUInt32 &&& Int32.toUInt32 31)).toInt32)).toUInt32 >>> (((n32 16)).toUInt32 &&& Int32.toUInt32 31)).toInt32) &&& (n32 63))), (3, vI (n32 0))] [] m2 Q E) E) E))))))))) :
    VI (D + 5) 142 [vR 10 (0), vI v1] m Q E := by
  refine V_of (VL_at (al := [(0, vR 10 (0)), (1, vI v1)]) (st := []) km142 k142_0 ?_)
  refine V_of ?_
  refine VL_norm km155 k155_0 (VL_at (al := [(0, vR 10 (0))]) (st := []) km155 k155_0 ?_)
  refine And.intro (fun c6 => ?_) (fun c6 => ?_)
  · refine VL_norm km155 k155_1 (VL_at (al := []) (st := []) km155 k155_1 ?_)
    exact (h.1 c6)
  · refine VL_norm km155 k155_2 (VL_at (al := []) (st := []) km155 k155_2 ?_)
    refine V_of ?_
    refine VL_norm km159 k159_0 (VL_at (al := [(0, vI v1), (1, vI (n32 1)), (2, vI (n32 100))]) (st := []) km159 k159_0 ?_)
    refine And.intro (fun c5 => ?_) (fun c5 => ?_)
    · refine VL_norm km159 k159_3 (VL_at (al := []) (st := []) km159 k159_3 ?_)
      refine VL_norm km159 k159_4 (VL_at (al := []) (st := [vI (n32 0)]) km159 k159_4 ?_)
      refine V_of ?_
      refine VL_norm km160 k160_0 (VL_at (al := [(0, vI (n32 0))]) (st := []) km160 k160_0 ?_)
      refine And.intro (fun _ => ?_) (fun c => absurd (by decide) c)
      refine VL_norm km160 k160_1 (VL_at (al := []) (st := []) km160 k160_1 ?_)
      exact ((h.2 c6).1 c5)
    · refine VL_norm km159 k159_1 (VL_at (al := [(0, vI v1), (2, vI (n32 100))]) (st := []) km159 k159_1 ?_)
      refine And.intro (fun c4 => ?_) (fun c4 => ?_)
      · refine VL_norm km159 k159_3 (VL_at (al := []) (st := []) km159 k159_3 ?_)
        refine VL_norm km159 k159_4 (VL_at (al := []) (st := [vI (n32 0)]) km159 k159_4 ?_)
        refine V_of ?_
        refine VL_norm km160 k160_0 (VL_at (al := [(0, vI (n32 0))]) (st := []) km160 k160_0 ?_)
        refine And.intro (fun _ => ?_) (fun c => absurd (by decide) c)
        refine VL_norm km160 k160_1 (VL_at (al := []) (st := []) km160 k160_1 ?_)
        exact (((h.2 c6).2 c5).1 c4)
      · refine VL_norm km159 k159_2 (VL_at (al := []) (st := []) km159 k159_2 ?_)
        refine VL_norm km159 k159_4 (VL_at (al := []) (st := [vI (n32 1)]) km159 k159_4 ?_)
        refine V_of ?_
        refine VL_norm km160 k160_0 (VL_at (al := [(0, vI (n32 1))]) (st := []) km160 k160_0 ?_)
        refine And.intro (fun c => absurd c (by decide)) (fun _ => ?_)
        refine VL_norm km160 k160_2 (VL_at (al := []) (st := []) km160 k160_2 ?_)
        refine And.intro (fun c3 => ?_) (fun c3 => ?_)
        · refine VL_norm km142 k142_2 (VL_at (al := [(0, vR 10 (0)), (1, vI v1)]) (st := []) km142 k142_2 ?_)
          refine VL_norm km142 k142_3 (VL_at (al := [(0, vR 10 (0)), (1, vI v1)]) (st := [vI (n32 0)]) km142 k142_3 ?_)
          refine V_of ?_
          refine VL_norm km160 k160_0 (VL_at (al := [(0, vI (n32 0))]) (st := []) km160 k160_0 ?_)
          refine And.intro (fun _ => ?_) (fun c => absurd (by decide) c)
          refine VL_norm km160 k160_1 (VL_at (al := []) (st := []) km160 k160_1 ?_)
          exact ((((h.2 c6).2 c5).2 c4).1 c3)
        · refine VL_norm km142 k142_1 (VL_at (al := [(0, vR 10 (0)), (1, vI v1)]) (st := []) km142 k142_1 ?_)
          refine VL_norm km142 k142_3 (VL_at (al := [(0, vR 10 (0)), (1, vI v1)]) (st := [vI (n32 1)]) km142 k142_3 ?_)
          refine V_of ?_
          refine VL_norm km160 k160_0 (VL_at (al := [(0, vI (n32 1))]) (st := []) km160 k160_0 ?_)
          refine And.intro (fun c => absurd c (by decide)) (fun _ => ?_)
          refine VL_norm km160 k160_2 (VL_at (al := []) (st := []) km160 k160_2 ?_)
          refine V_mono ((((h.2 c6).2 c5).2 c4).2 c3) (fun u1 m1 h1 => ?_) (fun _ _ h => h)
          refine V_mono h1 (fun u2 m2 h2 => ?_) (fun _ _ h => h)
          refine V_of ?_
          refine VL_norm km383 k383_0 (VL_at (al := [(0, vI (xti u2))]) (st := []) km383 k383_0 ?_)
          exact VL_norm km142 k142_4 h2
