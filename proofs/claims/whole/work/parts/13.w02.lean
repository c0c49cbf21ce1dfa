/-! Verification conditions (written by program: wip/whole/mkw.py). -/
/-- BannerParade.plan, label 0 -/
theorem w100_0 {D : Nat} {v1 : Int32} {v2 : Int32} {m : XM} {Q : Int32 → XM → Prop} {E : Nat → XM → Prop}
    (h : (((m 0 7) = (n32 0) → E 0 m) ∧ (¬ (m 0 7) = (n32 0) → ((v1 < (n32 0) → E 2 m) ∧ (¬ v1 < (n32 0) → ((v1 < (m (29 + 16) 0) → ((v2 < (n32 0) → E 1 m) ∧ (¬ v2 < (n32 0) → (((n32 3) < v2 → E 1 m) ∧ (¬ (n32 3) < v2 → ((v2 = (n32 0) → (xin v1 12 = true ∧ Q (m (29 + 16 + 1) (ix v1)) m)) ∧ (¬ v2 = (n32 0) → ((v2 = (n32 1) → (xin v1 12 = true ∧ Q (m (29 + 16 + 2) (ix v1)) m)) ∧ (¬ v2 = (n32 1) → ((v2 = (n32 2) → (xin v1 12 = true ∧ Q (m (29 + 16 + 3) (ix v1)) m)) ∧ (¬ v2 = (n32 2) → (xin v1 12 = true ∧ (((m (29 + 16 + 3) (ix v1)) = (n32 0) → Q ((m (29 + 16 + 1) (ix v1)) - (m 29 0)) m) ∧ (¬ (m (29 + 16 + 3) (ix v1)) = (n32 0) → Q (-(n32 1)) m)))))))))))))) ∧ (¬ v1 < (m (29 + 16) 0) → E 2 m))))))) :
    VI (D + 2) 100 [vR 10 (0), vI v1, vI v2] m Q E := by
  refine V_of (VL_at (al := [(0, vR 10 (0)), (1, vI v1), (2, vI v2)]) (st := []) km100 k100_0 ?_)
  refine V_of ?_
  refine VL_norm km155 k155_0 (VL_at (al := [(0, vR 10 (0))]) (st := []) km155 k155_0 ?_)
  refine And.intro (fun c9 => ?_) (fun c9 => ?_)
  · refine VL_norm km155 k155_1 (VL_at (al := []) (st := []) km155 k155_1 ?_)
    exact (h.1 c9)
  · refine VL_norm km155 k155_2 (VL_at (al := []) (st := []) km155 k155_2 ?_)
    refine V_of ?_
    refine VL_norm km158 k158_0 (VL_at (al := [(0, vI v1), (1, vI (m (29 + 16) 0))]) (st := []) km158 k158_0 ?_)
    refine And.intro (fun c8 => ?_) (fun c8 => ?_)
    · refine VL_norm km158 k158_2 (VL_at (al := []) (st := []) km158 k158_2 ?_)
      exact ((h.2 c9).1 c8)
    · refine VL_norm km158 k158_1 (VL_at (al := [(0, vI v1), (1, vI (m (29 + 16) 0))]) (st := []) km158 k158_1 ?_)
      refine And.intro (fun c7 => ?_) (fun c7 => ?_)
      · refine VL_norm km158 k158_3 (VL_at (al := []) (st := []) km158 k158_3 ?_)
        refine V_of ?_
        refine VL_norm km159 k159_0 (VL_at (al := [(0, vI v2), (1, vI (n32 0)), (2, vI (n32 3))]) (st := []) km159 k159_0 ?_)
        refine And.intro (fun c6 => ?_) (fun c6 => ?_)
        · refine VL_norm km159 k159_3 (VL_at (al := []) (st := []) km159 k159_3 ?_)
          refine VL_norm km159 k159_4 (VL_at (al := []) (st := [vI (n32 0)]) km159 k159_4 ?_)
          refine V_of ?_
          refine VL_norm km160 k160_0 (VL_at (al := [(0, vI (n32 0))]) (st := []) km160 k160_0 ?_)
          refine And.intro (fun _ => ?_) (fun c => absurd (by decide) c)
          refine VL_norm km160 k160_1 (VL_at (al := []) (st := []) km160 k160_1 ?_)
          exact ((((h.2 c9).2 c8).1 c7).1 c6)
        · refine VL_norm km159 k159_1 (VL_at (al := [(0, vI v2), (2, vI (n32 3))]) (st := []) km159 k159_1 ?_)
          refine And.intro (fun c5 => ?_) (fun c5 => ?_)
          · refine VL_norm km159 k159_3 (VL_at (al := []) (st := []) km159 k159_3 ?_)
            refine VL_norm km159 k159_4 (VL_at (al := []) (st := [vI (n32 0)]) km159 k159_4 ?_)
            refine V_of ?_
            refine VL_norm km160 k160_0 (VL_at (al := [(0, vI (n32 0))]) (st := []) km160 k160_0 ?_)
            refine And.intro (fun _ => ?_) (fun c => absurd (by decide) c)
            refine VL_norm km160 k160_1 (VL_at (al := []) (st := []) km160 k160_1 ?_)
            exact (((((h.2 c9).2 c8).1 c7).2 c6).1 c5)
          · refine VL_norm km159 k159_2 (VL_at (al := []) (st := []) km159 k159_2 ?_)
            refine VL_norm km159 k159_4 (VL_at (al := []) (st := [vI (n32 1)]) km159 k159_4 ?_)
            refine V_of ?_
            refine VL_norm km160 k160_0 (VL_at (al := [(0, vI (n32 1))]) (st := []) km160 k160_0 ?_)
            refine And.intro (fun c => absurd c (by decide)) (fun _ => ?_)
            refine VL_norm km160 k160_2 (VL_at (al := []) (st := []) km160 k160_2 ?_)
            refine And.intro (fun c4 => ?_) (fun c4 => ?_)
            · refine VL_norm km100 k100_1 (VL_at (al := [(1, vI v1), (3, vR 4 (29 + 16))]) (st := []) km100 k100_1 ?_)
              refine And.intro ((((((h.2 c9).2 c8).1 c7).2 c6).2 c5).1 c4).1 ?_
              exact ((((((h.2 c9).2 c8).1 c7).2 c6).2 c5).1 c4).2
            · refine And.intro (fun c3 => ?_) (fun c3 => ?_)
              · refine VL_norm km100 k100_2 (VL_at (al := [(1, vI v1), (3, vR 4 (29 + 16))]) (st := []) km100 k100_2 ?_)
                refine And.intro (((((((h.2 c9).2 c8).1 c7).2 c6).2 c5).2 c4).1 c3).1 ?_
                exact (((((((h.2 c9).2 c8).1 c7).2 c6).2 c5).2 c4).1 c3).2
              · refine And.intro (fun c2 => ?_) (fun c2 => ?_)
                · refine VL_norm km100 k100_3 (VL_at (al := [(1, vI v1), (3, vR 4 (29 + 16))]) (st := []) km100 k100_3 ?_)
                  refine And.intro ((((((((h.2 c9).2 c8).1 c7).2 c6).2 c5).2 c4).2 c3).1 c2).1 ?_
                  exact ((((((((h.2 c9).2 c8).1 c7).2 c6).2 c5).2 c4).2 c3).1 c2).2
                · refine VL_norm km100 k100_4 (VL_at (al := [(0, vR 10 (0)), (1, vI v1), (3, vR 4 (29 + 16))]) (st := []) km100 k100_4 ?_)
                  refine And.intro ((((((((h.2 c9).2 c8).1 c7).2 c6).2 c5).2 c4).2 c3).2 c2).1 ?_
                  refine And.intro (fun c1 => ?_) (fun c1 => ?_)
                  · refine VL_norm km100 k100_5 (VL_at (al := [(0, vR 10 (0)), (1, vI v1), (3, vR 4 (29 + 16))]) (st := []) km100 k100_5 ?_)
                    refine And.intro ((((((((h.2 c9).2 c8).1 c7).2 c6).2 c5).2 c4).2 c3).2 c2).1 ?_
                    refine VL_norm km100 k100_7 (VL_at (al := []) (st := [vI ((m (29 + 16 + 1) (ix v1)) - (m 29 0))]) km100 k100_7 ?_)
                    exact (((((((((h.2 c9).2 c8).1 c7).2 c6).2 c5).2 c4).2 c3).2 c2).2.1 c1)
                  · refine VL_norm km100 k100_6 (VL_at (al := []) (st := []) km100 k100_6 ?_)
                    refine VL_norm km100 k100_7 (VL_at (al := []) (st := [vI (-(n32 1))]) km100 k100_7 ?_)
                    exact (((((((((h.2 c9).2 c8).1 c7).2 c6).2 c5).2 c4).2 c3).2 c2).2.2 c1)
      · refine VL_norm km158 k158_2 (VL_at (al := []) (st := []) km158 k158_2 ?_)
        exact (((h.2 c9).2 c8).2 c7)
/-- BannerParade.lying, label 0 -/
theorem w101_0 {D : Nat} {v1 : Int32} {v2 : Int32} {m : XM} {Q : Int32 → XM → Prop} {E : Nat → XM → Prop}
    (h : (((m 0 7) = (n32 0) → E 0 m) ∧ (¬ (m 0 7) = (n32 0) → ((v1 < (n32 0) → E 2 m) ∧ (¬ v1 < (n32 0) → ((v1 < (m (29 + 12) 0) → ((v2 < (n32 0) → E 1 m) ∧ (¬ v2 < (n32 0) → (((n32 2) < v2 → E 1 m) ∧ (¬ (n32 2) < v2 → ((v2 = (n32 0) → (xin v1 12 = true ∧ Q (m (29 + 12 + 1) (ix v1)) m)) ∧ (¬ v2 = (n32 0) → ((v2 = (n32 1) → (xin v1 12 = true ∧ Q (m (29 + 12 + 2) (ix v1)) m)) ∧ (¬ v2 = (n32 1) → (xin v1 12 = true ∧ Q (m (29 + 12 + 3) (ix v1)) m)))))))))) ∧ (¬ v1 < (m (29 + 12) 0) → E 2 m))))))) :
    VI (D + 2) 101 [vR 10 (0), vI v1, vI v2] m Q E := by
  refine V_of (VL_at (al := [(0, vR 10 (0)), (1, vI v1), (2, vI v2)]) (st := []) km101 k101_0 ?_)
  refine V_of ?_
  refine VL_norm km155 k155_0 (VL_at (al := [(0, vR 10 (0))]) (st := []) km155 k155_0 ?_)
  refine And.intro (fun c7 => ?_) (fun c7 => ?_)
  · refine VL_norm km155 k155_1 (VL_at (al := []) (st := []) km155 k155_1 ?_)
    exact (h.1 c7)
  · refine VL_norm km155 k155_2 (VL_at (al := []) (st := []) km155 k155_2 ?_)
    refine V_of ?_
    refine VL_norm km158 k158_0 (VL_at (al := [(0, vI v1), (1, vI (m (29 + 12) 0))]) (st := []) km158 k158_0 ?_)
    refine And.intro (fun c6 => ?_) (fun c6 => ?_)
    · refine VL_norm km158 k158_2 (VL_at (al := []) (st := []) km158 k158_2 ?_)
      exact ((h.2 c7).1 c6)
    · refine VL_norm km158 k158_1 (VL_at (al := [(0, vI v1), (1, vI (m (29 + 12) 0))]) (st := []) km158 k158_1 ?_)
      refine And.intro (fun c5 => ?_) (fun c5 => ?_)
      · refine VL_norm km158 k158_3 (VL_at (al := []) (st := []) km158 k158_3 ?_)
        refine V_of ?_
        refine VL_norm km159 k159_0 (VL_at (al := [(0, vI v2), (1, vI (n32 0)), (2, vI (n32 2))]) (st := []) km159 k159_0 ?_)
        refine And.intro (fun c4 => ?_) (fun c4 => ?_)
        · refine VL_norm km159 k159_3 (VL_at (al := []) (st := []) km159 k159_3 ?_)
          refine VL_norm km159 k159_4 (VL_at (al := []) (st := [vI (n32 0)]) km159 k159_4 ?_)
          refine V_of ?_
          refine VL_norm km160 k160_0 (VL_at (al := [(0, vI (n32 0))]) (st := []) km160 k160_0 ?_)
          refine And.intro (fun _ => ?_) (fun c => absurd (by decide) c)
          refine VL_norm km160 k160_1 (VL_at (al := []) (st := []) km160 k160_1 ?_)
          exact ((((h.2 c7).2 c6).1 c5).1 c4)
        · refine VL_norm km159 k159_1 (VL_at (al := [(0, vI v2), (2, vI (n32 2))]) (st := []) km159 k159_1 ?_)
          refine And.intro (fun c3 => ?_) (fun c3 => ?_)
          · refine VL_norm km159 k159_3 (VL_at (al := []) (st := []) km159 k159_3 ?_)
            refine VL_norm km159 k159_4 (VL_at (al := []) (st := [vI (n32 0)]) km159 k159_4 ?_)
            refine V_of ?_
            refine VL_norm km160 k160_0 (VL_at (al := [(0, vI (n32 0))]) (st := []) km160 k160_0 ?_)
            refine And.intro (fun _ => ?_) (fun c => absurd (by decide) c)
            refine VL_norm km160 k160_1 (VL_at (al := []) (st := []) km160 k160_1 ?_)
            exact (((((h.2 c7).2 c6).1 c5).2 c4).1 c3)
          · refine VL_norm km159 k159_2 (VL_at (al := []) (st := []) km159 k159_2 ?_)
            refine VL_norm km159 k159_4 (VL_at (al := []) (st := [vI (n32 1)]) km159 k159_4 ?_)
            refine V_of ?_
            refine VL_norm km160 k160_0 (VL_at (al := [(0, vI (n32 1))]) (st := []) km160 k160_0 ?_)
            refine And.intro (fun c => absurd c (by decide)) (fun _ => ?_)
            refine VL_norm km160 k160_2 (VL_at (al := []) (st := []) km160 k160_2 ?_)
            refine And.intro (fun c2 => ?_) (fun c2 => ?_)
            · refine VL_norm km101 k101_1 (VL_at (al := [(1, vI v1), (3, vR 1 (29 + 12))]) (st := []) km101 k101_1 ?_)
              refine And.intro ((((((h.2 c7).2 c6).1 c5).2 c4).2 c3).1 c2).1 ?_
              exact ((((((h.2 c7).2 c6).1 c5).2 c4).2 c3).1 c2).2
            · refine And.intro (fun c1 => ?_) (fun c1 => ?_)
              · refine VL_norm km101 k101_2 (VL_at (al := [(1, vI v1), (3, vR 1 (29 + 12))]) (st := []) km101 k101_2 ?_)
                refine And.intro (((((((h.2 c7).2 c6).1 c5).2 c4).2 c3).2 c2).1 c1).1 ?_
                exact (((((((h.2 c7).2 c6).1 c5).2 c4).2 c3).2 c2).1 c1).2
              · refine VL_norm km101 k101_3 (VL_at (al := [(1, vI v1), (3, vR 1 (29 + 12))]) (st := []) km101 k101_3 ?_)
                refine And.intro (((((((h.2 c7).2 c6).1 c5).2 c4).2 c3).2 c2).2 c1).1 ?_
                exact (((((((h.2 c7).2 c6).1 c5).2 c4).2 c3).2 c2).2 c1).2
      · refine VL_norm km158 k158_2 (VL_at (al := []) (st := []) km158 k158_2 ?_)
        exact (((h.2 c7).2 c6).2 c5)
/-- BannerParade.wordByte, label 0 -/
theorem w102_0 {D : Nat} {v1 : Int32} {v2 : Int32} {m : XM} {Q : Int32 → XM → Prop} {E : Nat → XM → Prop}
    (h : (((m 0 7) = (n32 0) → E 0 m) ∧ (¬ (m 0 7) = (n32 0) → ((v1 < (n32 0) → E 2 m) ∧ (¬ v1 < (n32 0) → ((v1 < (m 69 0) → ((v2 < (n32 0) → Q (-(n32 1)) m) ∧ (¬ v2 < (n32 0) → (xin v1 6 = true ∧ (((m (69 + 3) (ix v1)) ≤ v2 → Q (-(n32 1)) m) ∧ (¬ (m (69 + 3) (ix v1)) ≤ v2 → (xin ((v1 * (n32 8)) + v2) 48 = true ∧ Q (m (69 + 4) (ix ((v1 * (n32 8)) + v2))) m))))))) ∧ (¬ v1 < (m 69 0) → E 2 m))))))) :
    VI (D + 2) 102 [vR 10 (0), vI v1, vI v2] m Q E := by
  refine V_of (VL_at (al := [(0, vR 10 (0)), (1, vI v1), (2, vI v2)]) (st := []) km102 k102_0 ?_)
  refine V_of ?_
  refine VL_norm km155 k155_0 (VL_at (al := [(0, vR 10 (0))]) (st := []) km155 k155_0 ?_)
  refine And.intro (fun c5 => ?_) (fun c5 => ?_)
  · refine VL_norm km155 k155_1 (VL_at (al := []) (st := []) km155 k155_1 ?_)
    exact (h.1 c5)
  · refine VL_norm km155 k155_2 (VL_at (al := []) (st := []) km155 k155_2 ?_)
    refine V_of ?_
    refine VL_norm km157 k157_0 (VL_at (al := [(0, vR 10 (0)), (1, vI v1)]) (st := []) km157 k157_0 ?_)
    refine V_of ?_
    refine VL_norm km158 k158_0 (VL_at (al := [(0, vI v1), (1, vI (m 69 0))]) (st := []) km158 k158_0 ?_)
    refine And.intro (fun c4 => ?_) (fun c4 => ?_)
    · refine VL_norm km158 k158_2 (VL_at (al := []) (st := []) km158 k158_2 ?_)
      exact ((h.2 c5).1 c4)
    · refine VL_norm km158 k158_1 (VL_at (al := [(0, vI v1), (1, vI (m 69 0))]) (st := []) km158 k158_1 ?_)
      refine And.intro (fun c3 => ?_) (fun c3 => ?_)
      · refine VL_norm km158 k158_3 (VL_at (al := []) (st := []) km158 k158_3 ?_)
        refine V_of ?_
        refine VL_norm km45 k45_0 (VL_at (al := [(0, vR 6 (69)), (1, vI v1), (2, vI v2)]) (st := []) km45 k45_0 ?_)
        refine And.intro (fun c2 => ?_) (fun c2 => ?_)
        · refine VL_norm km45 k45_3 (VL_at (al := []) (st := []) km45 k45_3 ?_)
          refine VL_norm km45 k45_4 (VL_at (al := []) (st := [vI (-(n32 1))]) km45 k45_4 ?_)
          exact ((((h.2 c5).2 c4).1 c3).1 c2)
        · refine VL_norm km45 k45_1 (VL_at (al := [(0, vR 6 (69)), (1, vI v1), (2, vI v2)]) (st := []) km45 k45_1 ?_)
          refine And.intro ((((h.2 c5).2 c4).1 c3).2 c2).1 ?_
          refine And.intro (fun c1 => ?_) (fun c1 => ?_)
          · refine VL_norm km45 k45_3 (VL_at (al := []) (st := []) km45 k45_3 ?_)
            refine VL_norm km45 k45_4 (VL_at (al := []) (st := [vI (-(n32 1))]) km45 k45_4 ?_)
            exact (((((h.2 c5).2 c4).1 c3).2 c2).2.1 c1)
          · refine VL_norm km45 k45_2 (VL_at (al := [(0, vR 6 (69)), (1, vI v1), (2, vI v2)]) (st := []) km45 k45_2 ?_)
            refine And.intro (((((h.2 c5).2 c4).1 c3).2 c2).2.2 c1).1 ?_
            refine VL_norm km45 k45_4 (VL_at (al := []) (st := [vI (m (69 + 4) (ix ((v1 * (n32 8)) + v2)))]) km45 k45_4 ?_)
            exact (((((h.2 c5).2 c4).1 c3).2 c2).2.2 c1).2
      · refine VL_norm km158 k158_2 (VL_at (al := []) (st := []) km158 k158_2 ?_)
        exact (((h.2 c5).2 c4).2 c3)
/-- BannerParade.readByte, label 0 -/
theorem w103_0 {D : Nat} {v1 : Int32} {v2 : Int32} {m : XM} {Q : Int32 → XM → Prop} {E : Nat → XM → Prop}
    (h : (((m 0 7) = (n32 0) → E 0 m) ∧ (¬ (m 0 7) = (n32 0) → ((v1 < (n32 0) → E 2 m) ∧ (¬ v1 < (n32 0) → ((v1 < (m 69 0) → VA (D + 3) 161 [vR 10 (0), vI v1] m (fun x1 m1 => ((v2 < (n32 0) → Q (-(n32 1)) m1) ∧ (¬ v2 < (n32 0) → (((m1 x1 0) ≤ v2 → Q (-(n32 1)) m1) ∧ (¬ (m1 x1 0) ≤ v2 → (xin v2 24 = true ∧ Q (m1 (x1 + 1) (ix v2)) m1)))))) E) ∧ (¬ v1 < (m 69 0) → E 2 m))))))) :
    VI (D + 4) 103 [vR 10 (0), vI v1, vI v2] m Q E := by
  refine V_of (VL_at (al := [(0, vR 10 (0)), (1, vI v1), (2, vI v2)]) (st := []) km103 k103_0 ?_)
  refine V_of ?_
  refine VL_norm km155 k155_0 (VL_at (al := [(0, vR 10 (0))]) (st := []) km155 k155_0 ?_)
  refine And.intro (fun c6 => ?_) (fun c6 => ?_)
  · refine VL_norm km155 k155_1 (VL_at (al := []) (st := []) km155 k155_1 ?_)
    exact (h.1 c6)
  · refine VL_norm km155 k155_2 (VL_at (al := []) (st := []) km155 k155_2 ?_)
    refine V_of ?_
    refine VL_norm km157 k157_0 (VL_at (al := [(0, vR 10 (0)), (1, vI v1)]) (st := []) km157 k157_0 ?_)
    refine V_of ?_
    refine VL_norm km158 k158_0 (VL_at (al := [(0, vI v1), (1, vI (m 69 0))]) (st := []) km158 k158_0 ?_)
    refine And.intro (fun c5 => ?_) (fun c5 => ?_)
    · refine VL_norm km158 k158_2 (VL_at (al := []) (st := []) km158 k158_2 ?_)
      exact ((h.2 c6).1 c5)
    · refine VL_norm km158 k158_1 (VL_at (al := [(0, vI v1), (1, vI (m 69 0))]) (st := []) km158 k158_1 ?_)
      refine And.intro (fun c4 => ?_) (fun c4 => ?_)
      · refine VL_norm km158 k158_3 (VL_at (al := []) (st := []) km158 k158_3 ?_)
        refine V_mono (((h.2 c6).2 c5).1 c4) (fun u1 m1 h1 => ?_) (fun _ _ h => h)
        refine V_of ?_
        refine VL_norm km35 k35_0 (VL_at (al := [(0, vR 5 ((xtr u1))), (1, vI v2)]) (st := []) km35 k35_0 ?_)
        refine And.intro (fun c3 => ?_) (fun c3 => ?_)
        · refine VL_norm km35 k35_3 (VL_at (al := []) (st := []) km35 k35_3 ?_)
          refine VL_norm km35 k35_4 (VL_at (al := []) (st := [vI (-(n32 1))]) km35 k35_4 ?_)
          exact (h1.1 c3)
        · refine VL_norm km35 k35_1 (VL_at (al := [(0, vR 5 ((xtr u1))), (1, vI v2)]) (st := []) km35 k35_1 ?_)
          refine And.intro (fun c2 => ?_) (fun c2 => ?_)
          · refine VL_norm km35 k35_3 (VL_at (al := []) (st := []) km35 k35_3 ?_)
            refine VL_norm km35 k35_4 (VL_at (al := []) (st := [vI (-(n32 1))]) km35 k35_4 ?_)
            exact ((h1.2 c3).1 c2)
          · refine VL_norm km35 k35_2 (VL_at (al := [(0, vR 5 ((xtr u1))), (1, vI v2)]) (st := []) km35 k35_2 ?_)
            refine And.intro ((h1.2 c3).2 c2).1 ?_
            refine VL_norm km35 k35_4 (VL_at (al := []) (st := [vI (m1 ((xtr u1) + 1) (ix v2))]) km35 k35_4 ?_)
            exact ((h1.2 c3).2 c2).2
      · refine VL_norm km158 k158_2 (VL_at (al := []) (st := []) km158 k158_2 ?_)
        exact (((h.2 c6).2 c5).2 c4)
/-- BannerParade.seen, label 0 -/
theorem w104_0 {D : Nat} {v1 : Int32} {m : XM} {Q : Int32 → XM → Prop} {E : Nat → XM → Prop}
    (h : (((m 0 7) = (n32 0) → E 0 m) ∧ (¬ (m 0 7) = (n32 0) → ((v1 < (n32 0) → E 2 m) ∧ (¬ v1 < (n32 0) → ((v1 < (m 69 0) → VI (D + 2) 169 [vR 10 (0), vI v1] m (fun x1 m1 => Q x1 m1) E) ∧ (¬ v1 < (m 69 0) → E 2 m))))))) :
    VI (D + 3) 104 [vR 10 (0), vI v1] m Q E := by
  refine V_of (VL_at (al := [(0, vR 10 (0)), (1, vI v1)]) (st := []) km104 k104_0 ?_)
  refine V_of ?_
  refine VL_norm km155 k155_0 (VL_at (al := [(0, vR 10 (0))]) (st := []) km155 k155_0 ?_)
  refine And.intro (fun c4 => ?_) (fun c4 => ?_)
  · refine VL_norm km155 k155_1 (VL_at (al := []) (st := []) km155 k155_1 ?_)
    exact (h.1 c4)
  · refine VL_norm km155 k155_2 (VL_at (al := []) (st := []) km155 k155_2 ?_)
    refine V_of ?_
    refine VL_norm km157 k157_0 (VL_at (al := [(0, vR 10 (0)), (1, vI v1)]) (st := []) km157 k157_0 ?_)
    refine V_of ?_
    refine VL_norm km158 k158_0 (VL_at (al := [(0, vI v1), (1, vI (m 69 0))]) (st := []) km158 k158_0 ?_)
    refine And.intro (fun c3 => ?_) (fun c3 => ?_)
    · refine VL_norm km158 k158_2 (VL_at (al := []) (st := []) km158 k158_2 ?_)
      exact ((h.2 c4).1 c3)
    · refine VL_norm km158 k158_1 (VL_at (al := [(0, vI v1), (1, vI (m 69 0))]) (st := []) km158 k158_1 ?_)
      refine And.intro (fun c2 => ?_) (fun c2 => ?_)
      · refine VL_norm km158 k158_3 (VL_at (al := []) (st := []) km158 k158_3 ?_)
        refine V_mono (((h.2 c4).2 c3).1 c2) (fun u1 m1 h1 => ?_) (fun _ _ h => h)
        exact h1
      · refine VL_norm km158 k158_2 (VL_at (al := []) (st := []) km158 k158_2 ?_)
        exact (((h.2 c4).2 c3).2 c2)
/-- BannerParade.matches, label 0 -/
theorem w105_0 {D : Nat} {v1 : Int32} {m : XM} {Q : Int32 → XM → Prop} {E : Nat → XM → Prop}
    (h : (((m 0 7) = (n32 0) → E 0 m) ∧ (¬ (m 0 7) = (n32 0) → ((v1 < (n32 0) → E 2 m) ∧ (¬ v1 < (n32 0) → ((v1 < (m 69 0) → VA (D + 3) 161 [vR 10 (0), vI v1] m (fun x1 m1 => VI (D + 3) 37 [vR 5 (x1), vR 6 (69), vI v1] m1 (fun x2 m2 => Q x2 m2) E) E) ∧ (¬ v1 < (m 69 0) → E 2 m))))))) :
    VI (D + 4) 105 [vR 10 (0), vI v1] m Q E := by
  refine V_of (VL_at (al := [(0, vR 10 (0)), (1, vI v1)]) (st := []) km105 k105_0 ?_)
  refine V_of ?_
  refine VL_norm km155 k155_0 (VL_at (al := [(0, vR 10 (0))]) (st := []) km155 k155_0 ?_)
  refine And.intro (fun c5 => ?_) (fun c5 => ?_)
  · refine VL_norm km155 k155_1 (VL_at (al := []) (st := []) km155 k155_1 ?_)
    exact (h.1 c5)
  · refine VL_norm km155 k155_2 (VL_at (al := []) (st := []) km155 k155_2 ?_)
    refine V_of ?_
    refine VL_norm km157 k157_0 (VL_at (al := [(0, vR 10 (0)), (1, vI v1)]) (st := []) km157 k157_0 ?_)
    refine V_of ?_
    refine VL_norm km158 k158_0 (VL_at (al := [(0, vI v1), (1, vI (m 69 0))]) (st := []) km158 k158_0 ?_)
    refine And.intro (fun c4 => ?_) (fun c4 => ?_)
    · refine VL_norm km158 k158_2 (VL_at (al := []) (st := []) km158 k158_2 ?_)
      exact ((h.2 c5).1 c4)
    · refine VL_norm km158 k158_1 (VL_at (al := [(0, vI v1), (1, vI (m 69 0))]) (st := []) km158 k158_1 ?_)
      refine And.intro (fun c3 => ?_) (fun c3 => ?_)
      · refine VL_norm km158 k158_3 (VL_at (al := []) (st := []) km158 k158_3 ?_)
        refine V_mono (((h.2 c5).2 c4).1 c3) (fun u1 m1 h1 => ?_) (fun _ _ h => h)
        refine V_mono h1 (fun u2 m2 h2 => ?_) (fun _ _ h => h)
        exact h2
      · refine VL_norm km158 k158_2 (VL_at (al := []) (st := []) km158 k158_2 ?_)
        exact (((h.2 c5).2 c4).2 c3)
/-- BannerParade.isRead, label 0 -/
theorem w106_0 {D : Nat} {v1 : Int32} {m : XM} {Q : Int32 → XM → Prop} {E : Nat → XM → Prop}
    (h : (((m 0 7) = (n32 0) → E 0 m) ∧ (¬ (m 0 7) = (n32 0) → ((v1 < (n32 0) → E 2 m) ∧ (¬ v1 < (n32 0) → ((v1 < (m 69 0) → VA (D + 3) 161 [vR 10 (0), vI v1] m (fun x1 m1 => VI (D + 3) 39 [vR 5 (x1), vR 6 (69), vI v1] m1 (fun x2 m2 => (xrt 2 x2 = true ∧ Q x2 m2)) E) E) ∧ (¬ v1 < (m 69 0) → E 2 m))))))) :
    VI (D + 4) 106 [vR 10 (0), vI v1] m Q E := by
  refine V_of (VL_at (al := [(0, vR 10 (0)), (1, vI v1)]) (st := []) km106 k106_0 ?_)
  refine V_of ?_
  refine VL_norm km155 k155_0 (VL_at (al := [(0, vR 10 (0))]) (st := []) km155 k155_0 ?_)
  refine And.intro (fun c5 => ?_) (fun c5 => ?_)
  · refine VL_norm km155 k155_1 (VL_at (al := []) (st := []) km155 k155_1 ?_)
    exact (h.1 c5)
  · refine VL_norm km155 k155_2 (VL_at (al := []) (st := []) km155 k155_2 ?_)
    refine V_of ?_
    refine VL_norm km157 k157_0 (VL_at (al := [(0, vR 10 (0)), (1, vI v1)]) (st := []) km157 k157_0 ?_)
    refine V_of ?_
    refine VL_norm km158 k158_0 (VL_at (al := [(0, vI v1), (1, vI (m 69 0))]) (st := []) km158 k158_0 ?_)
    refine And.intro (fun c4 => ?_) (fun c4 => ?_)
    · refine VL_norm km158 k158_2 (VL_at (al := []) (st := []) km158 k158_2 ?_)
      exact ((h.2 c5).1 c4)
    · refine VL_norm km158 k158_1 (VL_at (al := [(0, vI v1), (1, vI (m 69 0))]) (st := []) km158 k158_1 ?_)
      refine And.intro (fun c3 => ?_) (fun c3 => ?_)
      · refine VL_norm km158 k158_3 (VL_at (al := []) (st := []) km158 k158_3 ?_)
        refine V_mono (((h.2 c5).2 c4).1 c3) (fun u1 m1 h1 => ?_) (fun _ _ h => h)
        refine V_mono h1 (fun u2 m2 h2 => ?_) (fun _ _ h => h)
        refine And.intro h2.1 ?_
        exact h2.2
      · refine VL_norm km158 k158_2 (VL_at (al := []) (st := []) km158 k158_2 ?_)
        exact (((h.2 c5).2 c4).2 c3)
/-- BannerParade.share, label 0 -/
theorem w107_0 {D : Nat} {v1 : Int32} {m : XM} {Q : UInt32 → XM → Prop} {E : Nat → XM → Prop}
    (h : (((m 0 7) = (n32 0) → E 0 m) ∧ (¬ (m 0 7) = (n32 0) → ((v1 < (n32 0) → E 2 m) ∧ (¬ v1 < (n32 0) → ((v1 < (m 69 0) → VA (D + 3) 161 [vR 10 (0), vI v1] m (fun x1 m1 => VF (D + 3) 40 [vR 5 (x1), vR 6 (69), vI v1] m1 (fun x2 m2 => Q x2 m2) E) E) ∧ (¬ v1 < (m 69 0) → E 2 m))))))) :
    VF (D + 4) 107 [vR 10 (0), vI v1] m Q E := by
  refine V_of (VL_at (al := [(0, vR 10 (0)), (1, vI v1)]) (st := []) km107 k107_0 ?_)
  refine V_of ?_
  refine VL_norm km155 k155_0 (VL_at (al := [(0, vR 10 (0))]) (st := []) km155 k155_0 ?_)
  refine And.intro (fun c5 => ?_) (fun c5 => ?_)
  · refine VL_norm km155 k155_1 (VL_at (al := []) (st := []) km155 k155_1 ?_)
    exact (h.1 c5)
  · refine VL_norm km155 k155_2 (VL_at (al := []) (st := []) km155 k155_2 ?_)
    refine V_of ?_
    refine VL_norm km157 k157_0 (VL_at (al := [(0, vR 10 (0)), (1, vI v1)]) (st := []) km157 k157_0 ?_)
    refine V_of ?_
    refine VL_norm km158 k158_0 (VL_at (al := [(0, vI v1), (1, vI (m 69 0))]) (st := []) km158 k158_0 ?_)
    refine And.intro (fun c4 => ?_) (fun c4 => ?_)
    · refine VL_norm km158 k158_2 (VL_at (al := []) (st := []) km158 k158_2 ?_)
      exact ((h.2 c5).1 c4)
    · refine VL_norm km158 k158_1 (VL_at (al := [(0, vI v1), (1, vI (m 69 0))]) (st := []) km158 k158_1 ?_)
      refine And.intro (fun c3 => ?_) (fun c3 => ?_)
      · refine VL_norm km158 k158_3 (VL_at (al := []) (st := []) km158 k158_3 ?_)
        refine V_mono (((h.2 c5).2 c4).1 c3) (fun u1 m1 h1 => ?_) (fun _ _ h => h)
        refine V_mono h1 (fun u2 m2 h2 => ?_) (fun _ _ h => h)
        exact h2
      · refine VL_norm km158 k158_2 (VL_at (al := []) (st := []) km158 k158_2 ?_)
        exact (((h.2 c5).2 c4).2 c3)
/-- BannerParade.shareBits, label 0 -/
theorem w108_0 {D : Nat} {v1 : Int32} {m : XM} {Q : Int32 → XM → Prop} {E : Nat → XM → Prop}
    (h : (((m 0 7) = (n32 0) → E 0 m) ∧ (¬ (m 0 7) = (n32 0) → ((v1 < (n32 0) → E 2 m) ∧ (¬ v1 < (n32 0) → ((v1 < (m 69 0) → VA (D + 3) 161 [vR 10 (0), vI v1] m (fun x1 m1 => VF (D + 3) 40 [vR 5 (x1), vR 6 (69), vI v1] m1 (fun x2 m2 => VI (D + 3) 170 [vF x2] m2 (fun x3 m3 => Q x3 m3) E) E) E) ∧ (¬ v1 < (m 69 0) → E 2 m))))))) :
    VI (D + 4) 108 [vR 10 (0), vI v1] m Q E := by
  refine V_of (VL_at (al := [(0, vR 10 (0)), (1, vI v1)]) (st := []) km108 k108_0 ?_)
  refine V_of ?_
  refine VL_norm km155 k155_0 (VL_at (al := [(0, vR 10 (0))]) (st := []) km155 k155_0 ?_)
  refine And.intro (fun c6 => ?_) (fun c6 => ?_)
  · refine VL_norm km155 k155_1 (VL_at (al := []) (st := []) km155 k155_1 ?_)
    exact (h.1 c6)
  · refine VL_norm km155 k155_2 (VL_at (al := []) (st := []) km155 k155_2 ?_)
    refine V_of ?_
    refine VL_norm km157 k157_0 (VL_at (al := [(0, vR 10 (0)), (1, vI v1)]) (st := []) km157 k157_0 ?_)
    refine V_of ?_
    refine VL_norm km158 k158_0 (VL_at (al := [(0, vI v1), (1, vI (m 69 0))]) (st := []) km158 k158_0 ?_)
    refine And.intro (fun c5 => ?_) (fun c5 => ?_)
    · refine VL_norm km158 k158_2 (VL_at (al := []) (st := []) km158 k158_2 ?_)
      exact ((h.2 c6).1 c5)
    · refine VL_norm km158 k158_1 (VL_at (al := [(0, vI v1), (1, vI (m 69 0))]) (st := []) km158 k158_1 ?_)
      refine And.intro (fun c4 => ?_) (fun c4 => ?_)
      · refine VL_norm km158 k158_3 (VL_at (al := []) (st := []) km158 k158_3 ?_)
        refine V_mono (((h.2 c6).2 c5).1 c4) (fun u1 m1 h1 => ?_) (fun _ _ h => h)
        refine V_mono h1 (fun u2 m2 h2 => ?_) (fun _ _ h => h)
        refine V_mono h2 (fun u3 m3 h3 => ?_) (fun _ _ h => h)
        exact h3
      · refine VL_norm km158 k158_2 (VL_at (al := []) (st := []) km158 k158_2 ?_)
        exact (((h.2 c6).2 c5).2 c4)
/-- BannerParade.missing, label 0 -/
theorem w109_0 {D : Nat} {v1 : Int32} {m : XM} {Q : Int32 → XM → Prop} {E : Nat → XM → Prop}
    (h : (((m 0 7) = (n32 0) → E 0 m) ∧ (¬ (m 0 7) = (n32 0) → ((v1 < (n32 0) → E 2 m) ∧ (¬ v1 < (n32 0) → ((v1 < (m 69 0) → VLI (D + 2) 109 1 [(0, vR 10 (0)), (1, vI v1), (2, vI (n32 0)), (3, vI (n32 1))] [] m Q E) ∧ (¬ v1 < (m 69 0) → E 2 m))))))) :
    VI (D + 2) 109 [vR 10 (0), vI v1] m Q E := by
  refine V_of (VL_at (al := [(0, vR 10 (0)), (1, vI v1)]) (st := []) km109 k109_0 ?_)
  refine V_of ?_
  refine VL_norm km155 k155_0 (VL_at (al := [(0, vR 10 (0))]) (st := []) km155 k155_0 ?_)
  refine And.intro (fun c3 => ?_) (fun c3 => ?_)
  · refine VL_norm km155 k155_1 (VL_at (al := []) (st := []) km155 k155_1 ?_)
    exact (h.1 c3)
  · refine VL_norm km155 k155_2 (VL_at (al := []) (st := []) km155 k155_2 ?_)
    refine V_of ?_
    refine VL_norm km157 k157_0 (VL_at (al := [(0, vR 10 (0)), (1, vI v1)]) (st := []) km157 k157_0 ?_)
    refine V_of ?_
    refine VL_norm km158 k158_0 (VL_at (al := [(0, vI v1), (1, vI (m 69 0))]) (st := []) km158 k158_0 ?_)
    refine And.intro (fun c2 => ?_) (fun c2 => ?_)
    · refine VL_norm km158 k158_2 (VL_at (al := []) (st := []) km158 k158_2 ?_)
      exact ((h.2 c3).1 c2)
    · refine VL_norm km158 k158_1 (VL_at (al := [(0, vI v1), (1, vI (m 69 0))]) (st := []) km158 k158_1 ?_)
      refine And.intro (fun c1 => ?_) (fun c1 => ?_)
      · refine VL_norm km158 k158_3 (VL_at (al := []) (st := []) km158 k158_3 ?_)
        exact VL_norm km109 k109_1 (((h.2 c3).2 c2).1 c1)
      · refine VL_norm km158 k158_2 (VL_at (al := []) (st := []) km158 k158_2 ?_)
        exact (((h.2 c3).2 c2).2 c1)
/-- BannerParade.missing, label 1 -/
theorem w109_1 {D : Nat} {v1 : Int32} {v2 : Int32} {v3 : Int32} {m : XM} {Q : Int32 → XM → Prop} {E : Nat → XM → Prop}
    (h : (((n32 26) < v3 → Q v2 m) ∧ (¬ (n32 26) < v3 → VI (D + 1) 46 [vR 6 (69), vI v1, vI v3] m (fun x1 m1 => VI (D + 1) 56 [vR 7 (29 + 3), vI v3] m1 (fun x2 m2 => VI (D + 1) 385 [vI (n32 0), vI (x1 - x2)] m2 (fun x3 m3 => VLI (D + 2) 109 1 [(0, vR 10 (0)), (1, vI v1), (2, vI (v2 + x3)), (3, vI (v3 + (n32 1)))] [] m3 Q E) E) E) E))) :
    VLI (D + 2) 109 1 [(0, vR 10 (0)), (1, vI v1), (2, vI v2), (3, vI v3)] [] m Q E := by
  refine VL_at (al := [(0, vR 10 (0)), (1, vI v1), (2, vI v2), (3, vI v3)]) (st := []) km109 k109_1 ?_
  refine And.intro (fun c4 => ?_) (fun c4 => ?_)
  · refine VL_norm km109 k109_3 (VL_at (al := [(2, vI v2)]) (st := []) km109 k109_3 ?_)
    exact (h.1 c4)
  · refine VL_norm km109 k109_2 (VL_at (al := [(0, vR 10 (0)), (1, vI v1), (2, vI v2), (3, vI v3)]) (st := []) km109 k109_2 ?_)
    refine V_mono (h.2 c4) (fun u1 m1 h1 => ?_) (fun _ _ h => h)
    refine V_mono h1 (fun u2 m2 h2 => ?_) (fun _ _ h => h)
    refine V_mono h2 (fun u3 m3 h3 => ?_) (fun _ _ h => h)
    exact VL_norm km109 k109_1 h3
/-- BannerParade.seenAt, label 0 -/
theorem w110_0 {D : Nat} {v1 : Int32} {v2 : Int32} {m : XM} {Q : Int32 → XM → Prop} {E : Nat → XM → Prop}
    (h : (((m 0 7) = (n32 0) → E 0 m) ∧ (¬ (m 0 7) = (n32 0) → ((v1 < (n32 0) → E 2 m) ∧ (¬ v1 < (n32 0) → ((v1 < (m 69 0) → VA (D + 3) 161 [vR 10 (0), vI v1] m (fun x1 m1 => ((v2 < (n32 0) → Q (-(n32 1)) m1) ∧ (¬ v2 < (n32 0) → (((m1 x1 1) ≤ v2 → Q (-(n32 1)) m1) ∧ (¬ (m1 x1 1) ≤ v2 → (xin v2 12 = true ∧ Q (m1 (x1 + 2) (ix v2)) m1)))))) E) ∧ (¬ v1 < (m 69 0) → E 2 m))))))) :
    VI (D + 4) 110 [vR 10 (0), vI v1, vI v2] m Q E := by
  refine V_of (VL_at (al := [(0, vR 10 (0)), (1, vI v1), (2, vI v2)]) (st := []) km110 k110_0 ?_)
  refine V_of ?_
  refine VL_norm km155 k155_0 (VL_at (al := [(0, vR 10 (0))]) (st := []) km155 k155_0 ?_)
  refine And.intro (fun c6 => ?_) (fun c6 => ?_)
  · refine VL_norm km155 k155_1 (VL_at (al := []) (st := []) km155 k155_1 ?_)
    exact (h.1 c6)
  · refine VL_norm km155 k155_2 (VL_at (al := []) (st := []) km155 k155_2 ?_)
    refine V_of ?_
    refine VL_norm km157 k157_0 (VL_at (al := [(0, vR 10 (0)), (1, vI v1)]) (st := []) km157 k157_0 ?_)
    refine V_of ?_
    refine VL_norm km158 k158_0 (VL_at (al := [(0, vI v1), (1, vI (m 69 0))]) (st := []) km158 k158_0 ?_)
    refine And.intro (fun c5 => ?_) (fun c5 => ?_)
    · refine VL_norm km158 k158_2 (VL_at (al := []) (st := []) km158 k158_2 ?_)
      exact ((h.2 c6).1 c5)
    · refine VL_norm km158 k158_1 (VL_at (al := [(0, vI v1), (1, vI (m 69 0))]) (st := []) km158 k158_1 ?_)
      refine And.intro (fun c4 => ?_) (fun c4 => ?_)
      · refine VL_norm km158 k158_3 (VL_at (al := []) (st := []) km158 k158_3 ?_)
        refine V_mono (((h.2 c6).2 c5).1 c4) (fun u1 m1 h1 => ?_) (fun _ _ h => h)
        refine V_of ?_
        refine VL_norm km36 k36_0 (VL_at (al := [(0, vR 5 ((xtr u1))), (1, vI v2)]) (st := []) km36 k36_0 ?_)
        refine And.intro (fun c3 => ?_) (fun c3 => ?_)
        · refine VL_norm km36 k36_3 (VL_at (al := []) (st := []) km36 k36_3 ?_)
          refine VL_norm km36 k36_4 (VL_at (al := []) (st := [vI (-(n32 1))]) km36 k36_4 ?_)
          exact (h1.1 c3)
        · refine VL_norm km36 k36_1 (VL_at (al := [(0, vR 5 ((xtr u1))), (1, vI v2)]) (st := []) km36 k36_1 ?_)
          refine And.intro (fun c2 => ?_) (fun c2 => ?_)
          · refine VL_norm km36 k36_3 (VL_at (al := []) (st := []) km36 k36_3 ?_)
            refine VL_norm km36 k36_4 (VL_at (al := []) (st := [vI (-(n32 1))]) km36 k36_4 ?_)
            exact ((h1.2 c3).1 c2)
          · refine VL_norm km36 k36_2 (VL_at (al := [(0, vR 5 ((xtr u1))), (1, vI v2)]) (st := []) km36 k36_2 ?_)
            refine And.intro ((h1.2 c3).2 c2).1 ?_
            refine VL_norm km36 k36_4 (VL_at (al := []) (st := [vI (m1 ((xtr u1) + 2) (ix v2))]) km36 k36_4 ?_)
            exact ((h1.2 c3).2 c2).2
      · refine VL_norm km158 k158_2 (VL_at (al := []) (st := []) km158 k158_2 ?_)
        exact (((h.2 c6).2 c5).2 c4)
/-- BannerParade.blanks, label 0 -/
theorem w111_0 {D : Nat} {v1 : Int32} {m : XM} {Q : Int32 → XM → Prop} {E : Nat → XM → Prop}
    (h : (((m 0 7) = (n32 0) → E 0 m) ∧ (¬ (m 0 7) = (n32 0) → ((v1 < (n32 0) → E 2 m) ∧ (¬ v1 < (n32 0) → ((v1 < (m 69 0) → VA (D + 3) 161 [vR 10 (0), vI v1] m (fun x1 m1 => Q ((m1 x1 0) - (m1 x1 1)) m1) E) ∧ (¬ v1 < (m 69 0) → E 2 m))))))) :
    VI (D + 4) 111 [vR 10 (0), vI v1] m Q E := by
  refine V_of (VL_at (al := [(0, vR 10 (0)), (1, vI v1)]) (st := []) km111 k111_0 ?_)
  refine V_of ?_
  refine VL_norm km155 k155_0 (VL_at (al := [(0, vR 10 (0))]) (st := []) km155 k155_0 ?_)
  refine And.intro (fun c4 => ?_) (fun c4 => ?_)
  · refine VL_norm km155 k155_1 (VL_at (al := []) (st := []) km155 k155_1 ?_)
    exact (h.1 c4)
  · refine VL_norm km155 k155_2 (VL_at (al := []) (st := []) km155 k155_2 ?_)
    refine V_of ?_
    refine VL_norm km157 k157_0 (VL_at (al := [(0, vR 10 (0)), (1, vI v1)]) (st := []) km157 k157_0 ?_)
    refine V_of ?_
    refine VL_norm km158 k158_0 (VL_at (al := [(0, vI v1), (1, vI (m 69 0))]) (st := []) km158 k158_0 ?_)
    refine And.intro (fun c3 => ?_) (fun c3 => ?_)
    · refine VL_norm km158 k158_2 (VL_at (al := []) (st := []) km158 k158_2 ?_)
      exact ((h.2 c4).1 c3)
    · refine VL_norm km158 k158_1 (VL_at (al := [(0, vI v1), (1, vI (m 69 0))]) (st := []) km158 k158_1 ?_)
      refine And.intro (fun c2 => ?_) (fun c2 => ?_)
      · refine VL_norm km158 k158_3 (VL_at (al := []) (st := []) km158 k158_3 ?_)
        refine V_mono (((h.2 c4).2 c3).1 c2) (fun u1 m1 h1 => ?_) (fun _ _ h => h)
        exact h1
      · refine VL_norm km158 k158_2 (VL_at (al := []) (st := []) km158 k158_2 ?_)
        exact (((h.2 c4).2 c3).2 c2)
/-- BannerParade.pre-fix, label 0 -/
theorem w112_0 {D : Nat} {v1 : Int32} {m : XM} {Q : Int32 → XM → Prop} {E : Nat → XM → Prop}
    (h : (((m 0 7) = (n32 0) → E 0 m) ∧ (¬ (m 0 7) = (n32 0) → ((v1 < (n32 0) → E 2 m) ∧ (¬ v1 < (n32 0) → ((v1 < (m 69 0) → VA (D + 3) 161 [vR 10 (0), vI v1] m (fun x1 m1 => VI (D + 3) 38 [vR 5 (x1), vR 6 (69), vI v1] m1 (fun x2 m2 => Q x2 m2) E) E) ∧ (¬ v1 < (m 69 0) → E 2 m))))))) :
    VI (D + 4) 112 [vR 10 (0), vI v1] m Q E := by
  refine V_of (VL_at (al := [(0, vR 10 (0)), (1, vI v1)]) (st := []) km112 k112_0 ?_)
  refine V_of ?_
  refine VL_norm km155 k155_0 (VL_at (al := [(0, vR 10 (0))]) (st := []) km155 k155_0 ?_)
  refine And.intro (fun c5 => ?_) (fun c5 => ?_)
  · refine VL_norm km155 k155_1 (VL_at (al := []) (st := []) km155 k155_1 ?_)
    exact (h.1 c5)
  · refine VL_norm km155 k155_2 (VL_at (al := []) (st := []) km155 k155_2 ?_)
    refine V_of ?_
    refine VL_norm km157 k157_0 (VL_at (al := [(0, vR 10 (0)), (1, vI v1)]) (st := []) km157 k157_0 ?_)
    refine V_of ?_
    refine VL_norm km158 k158_0 (VL_at (al := [(0, vI v1), (1, vI (m 69 0))]) (st := []) km158 k158_0 ?_)
    refine And.intro (fun c4 => ?_) (fun c4 => ?_)
    · refine VL_norm km158 k158_2 (VL_at (al := []) (st := []) km158 k158_2 ?_)
      exact ((h.2 c5).1 c4)
    · refine VL_norm km158 k158_1 (VL_at (al := [(0, vI v1), (1, vI (m 69 0))]) (st := []) km158 k158_1 ?_)
      refine And.intro (fun c3 => ?_) (fun c3 => ?_)
      · refine VL_norm km158 k158_3 (VL_at (al := []) (st := []) km158 k158_3 ?_)
        refine V_mono (((h.2 c5).2 c4).1 c3) (fun u1 m1 h1 => ?_) (fun _ _ h => h)
        refine V_mono h1 (fun u2 m2 h2 => ?_) (fun _ _ h => h)
        exact h2
      · refine VL_norm km158 k158_2 (VL_at (al := []) (st := []) km158 k158_2 ?_)
        exact (((h.2 c5).2 c4).2 c3)
/-- BannerParade.holder, label 0 -/
theorem w113_0 {D : Nat} {v1 : Int32} {m : XM} {Q : Int32 → XM → Prop} {E : Nat → XM → Prop}
    (h : (((m 0 7) = (n32 0) → E 0 m) ∧ (¬ (m 0 7) = (n32 0) → ((v1 < (n32 1) → E 1 m) ∧ (¬ v1 < (n32 1) → (((n32 26) < v1 → E 1 m) ∧ (¬ (n32 26) < v1 → VLI (D + 2) 113 1 [(0, vR 10 (0)), (1, vI v1), (2, vI (n32 0))] [] m Q E))))))) :
    VI (D + 2) 113 [vR 10 (0), vI v1] m Q E := by
  refine V_of (VL_at (al := [(0, vR 10 (0)), (1, vI v1)]) (st := []) km113 k113_0 ?_)
  refine V_of ?_
  refine VL_norm km155 k155_0 (VL_at (al := [(0, vR 10 (0))]) (st := []) km155 k155_0 ?_)
  refine And.intro (fun c3 => ?_) (fun c3 => ?_)
  · refine VL_norm km155 k155_1 (VL_at (al := []) (st := []) km155 k155_1 ?_)
    exact (h.1 c3)
  · refine VL_norm km155 k155_2 (VL_at (al := []) (st := []) km155 k155_2 ?_)
    refine V_of ?_
    refine VL_norm km159 k159_0 (VL_at (al := [(0, vI v1), (1, vI (n32 1)), (2, vI (n32 26))]) (st := []) km159 k159_0 ?_)
    refine And.intro (fun c2 => ?_) (fun c2 => ?_)
    · refine VL_norm km159 k159_3 (VL_at (al := []) (st := []) km159 k159_3 ?_)
      refine VL_norm km159 k159_4 (VL_at (al := []) (st := [vI (n32 0)]) km159 k159_4 ?_)
      refine V_of ?_
      refine VL_norm km160 k160_0 (VL_at (al := [(0, vI (n32 0))]) (st := []) km160 k160_0 ?_)
      refine And.intro (fun _ => ?_) (fun c => absurd (by decide) c)
      refine VL_norm km160 k160_1 (VL_at (al := []) (st := []) km160 k160_1 ?_)
      exact ((h.2 c3).1 c2)
    · refine VL_norm km159 k159_1 (VL_at (al := [(0, vI v1), (2, vI (n32 26))]) (st := []) km159 k159_1 ?_)
      refine And.intro (fun c1 => ?_) (fun c1 => ?_)
      · refine VL_norm km159 k159_3 (VL_at (al := []) (st := []) km159 k159_3 ?_)
        refine VL_norm km159 k159_4 (VL_at (al := []) (st := [vI (n32 0)]) km159 k159_4 ?_)
        refine V_of ?_
        refine VL_norm km160 k160_0 (VL_at (al := [(0, vI (n32 0))]) (st := []) km160 k160_0 ?_)
        refine And.intro (fun _ => ?_) (fun c => absurd (by decide) c)
        refine VL_norm km160 k160_1 (VL_at (al := []) (st := []) km160 k160_1 ?_)
        exact (((h.2 c3).2 c2).1 c1)
      · refine VL_norm km159 k159_2 (VL_at (al := []) (st := []) km159 k159_2 ?_)
        refine VL_norm km159 k159_4 (VL_at (al := []) (st := [vI (n32 1)]) km159 k159_4 ?_)
        refine V_of ?_
        refine VL_norm km160 k160_0 (VL_at (al := [(0, vI (n32 1))]) (st := []) km160 k160_0 ?_)
        refine And.intro (fun c => absurd c (by decide)) (fun _ => ?_)
        refine VL_norm km160 k160_2 (VL_at (al := []) (st := []) km160 k160_2 ?_)
        exact VL_norm km113 k113_1 (((h.2 c3).2 c2).2 c1)
/-- BannerParade.holder, label 1 -/
theorem w113_1 {D : Nat} {v1 : Int32} {v2 : Int32} {m : XM} {Q : Int32 → XM → Prop} {E : Nat → XM → Prop}
    (h : (((m (29 + 3) 0) ≤ v2 → Q (-(n32 1)) m) ∧ (¬ (m (29 + 3) 0) ≤ v2 → (xin v2 12 = true ∧ (((m (29 + 3 + 5) (ix v2)) = v1 → Q v2 m) ∧ (¬ (m (29 + 3 + 5) (ix v2)) = v1 → VLI (D + 2) 113 1 [(0, vR 10 (0)), (1, vI v1), (2, vI (v2 + (n32 1)))] [] m Q E)))))) :
    VLI (D + 2) 113 1 [(0, vR 10 (0)), (1, vI v1), (2, vI v2)] [] m Q E := by
  refine VL_at (al := [(0, vR 10 (0)), (1, vI v1), (2, vI v2)]) (st := []) km113 k113_1 ?_
  refine And.intro (fun c2 => ?_) (fun c2 => ?_)
  · refine VL_norm km113 k113_5 (VL_at (al := []) (st := []) km113 k113_5 ?_)
    exact (h.1 c2)
  · refine VL_norm km113 k113_2 (VL_at (al := [(0, vR 10 (0)), (1, vI v1), (2, vI v2)]) (st := []) km113 k113_2 ?_)
    refine And.intro (h.2 c2).1 ?_
    refine And.intro (fun c1 => ?_) (fun c1 => ?_)
    · refine VL_norm km113 k113_3 (VL_at (al := [(2, vI v2)]) (st := []) km113 k113_3 ?_)
      exact ((h.2 c2).2.1 c1)
    · refine VL_norm km113 k113_4 (VL_at (al := [(0, vR 10 (0)), (1, vI v1), (2, vI v2)]) (st := []) km113 k113_4 ?_)
      exact VL_norm km113 k113_1 ((h.2 c2).2.2 c1)
/-- BannerParade.copies, label 0 -/
theorem w114_0 {D : Nat} {v1 : Int32} {m : XM} {Q : Int32 → XM → Prop} {E : Nat → XM → Prop}
    (h : (((m 0 7) = (n32 0) → E 0 m) ∧ (¬ (m 0 7) = (n32 0) → ((v1 < (n32 1) → E 1 m) ∧ (¬ v1 < (n32 1) → (((n32 26) < v1 → E 1 m) ∧ (¬ (n32 26) < v1 → VI (D + 1) 56 [vR 7 (29 + 3), vI v1] m (fun x1 m1 => VI (D + 1) 9 [vR 1 (29 + 12), vI v1] m1 (fun x2 m2 => Q (x1 + x2) m2) E) E))))))) :
    VI (D + 2) 114 [vR 10 (0), vI v1] m Q E := by
  refine V_of (VL_at (al := [(0, vR 10 (0)), (1, vI v1)]) (st := []) km114 k114_0 ?_)
  refine V_of ?_
  refine VL_norm km155 k155_0 (VL_at (al := [(0, vR 10 (0))]) (st := []) km155 k155_0 ?_)
  refine And.intro (fun c5 => ?_) (fun c5 => ?_)
  · refine VL_norm km155 k155_1 (VL_at (al := []) (st := []) km155 k155_1 ?_)
    exact (h.1 c5)
  · refine VL_norm km155 k155_2 (VL_at (al := []) (st := []) km155 k155_2 ?_)
    refine V_of ?_
    refine VL_norm km159 k159_0 (VL_at (al := [(0, vI v1), (1, vI (n32 1)), (2, vI (n32 26))]) (st := []) km159 k159_0 ?_)
    refine And.intro (fun c4 => ?_) (fun c4 => ?_)
    · refine VL_norm km159 k159_3 (VL_at (al := []) (st := []) km159 k159_3 ?_)
      refine VL_norm km159 k159_4 (VL_at (al := []) (st := [vI (n32 0)]) km159 k159_4 ?_)
      refine V_of ?_
      refine VL_norm km160 k160_0 (VL_at (al := [(0, vI (n32 0))]) (st := []) km160 k160_0 ?_)
      refine And.intro (fun _ => ?_) (fun c => absurd (by decide) c)
      refine VL_norm km160 k160_1 (VL_at (al := []) (st := []) km160 k160_1 ?_)
      exact ((h.2 c5).1 c4)
    · refine VL_norm km159 k159_1 (VL_at (al := [(0, vI v1), (2, vI (n32 26))]) (st := []) km159 k159_1 ?_)
      refine And.intro (fun c3 => ?_) (fun c3 => ?_)
      · refine VL_norm km159 k159_3 (VL_at (al := []) (st := []) km159 k159_3 ?_)
        refine VL_norm km159 k159_4 (VL_at (al := []) (st := [vI (n32 0)]) km159 k159_4 ?_)
        refine V_of ?_
        refine VL_norm km160 k160_0 (VL_at (al := [(0, vI (n32 0))]) (st := []) km160 k160_0 ?_)
        refine And.intro (fun _ => ?_) (fun c => absurd (by decide) c)
        refine VL_norm km160 k160_1 (VL_at (al := []) (st := []) km160 k160_1 ?_)
        exact (((h.2 c5).2 c4).1 c3)
      · refine VL_norm km159 k159_2 (VL_at (al := []) (st := []) km159 k159_2 ?_)
        refine VL_norm km159 k159_4 (VL_at (al := []) (st := [vI (n32 1)]) km159 k159_4 ?_)
        refine V_of ?_
        refine VL_norm km160 k160_0 (VL_at (al := [(0, vI (n32 1))]) (st := []) km160 k160_0 ?_)
        refine And.intro (fun c => absurd c (by decide)) (fun _ => ?_)
        refine VL_norm km160 k160_2 (VL_at (al := []) (st := []) km160 k160_2 ?_)
        refine V_mono (((h.2 c5).2 c4).2 c3) (fun u1 m1 h1 => ?_) (fun _ _ h => h)
        refine V_mono h1 (fun u2 m2 h2 => ?_) (fun _ _ h => h)
        exact h2
/-- BannerParade.tired, label 0 -/
theorem w115_0 {D : Nat} {v1 : Int32} {m : XM} {Q : Int32 → XM → Prop} {E : Nat → XM → Prop}
    (h : (((m 0 7) = (n32 0) → E 0 m) ∧ (¬ (m 0 7) = (n32 0) → ((v1 < (n32 0) → E 1 m) ∧ (¬ v1 < (n32 0) → (((n32 100) < v1 → E 1 m) ∧ (¬ (n32 100) < v1 → VI (D + 1) 62 [vR 7 (29 + 3), vI v1] m (fun x1 m1 => Q x1 m1) E))))))) :
    VI (D + 2) 115 [vR 10 (0), vI v1] m Q E := by
  refine V_of (VL_at (al := [(0, vR 10 (0)), (1, vI v1)]) (st := []) km115 k115_0 ?_)
  refine V_of ?_
  refine VL_norm km155 k155_0 (VL_at (al := [(0, vR 10 (0))]) (st := []) km155 k155_0 ?_)
  refine And.intro (fun c4 => ?_) (fun c4 => ?_)
  · refine VL_norm km155 k155_1 (VL_at (al := []) (st := []) km155 k155_1 ?_)
    exact (h.1 c4)
  · refine VL_norm km155 k155_2 (VL_at (al := []) (st := []) km155 k155_2 ?_)
    refine V_of ?_
    refine VL_norm km159 k159_0 (VL_at (al := [(0, vI v1), (1, vI (n32 0)), (2, vI (n32 100))]) (st := []) km159 k159_0 ?_)
    refine And.intro (fun c3 => ?_) (fun c3 => ?_)
    · refine VL_norm km159 k159_3 (VL_at (al := []) (st := []) km159 k159_3 ?_)
      refine VL_norm km159 k159_4 (VL_at (al := []) (st := [vI (n32 0)]) km159 k159_4 ?_)
      refine V_of ?_
      refine VL_norm km160 k160_0 (VL_at (al := [(0, vI (n32 0))]) (st := []) km160 k160_0 ?_)
      refine And.intro (fun _ => ?_) (fun c => absurd (by decide) c)
      refine VL_norm km160 k160_1 (VL_at (al := []) (st := []) km160 k160_1 ?_)
      exact ((h.2 c4).1 c3)
    · refine VL_norm km159 k159_1 (VL_at (al := [(0, vI v1), (2, vI (n32 100))]) (st := []) km159 k159_1 ?_)
      refine And.intro (fun c2 => ?_) (fun c2 => ?_)
      · refine VL_norm km159 k159_3 (VL_at (al := []) (st := []) km159 k159_3 ?_)
        refine VL_norm km159 k159_4 (VL_at (al := []) (st := [vI (n32 0)]) km159 k159_4 ?_)
        refine V_of ?_
        refine VL_norm km160 k160_0 (VL_at (al := [(0, vI (n32 0))]) (st := []) km160 k160_0 ?_)
        refine And.intro (fun _ => ?_) (fun c => absurd (by decide) c)
        refine VL_norm km160 k160_1 (VL_at (al := []) (st := []) km160 k160_1 ?_)
        exact (((h.2 c4).2 c3).1 c2)
      · refine VL_norm km159 k159_2 (VL_at (al := []) (st := []) km159 k159_2 ?_)
        refine VL_norm km159 k159_4 (VL_at (al := []) (st := [vI (n32 1)]) km159 k159_4 ?_)
        refine V_of ?_
        refine VL_norm km160 k160_0 (VL_at (al := [(0, vI (n32 1))]) (st := []) km160 k160_0 ?_)
        refine And.intro (fun c => absurd c (by decide)) (fun _ => ?_)
        refine VL_norm km160 k160_2 (VL_at (al := []) (st := []) km160 k160_2 ?_)
        refine V_mono (((h.2 c4).2 c3).2 c2) (fun u1 m1 h1 => ?_) (fun _ _ h => h)
        exact h1
/-- BannerParade.swappers, label 0 -/
theorem w116_0 {D : Nat}  {m : XM} {Q : Int32 → XM → Prop} {E : Nat → XM → Prop}
    (h : (((m 0 7) = (n32 0) → E 0 m) ∧ (¬ (m 0 7) = (n32 0) → VLI (D + 2) 116 1 [(0, vR 10 (0)), (1, vI (n32 0)), (2, vI (n32 0))] [] m Q E))) :
    VI (D + 2) 116 [vR 10 (0)] m Q E := by
  refine V_of (VL_at (al := [(0, vR 10 (0))]) (st := []) km116 k116_0 ?_)
  refine V_of ?_
  refine VL_norm km155 k155_0 (VL_at (al := [(0, vR 10 (0))]) (st := []) km155 k155_0 ?_)
  refine And.intro (fun c1 => ?_) (fun c1 => ?_)
  · refine VL_norm km155 k155_1 (VL_at (al := []) (st := []) km155 k155_1 ?_)
    exact (h.1 c1)
  · refine VL_norm km155 k155_2 (VL_at (al := []) (st := []) km155 k155_2 ?_)
    exact VL_norm km116 k116_1 (h.2 c1)
/-- BannerParade.swappers, label 1 -/
theorem w116_1 {D : Nat} {v1 : Int32} {v2 : Int32} {m : XM} {Q : Int32 → XM → Prop} {E : Nat → XM → Prop}
    (h : (((m (29 + 3) 0) ≤ v2 → Q v1 m) ∧ (¬ (m (29 + 3) 0) ≤ v2 → VI (D + 1) 74 [vR 8 (29), vI v2] m (fun x1 m1 => ((x1 = (n32 0) → VLI (D + 2) 116 1 [(0, vR 10 (0)), (1, vI v1), (2, vI (v2 + (n32 1)))] [] m1 Q E) ∧ (¬ x1 = (n32 0) → VLI (D + 2) 116 1 [(0, vR 10 (0)), (1, vI (v1 ||| ((n32 1) <<< (v2 &&& 31)))), (2, vI (v2 + (n32 1)))] [] m1 Q E))) E))) :
    VLI (D + 2) 116 1 [(0, vR 10 (0)), (1, vI v1), (2, vI v2)] [] m Q E := by
  refine VL_at (al := [(0, vR 10 (0)), (1, vI v1), (2, vI v2)]) (st := []) km116 k116_1 ?_
  refine And.intro (fun c3 => ?_) (fun c3 => ?_)
  · refine VL_norm km116 k116_5 (VL_at (al := [(1, vI v1)]) (st := []) km116 k116_5 ?_)
    exact (h.1 c3)
  · refine VL_norm km116 k116_2 (VL_at (al := [(0, vR 10 (0)), (1, vI v1), (2, vI v2)]) (st := []) km116 k116_2 ?_)
    refine V_mono (h.2 c3) (fun u1 m1 h1 => ?_) (fun _ _ h => h)
    refine And.intro (fun c2 => ?_) (fun c2 => ?_)
    · refine VL_norm km116 k116_4 (VL_at (al := [(0, vR 10 (0)), (1, vI v1), (2, vI v2)]) (st := []) km116 k116_4 ?_)
      exact VL_norm km116 k116_1 (h1.1 c2)
    · refine VL_norm km116 k116_3 (VL_at (al := [(0, vR 10 (0)), (1, vI v1), (2, vI v2)]) (st := []) km116 k116_3 ?_)
      refine VL_norm km116 k116_4 (VL_at (al := [(0, vR 10 (0)), (1, vI (v1 ||| ((n32 1) <<< (v2 &&& 31)))), (2, vI v2)]) (st := []) km116 k116_4 ?_)
      exact VL_norm km116 k116_1 (h1.2 c2)
/-- BannerParade.nextPlan, label 0 -/
theorem w117_0 {D : Nat}  {m : XM} {Q : Int32 → XM → Prop} {E : Nat → XM → Prop}
    (h : (((m 0 7) = (n32 0) → E 0 m) ∧ (¬ (m 0 7) = (n32 0) → VI D 31 [vR 4 (29 + 16)] m (fun x1 m1 => Q x1 m1) E))) :
    VI (D + 1) 117 [vR 10 (0)] m Q E := by
  refine V_of (VL_at (al := [(0, vR 10 (0))]) (st := []) km117 k117_0 ?_)
  refine V_of ?_
  refine VL_norm km155 k155_0 (VL_at (al := [(0, vR 10 (0))]) (st := []) km155 k155_0 ?_)
  refine And.intro (fun c2 => ?_) (fun c2 => ?_)
  · refine VL_norm km155 k155_1 (VL_at (al := []) (st := []) km155 k155_1 ?_)
    exact (h.1 c2)
  · refine VL_norm km155 k155_2 (VL_at (al := []) (st := []) km155 k155_2 ?_)
    refine V_mono (h.2 c2) (fun u1 m1 h1 => ?_) (fun _ _ h => h)
    exact h1
/-- BannerParade.lyingFrom, label 0 -/
theorem w118_0 {D : Nat} {v1 : Int32} {v2 : Int32} {m : XM} {Q : Int32 → XM → Prop} {E : Nat → XM → Prop}
    (h : (((m 0 7) = (n32 0) → E 0 m) ∧ (¬ (m 0 7) = (n32 0) → VI D 7 [vR 1 (29 + 12), vI v1, vI v2] m (fun x1 m1 => Q x1 m1) E))) :
    VI (D + 1) 118 [vR 10 (0), vI v1, vI v2] m Q E := by
  refine V_of (VL_at (al := [(0, vR 10 (0)), (1, vI v1), (2, vI v2)]) (st := []) km118 k118_0 ?_)
  refine V_of ?_
  refine VL_norm km155 k155_0 (VL_at (al := [(0, vR 10 (0))]) (st := []) km155 k155_0 ?_)
  refine And.intro (fun c2 => ?_) (fun c2 => ?_)
  · refine VL_norm km155 k155_1 (VL_at (al := []) (st := []) km155 k155_1 ?_)
    exact (h.1 c2)
  · refine VL_norm km155 k155_2 (VL_at (al := []) (st := []) km155 k155_2 ?_)
    refine V_mono (h.2 c2) (fun u1 m1 h1 => ?_) (fun _ _ h => h)
    exact h1
/-- BannerParade.bestStand, label 0 -/
theorem w119_0 {D : Nat}  {m : XM} {Q : Int32 → XM → Prop} {E : Nat → XM → Prop}
    (h : (((m 0 7) = (n32 0) → E 0 m) ∧ (¬ (m 0 7) = (n32 0) → VLI (D + 4) 119 1 [(0, vR 10 (0)), (1, vI (-(n32 1))), (2, vF (UInt32.ofNat 3212836864)), (3, vI (n32 0))] [] m Q E))) :
    VI (D + 4) 119 [vR 10 (0)] m Q E := by
  refine V_of (VL_at (al := [(0, vR 10 (0))]) (st := []) km119 k119_0 ?_)
  refine V_of ?_
  refine VL_norm km155 k155_0 (VL_at (al := [(0, vR 10 (0))]) (st := []) km155 k155_0 ?_)
  refine And.intro (fun c1 => ?_) (fun c1 => ?_)
  · refine VL_norm km155 k155_1 (VL_at (al := []) (st := []) km155 k155_1 ?_)
    exact (h.1 c1)
  · refine VL_norm km155 k155_2 (VL_at (al := []) (st := []) km155 k155_2 ?_)
    exact VL_norm km119 k119_1 (h.2 c1)
/-- BannerParade.bestStand, label 1 -/
theorem w119_1 {D : Nat} {v1 : Int32} {v2 : UInt32} {v3 : Int32} {m : XM} {Q : Int32 → XM → Prop} {E : Nat → XM → Prop}
    (h : (((m 69 0) ≤ v3 → Q v1 m) ∧ (¬ (m 69 0) ≤ v3 → VA (D + 3) 161 [vR 10 (0), vI v3] m (fun x1 m1 => VF (D + 3) 40 [vR 5 (x1), vR 6 (69), vI v3] m1 (fun x2 m2 => (((Op.cmpValue (FP.fcmp x2 v2) .l) ≤ (n32 0) → VLI (D + 4) 119 1 [(0, vR 10 (0)), (1, vI v1), (2, vF v2), (3, vI (v3 + (n32 1)))] [] m2 Q E) ∧ (¬ (Op.cmpValue (FP.fcmp x2 v2) .l) ≤ (n32 0) → VLI (D + 4) 119 1 [(0, vR 10 (0)), (1, vI v3), (2, vF x2), (3, vI (v3 + (n32 1)))] [] m2 Q E))) E) E))) :
    VLI (D + 4) 119 1 [(0, vR 10 (0)), (1, vI v1), (2, vF v2), (3, vI v3)] [] m Q E := by
  refine VL_at (al := [(0, vR 10 (0)), (1, vI v1), (2, vF v2), (3, vI v3)]) (st := []) km119 k119_1 ?_
  refine And.intro (fun c4 => ?_) (fun c4 => ?_)
  · refine VL_norm km119 k119_5 (VL_at (al := [(1, vI v1)]) (st := []) km119 k119_5 ?_)
    exact (h.1 c4)
  · refine VL_norm km119 k119_2 (VL_at (al := [(0, vR 10 (0)), (1, vI v1), (2, vF v2), (3, vI v3)]) (st := []) km119 k119_2 ?_)
    refine V_mono (h.2 c4) (fun u1 m1 h1 => ?_) (fun _ _ h => h)
    refine V_mono h1 (fun u2 m2 h2 => ?_) (fun _ _ h => h)
    refine And.intro (fun c3 => ?_) (fun c3 => ?_)
    · refine VL_norm km119 k119_4 (VL_at (al := [(0, vR 10 (0)), (1, vI v1), (2, vF v2), (3, vI v3)]) (st := []) km119 k119_4 ?_)
      exact VL_norm km119 k119_1 (h2.1 c3)
    · refine VL_norm km119 k119_3 (VL_at (al := [(0, vR 10 (0)), (3, vI v3), (4, vF (xtf u2))]) (st := []) km119 k119_3 ?_)
      refine VL_norm km119 k119_4 (VL_at (al := [(0, vR 10 (0)), (1, vI v3), (2, vF (xtf u2)), (3, vI v3)]) (st := []) km119 k119_4 ?_)
      exact VL_norm km119 k119_1 (h2.2 c3)
/-- BannerParade.readStands, label 0 -/
theorem w120_0 {D : Nat}  {m : XM} {Q : Int32 → XM → Prop} {E : Nat → XM → Prop}
    (h : (((m 0 7) = (n32 0) → E 0 m) ∧ (¬ (m 0 7) = (n32 0) → VI D 166 [vR 10 (0)] m (fun x1 m1 => Q x1 m1) E))) :
    VI (D + 1) 120 [vR 10 (0)] m Q E := by
  refine V_of (VL_at (al := [(0, vR 10 (0))]) (st := []) km120 k120_0 ?_)
  refine V_of ?_
  refine VL_norm km155 k155_0 (VL_at (al := [(0, vR 10 (0))]) (st := []) km155 k155_0 ?_)
  refine And.intro (fun c2 => ?_) (fun c2 => ?_)
  · refine VL_norm km155 k155_1 (VL_at (al := []) (st := []) km155 k155_1 ?_)
    exact (h.1 c2)
  · refine VL_norm km155 k155_2 (VL_at (al := []) (st := []) km155 k155_2 ?_)
    refine V_mono (h.2 c2) (fun u1 m1 h1 => ?_) (fun _ _ h => h)
    exact h1
/-- BannerParade.weakest, label 0 -/
theorem w121_0 {D : Nat}  {m : XM} {Q : Int32 → XM → Prop} {E : Nat → XM → Prop}
    (h : (((m 0 7) = (n32 0) → E 0 m) ∧ (¬ (m 0 7) = (n32 0) → VLI (D + 1) 121 1 [(0, vR 10 (0)), (1, vI (-(n32 1))), (2, vI (n32 0))] [] m Q E))) :
    VI (D + 1) 121 [vR 10 (0)] m Q E := by
  refine V_of (VL_at (al := [(0, vR 10 (0))]) (st := []) km121 k121_0 ?_)
  refine V_of ?_
  refine VL_norm km155 k155_0 (VL_at (al := [(0, vR 10 (0))]) (st := []) km155 k155_0 ?_)
  refine And.intro (fun c1 => ?_) (fun c1 => ?_)
  · refine VL_norm km155 k155_1 (VL_at (al := []) (st := []) km155 k155_1 ?_)
    exact (h.1 c1)
  · refine VL_norm km155 k155_2 (VL_at (al := []) (st := []) km155 k155_2 ?_)
    exact VL_norm km121 k121_1 (h.2 c1)
/-- BannerParade.weakest, label 1 -/
theorem w121_1 {D : Nat} {v1 : Int32} {v2 : Int32} {m : XM} {Q : Int32 → XM → Prop} {E : Nat → XM → Prop}
    (h : (((m (29 + 3) 0) ≤ v2 → Q v1 m) ∧ (¬ (m (29 + 3) 0) ≤ v2 → ((v1 = (-(n32 1)) → VLI (D + 1) 121 1 [(0, vR 10 (0)), (1, vI v2), (2, vI (v2 + (n32 1)))] [] m Q E) ∧ (¬ v1 = (-(n32 1)) → (xin v2 12 = true ∧ (xin v1 12 = true ∧ (((m (29 + 3 + 4) (ix v1)) ≤ (m (29 + 3 + 4) (ix v2)) → VLI (D + 1) 121 1 [(0, vR 10 (0)), (1, vI v1), (2, vI (v2 + (n32 1)))] [] m Q E) ∧ (¬ (m (29 + 3 + 4) (ix v1)) ≤ (m (29 + 3 + 4) (ix v2)) → VLI (D + 1) 121 1 [(0, vR 10 (0)), (1, vI v2), (2, vI (v2 + (n32 1)))] [] m Q E))))))))) :
    VLI (D + 1) 121 1 [(0, vR 10 (0)), (1, vI v1), (2, vI v2)] [] m Q E := by
  refine VL_at (al := [(0, vR 10 (0)), (1, vI v1), (2, vI v2)]) (st := []) km121 k121_1 ?_
  refine And.intro (fun c3 => ?_) (fun c3 => ?_)
  · refine VL_norm km121 k121_6 (VL_at (al := [(1, vI v1)]) (st := []) km121 k121_6 ?_)
    exact (h.1 c3)
  · refine VL_norm km121 k121_2 (VL_at (al := [(0, vR 10 (0)), (1, vI v1), (2, vI v2)]) (st := []) km121 k121_2 ?_)
    refine And.intro (fun c2 => ?_) (fun c2 => ?_)
    · refine VL_norm km121 k121_4 (VL_at (al := [(0, vR 10 (0)), (2, vI v2)]) (st := []) km121 k121_4 ?_)
      refine VL_norm km121 k121_5 (VL_at (al := [(0, vR 10 (0)), (1, vI v2), (2, vI v2)]) (st := []) km121 k121_5 ?_)
      exact VL_norm km121 k121_1 ((h.2 c3).1 c2)
    · refine VL_norm km121 k121_3 (VL_at (al := [(0, vR 10 (0)), (1, vI v1), (2, vI v2)]) (st := []) km121 k121_3 ?_)
      refine And.intro ((h.2 c3).2 c2).1 ?_
      refine And.intro ((h.2 c3).2 c2).2.1 ?_
      refine And.intro (fun c1 => ?_) (fun c1 => ?_)
      · refine VL_norm km121 k121_5 (VL_at (al := [(0, vR 10 (0)), (1, vI v1), (2, vI v2)]) (st := []) km121 k121_5 ?_)
        exact VL_norm km121 k121_1 (((h.2 c3).2 c2).2.2.1 c1)
      · refine VL_norm km121 k121_4 (VL_at (al := [(0, vR 10 (0)), (2, vI v2)]) (st := []) km121 k121_4 ?_)
        refine VL_norm km121 k121_5 (VL_at (al := [(0, vR 10 (0)), (1, vI v2), (2, vI v2)]) (st := []) km121 k121_5 ?_)
        exact VL_norm km121 k121_1 (((h.2 c3).2 c2).2.2.2 c1)
/-- BannerParade.widest, label 0 -/
theorem w122_0 {D : Nat}  {m : XM} {Q : Int32 → XM → Prop} {E : Nat → XM → Prop}
    (h : (((m 0 7) = (n32 0) → E 0 m) ∧ (¬ (m 0 7) = (n32 0) → VLI (D + 1) 122 1 [(0, vR 10 (0)), (1, vI (-(n32 1))), (2, vI (n32 1))] [] m Q E))) :
    VI (D + 1) 122 [vR 10 (0)] m Q E := by
  refine V_of (VL_at (al := [(0, vR 10 (0))]) (st := []) km122 k122_0 ?_)
  refine V_of ?_
  refine VL_norm km155 k155_0 (VL_at (al := [(0, vR 10 (0))]) (st := []) km155 k155_0 ?_)
  refine And.intro (fun c1 => ?_) (fun c1 => ?_)
  · refine VL_norm km155 k155_1 (VL_at (al := []) (st := []) km155 k155_1 ?_)
    exact (h.1 c1)
  · refine VL_norm km155 k155_2 (VL_at (al := []) (st := []) km155 k155_2 ?_)
    exact VL_norm km122 k122_1 (h.2 c1)
/-- BannerParade.widest, label 1 -/
theorem w122_1 {D : Nat} {v1 : Int32} {v2 : Int32} {m : XM} {Q : Int32 → XM → Prop} {E : Nat → XM → Prop}
    (h : (((m (29 + 3) 0) ≤ v2 → Q v1 m) ∧ (¬ (m (29 + 3) 0) ≤ v2 → ((v1 = (-(n32 1)) → VLI (D + 1) 122 1 [(0, vR 10 (0)), (1, vI v2), (2, vI (v2 + (n32 1)))] [] m Q E) ∧ (¬ v1 = (-(n32 1)) → ((v2 ≤ (n32 0) → ((v1 ≤ (n32 0) → VLI (D + 1) 122 1 [(0, vR 10 (0)), (1, vI v1), (2, vI (v2 + (n32 1)))] [] m Q E) ∧ (¬ v1 ≤ (n32 0) → (xin (v1 - (n32 1)) 12 = true ∧ (xin v1 12 = true ∧ (((-(n32 1)) ≤ ((m (29 + 3 + 6) (ix (v1 - (n32 1)))) - (m (29 + 3 + 6) (ix v1))) → VLI (D + 1) 122 1 [(0, vR 10 (0)), (1, vI v1), (2, vI (v2 + (n32 1)))] [] m Q E) ∧ (¬ (-(n32 1)) ≤ ((m (29 + 3 + 6) (ix (v1 - (n32 1)))) - (m (29 + 3 + 6) (ix v1))) → VLI (D + 1) 122 1 [(0, vR 10 (0)), (1, vI v2), (2, vI (v2 + (n32 1)))] [] m Q E))))))) ∧ (¬ v2 ≤ (n32 0) → (xin (v2 - (n32 1)) 12 = true ∧ (xin v2 12 = true ∧ ((v1 ≤ (n32 0) → ((((m (29 + 3 + 6) (ix (v2 - (n32 1)))) - (m (29 + 3 + 6) (ix v2))) ≤ (-(n32 1)) → VLI (D + 1) 122 1 [(0, vR 10 (0)), (1, vI v1), (2, vI (v2 + (n32 1)))] [] m Q E) ∧ (¬ ((m (29 + 3 + 6) (ix (v2 - (n32 1)))) - (m (29 + 3 + 6) (ix v2))) ≤ (-(n32 1)) → VLI (D + 1) 122 1 [(0, vR 10 (0)), (1, vI v2), (2, vI (v2 + (n32 1)))] [] m Q E))) ∧ (¬ v1 ≤ (n32 0) → (xin (v1 - (n32 1)) 12 = true ∧ (xin v1 12 = true ∧ ((((m (29 + 3 + 6) (ix (v2 - (n32 1)))) - (m (29 + 3 + 6) (ix v2))) ≤ ((m (29 + 3 + 6) (ix (v1 - (n32 1)))) - (m (29 + 3 + 6) (ix v1))) → VLI (D + 1) 122 1 [(0, vR 10 (0)), (1, vI v1), (2, vI (v2 + (n32 1)))] [] m Q E) ∧ (¬ ((m (29 + 3 + 6) (ix (v2 - (n32 1)))) - (m (29 + 3 + 6) (ix v2))) ≤ ((m (29 + 3 + 6) (ix (v1 - (n32 1)))) - (m (29 + 3 + 6) (ix v1))) → VLI (D + 1) 122 1 [(0, vR 10 (0)), (1, vI v2), (2, vI (v2 + (n32 1)))] [] m Q E))))))))))))))) :
    VLI (D + 1) 122 1 [(0, vR 10 (0)), (1, vI v1), (2, vI v2)] [] m Q E := by
  refine VL_at (al := [(0, vR 10 (0)), (1, vI v1), (2, vI v2)]) (st := []) km122 k122_1 ?_
  refine And.intro (fun c8 => ?_) (fun c8 => ?_)
  · refine VL_norm km122 k122_6 (VL_at (al := [(1, vI v1)]) (st := []) km122 k122_6 ?_)
    exact (h.1 c8)
  · refine VL_norm km122 k122_2 (VL_at (al := [(0, vR 10 (0)), (1, vI v1), (2, vI v2)]) (st := []) km122 k122_2 ?_)
    refine And.intro (fun c7 => ?_) (fun c7 => ?_)
    · refine VL_norm km122 k122_4 (VL_at (al := [(0, vR 10 (0)), (2, vI v2)]) (st := []) km122 k122_4 ?_)
      refine VL_norm km122 k122_5 (VL_at (al := [(0, vR 10 (0)), (1, vI v2), (2, vI v2)]) (st := []) km122 k122_5 ?_)
      exact VL_norm km122 k122_1 ((h.2 c8).1 c7)
    · refine VL_norm km122 k122_3 (VL_at (al := [(0, vR 10 (0)), (1, vI v1), (2, vI v2)]) (st := []) km122 k122_3 ?_)
      refine V_of ?_
      refine VL_norm km51 k51_0 (VL_at (al := [(0, vR 7 (29 + 3)), (1, vI v2)]) (st := []) km51 k51_0 ?_)
      refine And.intro (fun c6 => ?_) (fun c6 => ?_)
      · refine VL_norm km51 k51_2 (VL_at (al := []) (st := []) km51 k51_2 ?_)
        refine VL_norm km51 k51_3 (VL_at (al := []) (st := [vI (-(n32 1))]) km51 k51_3 ?_)
        refine V_of ?_
        refine VL_norm km51 k51_0 (VL_at (al := [(0, vR 7 (29 + 3)), (1, vI v1)]) (st := []) km51 k51_0 ?_)
        refine And.intro (fun c2 => ?_) (fun c2 => ?_)
        · refine VL_norm km51 k51_2 (VL_at (al := []) (st := []) km51 k51_2 ?_)
          refine VL_norm km51 k51_3 (VL_at (al := []) (st := [vI (-(n32 1))]) km51 k51_3 ?_)
          refine And.intro (fun _ => ?_) (fun c => absurd (by decide) c)
          refine VL_norm km122 k122_5 (VL_at (al := [(0, vR 10 (0)), (1, vI v1), (2, vI v2)]) (st := []) km122 k122_5 ?_)
          exact VL_norm km122 k122_1 ((((h.2 c8).2 c7).1 c6).1 c2)
        · refine VL_norm km51 k51_1 (VL_at (al := [(0, vR 7 (29 + 3)), (1, vI v1)]) (st := []) km51 k51_1 ?_)
          refine And.intro ((((h.2 c8).2 c7).1 c6).2 c2).1 ?_
          refine And.intro ((((h.2 c8).2 c7).1 c6).2 c2).2.1 ?_
          refine VL_norm km51 k51_3 (VL_at (al := []) (st := [vI ((m (29 + 3 + 6) (ix (v1 - (n32 1)))) - (m (29 + 3 + 6) (ix v1)))]) km51 k51_3 ?_)
          refine And.intro (fun c1 => ?_) (fun c1 => ?_)
          · refine VL_norm km122 k122_5 (VL_at (al := [(0, vR 10 (0)), (1, vI v1), (2, vI v2)]) (st := []) km122 k122_5 ?_)
            exact VL_norm km122 k122_1 (((((h.2 c8).2 c7).1 c6).2 c2).2.2.1 c1)
          · refine VL_norm km122 k122_4 (VL_at (al := [(0, vR 10 (0)), (2, vI v2)]) (st := []) km122 k122_4 ?_)
            refine VL_norm km122 k122_5 (VL_at (al := [(0, vR 10 (0)), (1, vI v2), (2, vI v2)]) (st := []) km122 k122_5 ?_)
            exact VL_norm km122 k122_1 (((((h.2 c8).2 c7).1 c6).2 c2).2.2.2 c1)
      · refine VL_norm km51 k51_1 (VL_at (al := [(0, vR 7 (29 + 3)), (1, vI v2)]) (st := []) km51 k51_1 ?_)
        refine And.intro (((h.2 c8).2 c7).2 c6).1 ?_
        refine And.intro (((h.2 c8).2 c7).2 c6).2.1 ?_
        refine VL_norm km51 k51_3 (VL_at (al := []) (st := [vI ((m (29 + 3 + 6) (ix (v2 - (n32 1)))) - (m (29 + 3 + 6) (ix v2)))]) km51 k51_3 ?_)
        refine V_of ?_
        refine VL_norm km51 k51_0 (VL_at (al := [(0, vR 7 (29 + 3)), (1, vI v1)]) (st := []) km51 k51_0 ?_)
        refine And.intro (fun c5 => ?_) (fun c5 => ?_)
        · refine VL_norm km51 k51_2 (VL_at (al := []) (st := []) km51 k51_2 ?_)
          refine VL_norm km51 k51_3 (VL_at (al := []) (st := [vI (-(n32 1))]) km51 k51_3 ?_)
          refine And.intro (fun c3 => ?_) (fun c3 => ?_)
          · refine VL_norm km122 k122_5 (VL_at (al := [(0, vR 10 (0)), (1, vI v1), (2, vI v2)]) (st := []) km122 k122_5 ?_)
            exact VL_norm km122 k122_1 (((((h.2 c8).2 c7).2 c6).2.2.1 c5).1 c3)
          · refine VL_norm km122 k122_4 (VL_at (al := [(0, vR 10 (0)), (2, vI v2)]) (st := []) km122 k122_4 ?_)
            refine VL_norm km122 k122_5 (VL_at (al := [(0, vR 10 (0)), (1, vI v2), (2, vI v2)]) (st := []) km122 k122_5 ?_)
            exact VL_norm km122 k122_1 (((((h.2 c8).2 c7).2 c6).2.2.1 c5).2 c3)
        · refine VL_norm km51 k51_1 (VL_at (al := [(0, vR 7 (29 + 3)), (1, vI v1)]) (st := []) km51 k51_1 ?_)
          refine And.intro ((((h.2 c8).2 c7).2 c6).2.2.2 c5).1 ?_
          refine And.intro ((((h.2 c8).2 c7).2 c6).2.2.2 c5).2.1 ?_
          refine VL_norm km51 k51_3 (VL_at (al := []) (st := [vI ((m (29 + 3 + 6) (ix (v1 - (n32 1)))) - (m (29 + 3 + 6) (ix v1)))]) km51 k51_3 ?_)
          refine And.intro (fun c4 => ?_) (fun c4 => ?_)
          · refine VL_norm km122 k122_5 (VL_at (al := [(0, vR 10 (0)), (1, vI v1), (2, vI v2)]) (st := []) km122 k122_5 ?_)
            exact VL_norm km122 k122_1 (((((h.2 c8).2 c7).2 c6).2.2.2 c5).2.2.1 c4)
          · refine VL_norm km122 k122_4 (VL_at (al := [(0, vR 10 (0)), (2, vI v2)]) (st := []) km122 k122_4 ?_)
            refine VL_norm km122 k122_5 (VL_at (al := [(0, vR 10 (0)), (1, vI v2), (2, vI v2)]) (st := []) km122 k122_5 ?_)
            exact VL_norm km122 k122_1 (((((h.2 c8).2 c7).2 c6).2.2.2 c5).2.2.2 c4)
/-- BannerParade.meanStrength, label 0 -/
theorem w124_0 {D : Nat}  {m : XM} {Q : UInt64 → XM → Prop} {E : Nat → XM → Prop}
    (h : (((m 0 7) = (n32 0) → E 0 m) ∧ (¬ (m 0 7) = (n32 0) → VD (D + 1) 61 [vR 7 (29 + 3)] m (fun x1 m1 => Q x1 m1) E))) :
    VD (D + 2) 124 [vR 10 (0)] m Q E := by
  refine V_of (VL_at (al := [(0, vR 10 (0))]) (st := []) km124 k124_0 ?_)
  refine V_of ?_
  refine VL_norm km155 k155_0 (VL_at (al := [(0, vR 10 (0))]) (st := []) km155 k155_0 ?_)
  refine And.intro (fun c2 => ?_) (fun c2 => ?_)
  · refine VL_norm km155 k155_1 (VL_at (al := []) (st := []) km155 k155_1 ?_)
    exact (h.1 c2)
  · refine VL_norm km155 k155_2 (VL_at (al := []) (st := []) km155 k155_2 ?_)
    refine V_mono (h.2 c2) (fun u1 m1 h1 => ?_) (fun _ _ h => h)
    exact h1
/-- BannerParade.strengthBits, label 0 -/
theorem w125_0 {D : Nat}  {m : XM} {Q : Int64 → XM → Prop} {E : Nat → XM → Prop}
    (h : (((m 0 7) = (n32 0) → E 0 m) ∧ (¬ (m 0 7) = (n32 0) → VD (D + 1) 61 [vR 7 (29 + 3)] m (fun x1 m1 => VJ (D + 1) 171 [vD x1] m1 (fun x2 m2 => Q x2 m2) E) E))) :
    VJ (D + 2) 125 [vR 10 (0)] m Q E := by
  refine V_of (VL_at (al := [(0, vR 10 (0))]) (st := []) km125 k125_0 ?_)
  refine V_of ?_
  refine VL_norm km155 k155_0 (VL_at (al := [(0, vR 10 (0))]) (st := []) km155 k155_0 ?_)
  refine And.intro (fun c3 => ?_) (fun c3 => ?_)
  · refine VL_norm km155 k155_1 (VL_at (al := []) (st := []) km155 k155_1 ?_)
    exact (h.1 c3)
  · refine VL_norm km155 k155_2 (VL_at (al := []) (st := []) km155 k155_2 ?_)
    refine V_mono (h.2 c3) (fun u1 m1 h1 => ?_) (fun _ _ h => h)
    refine V_mono h1 (fun u2 m2 h2 => ?_) (fun _ _ h => h)
    exact h2
/-- BannerParade.readsIn, label 0 -/
theorem w126_0 {D : Nat} {v1 : Int32} {m : XM} {Q : Int32 → XM → Prop} {E : Nat → XM → Prop}
    (h : (((m 0 7) = (n32 0) → E 0 m) ∧ (¬ (m 0 7) = (n32 0) → ((v1 < (n32 0) → E 2 m) ∧ (¬ v1 < (n32 0) → ((v1 < (m 69 0) → VU (D + 4) 68 [vR 8 (49), vR 8 (29)] m (fun m1 => VLI (D + 5) 126 1 [(0, vR 10 (0)), (1, vI v1), (2, vI (n32 0))] [] m1 Q E) E) ∧ (¬ v1 < (m 69 0) → E 2 m))))))) :
    VI (D + 5) 126 [vR 10 (0), vI v1] m Q E := by
  refine V_of (VL_at (al := [(0, vR 10 (0)), (1, vI v1)]) (st := []) km126 k126_0 ?_)
  refine V_of ?_
  refine VL_norm km155 k155_0 (VL_at (al := [(0, vR 10 (0))]) (st := []) km155 k155_0 ?_)
  refine And.intro (fun c4 => ?_) (fun c4 => ?_)
  · refine VL_norm km155 k155_1 (VL_at (al := []) (st := []) km155 k155_1 ?_)
    exact (h.1 c4)
  · refine VL_norm km155 k155_2 (VL_at (al := []) (st := []) km155 k155_2 ?_)
    refine V_of ?_
    refine VL_norm km157 k157_0 (VL_at (al := [(0, vR 10 (0)), (1, vI v1)]) (st := []) km157 k157_0 ?_)
    refine V_of ?_
    refine VL_norm km158 k158_0 (VL_at (al := [(0, vI v1), (1, vI (m 69 0))]) (st := []) km158 k158_0 ?_)
    refine And.intro (fun c3 => ?_) (fun c3 => ?_)
    · refine VL_norm km158 k158_2 (VL_at (al := []) (st := []) km158 k158_2 ?_)
      exact ((h.2 c4).1 c3)
    · refine VL_norm km158 k158_1 (VL_at (al := [(0, vI v1), (1, vI (m 69 0))]) (st := []) km158 k158_1 ?_)
      refine And.intro (fun c2 => ?_) (fun c2 => ?_)
      · refine VL_norm km158 k158_3 (VL_at (al := []) (st := []) km158 k158_3 ?_)
        refine V_mono (((h.2 c4).2 c3).1 c2) (fun u1 m1 h1 => ?_) (fun _ _ h => h)
        exact VL_norm km126 k126_1 h1
      · refine VL_norm km158 k158_2 (VL_at (al := []) (st := []) km158 k158_2 ?_)
        exact (((h.2 c4).2 c3).2 c2)
/-- BannerParade.readsIn, label 1 -/
theorem w126_1 {D : Nat} {v1 : Int32} {v2 : Int32} {m : XM} {Q : Int32 → XM → Prop} {E : Nat → XM → Prop}
    (h : (((n32 300) ≤ v2 → VA (D + 4) 162 [vR 10 (0), vI v1] m (fun x1 m1 => VI (D + 4) 39 [vR 5 (x1), vR 6 (69), vI v1] m1 (fun x2 m2 => ((x2 = (n32 0) → Q (-(n32 1)) m2) ∧ (¬ x2 = (n32 0) → Q (n32 300) m2))) E) E) ∧ (¬ (n32 300) ≤ v2 → VA (D + 4) 162 [vR 10 (0), vI v1] m (fun x4 m4 => VI (D + 4) 39 [vR 5 (x4), vR 6 (69), vI v1] m4 (fun x5 m5 => ((x5 = (n32 0) → VU (D + 4) 70 [vR 8 (49)] m5 (fun m6 => VLI (D + 5) 126 1 [(0, vR 10 (0)), (1, vI v1), (2, vI (v2 + (n32 1)))] [] m6 Q E) E) ∧ (¬ x5 = (n32 0) → Q v2 m5))) E) E))) :
    VLI (D + 5) 126 1 [(0, vR 10 (0)), (1, vI v1), (2, vI v2)] [] m Q E := by
  refine VL_at (al := [(0, vR 10 (0)), (1, vI v1), (2, vI v2)]) (st := []) km126 k126_1 ?_
  refine And.intro (fun c8 => ?_) (fun c8 => ?_)
  · refine VL_norm km126 k126_5 (VL_at (al := [(0, vR 10 (0)), (1, vI v1)]) (st := []) km126 k126_5 ?_)
    refine V_mono (h.1 c8) (fun u1 m1 h1 => ?_) (fun _ _ h => h)
    refine V_mono h1 (fun u2 m2 h2 => ?_) (fun _ _ h => h)
    refine And.intro (fun c3 => ?_) (fun c3 => ?_)
    · refine VL_norm km126 k126_7 (VL_at (al := []) (st := []) km126 k126_7 ?_)
      refine VL_norm km126 k126_8 (VL_at (al := []) (st := [vI (-(n32 1))]) km126 k126_8 ?_)
      exact (h2.1 c3)
    · refine VL_norm km126 k126_6 (VL_at (al := []) (st := []) km126 k126_6 ?_)
      refine VL_norm km126 k126_8 (VL_at (al := []) (st := [vI (n32 300)]) km126 k126_8 ?_)
      exact (h2.2 c3)
  · refine VL_norm km126 k126_2 (VL_at (al := [(0, vR 10 (0)), (1, vI v1), (2, vI v2)]) (st := []) km126 k126_2 ?_)
    refine V_mono (h.2 c8) (fun u4 m4 h4 => ?_) (fun _ _ h => h)
    refine V_mono h4 (fun u5 m5 h5 => ?_) (fun _ _ h => h)
    refine And.intro (fun c7 => ?_) (fun c7 => ?_)
    · refine VL_norm km126 k126_4 (VL_at (al := [(0, vR 10 (0)), (1, vI v1), (2, vI v2)]) (st := []) km126 k126_4 ?_)
      refine V_mono (h5.1 c7) (fun u6 m6 h6 => ?_) (fun _ _ h => h)
      exact VL_norm km126 k126_1 h6
    · refine VL_norm km126 k126_3 (VL_at (al := [(2, vI v2)]) (st := []) km126 k126_3 ?_)
      exact (h5.2 c7)
/-- BannerParade.passedIn, label 0 -/
theorem w127_0 {D : Nat} {v1 : Int32} {m : XM} {Q : Int32 → XM → Prop} {E : Nat → XM → Prop}
    (h : (((m 0 7) = (n32 0) → E 0 m) ∧ (¬ (m 0 7) = (n32 0) → ((v1 < (n32 0) → E 2 m) ∧ (¬ v1 < (n32 0) → ((v1 < (m 69 0) → (xin v1 6 = true ∧ VU (D + 4) 68 [vR 8 (49), vR 8 (29)] m (fun m1 => VLI (D + 5) 127 1 [(0, vR 10 (0)), (2, vI ((m (69 + 2) (ix v1)) + (m (29 + 1) (ix (n32 1))))), (3, vI (n32 0))] [] m1 Q E) E)) ∧ (¬ v1 < (m 69 0) → E 2 m))))))) :
    VI (D + 5) 127 [vR 10 (0), vI v1] m Q E := by
  refine V_of (VL_at (al := [(0, vR 10 (0)), (1, vI v1)]) (st := []) km127 k127_0 ?_)
  refine V_of ?_
  refine VL_norm km155 k155_0 (VL_at (al := [(0, vR 10 (0))]) (st := []) km155 k155_0 ?_)
  refine And.intro (fun c4 => ?_) (fun c4 => ?_)
  · refine VL_norm km155 k155_1 (VL_at (al := []) (st := []) km155 k155_1 ?_)
    exact (h.1 c4)
  · refine VL_norm km155 k155_2 (VL_at (al := []) (st := []) km155 k155_2 ?_)
    refine V_of ?_
    refine VL_norm km157 k157_0 (VL_at (al := [(0, vR 10 (0)), (1, vI v1)]) (st := []) km157 k157_0 ?_)
    refine V_of ?_
    refine VL_norm km158 k158_0 (VL_at (al := [(0, vI v1), (1, vI (m 69 0))]) (st := []) km158 k158_0 ?_)
    refine And.intro (fun c3 => ?_) (fun c3 => ?_)
    · refine VL_norm km158 k158_2 (VL_at (al := []) (st := []) km158 k158_2 ?_)
      exact ((h.2 c4).1 c3)
    · refine VL_norm km158 k158_1 (VL_at (al := [(0, vI v1), (1, vI (m 69 0))]) (st := []) km158 k158_1 ?_)
      refine And.intro (fun c2 => ?_) (fun c2 => ?_)
      · refine VL_norm km158 k158_3 (VL_at (al := []) (st := []) km158 k158_3 ?_)
        refine And.intro (((h.2 c4).2 c3).1 c2).1 ?_
        refine And.intro (xin_k rfl) ?_
        refine V_mono (((h.2 c4).2 c3).1 c2).2 (fun u1 m1 h1 => ?_) (fun _ _ h => h)
        exact VL_norm km127 k127_1 h1
      · refine VL_norm km158 k158_2 (VL_at (al := []) (st := []) km158 k158_2 ?_)
        exact (((h.2 c4).2 c3).2 c2)
/-- BannerParade.passedIn, label 1 -/
theorem w127_1 {D : Nat} {v2 : Int32} {v3 : Int32} {m : XM} {Q : Int32 → XM → Prop} {E : Nat → XM → Prop}
    (h : (((n32 300) ≤ v3 → VI (D + 4) 64 [vR 7 (49 + 3), vI v2] m (fun x1 m1 => ((x1 = (m1 (49 + 3) 0) → Q (n32 300) m1) ∧ (¬ x1 = (m1 (49 + 3) 0) → Q (-(n32 1)) m1))) E) ∧ (¬ (n32 300) ≤ v3 → VI (D + 4) 64 [vR 7 (49 + 3), vI v2] m (fun x3 m3 => ((x3 = (m3 (49 + 3) 0) → Q v3 m3) ∧ (¬ x3 = (m3 (49 + 3) 0) → VU (D + 4) 70 [vR 8 (49)] m3 (fun m4 => VLI (D + 5) 127 1 [(0, vR 10 (0)), (2, vI v2), (3, vI (v3 + (n32 1)))] [] m4 Q E) E))) E))) :
    VLI (D + 5) 127 1 [(0, vR 10 (0)), (2, vI v2), (3, vI v3)] [] m Q E := by
  refine VL_at (al := [(0, vR 10 (0)), (2, vI v2), (3, vI v3)]) (st := []) km127 k127_1 ?_
  refine And.intro (fun c6 => ?_) (fun c6 => ?_)
  · refine VL_norm km127 k127_5 (VL_at (al := [(0, vR 10 (0)), (2, vI v2)]) (st := []) km127 k127_5 ?_)
    refine V_mono (h.1 c6) (fun u1 m1 h1 => ?_) (fun _ _ h => h)
    refine And.intro (fun c2 => ?_) (fun c2 => ?_)
    · refine VL_norm km127 k127_6 (VL_at (al := []) (st := []) km127 k127_6 ?_)
      refine VL_norm km127 k127_8 (VL_at (al := []) (st := [vI (n32 300)]) km127 k127_8 ?_)
      exact (h1.1 c2)
    · refine VL_norm km127 k127_7 (VL_at (al := []) (st := []) km127 k127_7 ?_)
      refine VL_norm km127 k127_8 (VL_at (al := []) (st := [vI (-(n32 1))]) km127 k127_8 ?_)
      exact (h1.2 c2)
  · refine VL_norm km127 k127_2 (VL_at (al := [(0, vR 10 (0)), (2, vI v2), (3, vI v3)]) (st := []) km127 k127_2 ?_)
    refine V_mono (h.2 c6) (fun u3 m3 h3 => ?_) (fun _ _ h => h)
    refine And.intro (fun c5 => ?_) (fun c5 => ?_)
    · refine VL_norm km127 k127_3 (VL_at (al := [(3, vI v3)]) (st := []) km127 k127_3 ?_)
      exact (h3.1 c5)
    · refine VL_norm km127 k127_4 (VL_at (al := [(0, vR 10 (0)), (2, vI v2), (3, vI v3)]) (st := []) km127 k127_4 ?_)
      refine V_mono (h3.2 c5) (fun u4 m4 h4 => ?_) (fun _ _ h => h)
      exact VL_norm km127 k127_1 h4
/-- BannerParade.placeIn, label 0 -/
theorem w128_0 {D : Nat} {v1 : Int32} {v2 : Int32} {m : XM} {Q : Int32 → XM → Prop} {E : Nat → XM → Prop}
    (h : (((m 0 7) = (n32 0) → E 0 m) ∧ (¬ (m 0 7) = (n32 0) → ((v1 < (n32 0) → E 2 m) ∧ (¬ v1 < (n32 0) → ((v1 < (m (29 + 3) 0) → ((v2 < (n32 0) → E 1 m) ∧ (¬ v2 < (n32 0) → (((n32 300) < v2 → E 1 m) ∧ (¬ (n32 300) < v2 → VU (D + 5) 163 [vR 10 (0), vI v2] m (fun m1 => (xin v1 12 = true ∧ Q (m1 (49 + 3 + 6) (ix v1)) m1)) E))))) ∧ (¬ v1 < (m (29 + 3) 0) → E 2 m))))))) :
    VI (D + 6) 128 [vR 10 (0), vI v1, vI v2] m Q E := by
  refine V_of (VL_at (al := [(0, vR 10 (0)), (1, vI v1), (2, vI v2)]) (st := []) km128 k128_0 ?_)
  refine V_of ?_
  refine VL_norm km155 k155_0 (VL_at (al := [(0, vR 10 (0))]) (st := []) km155 k155_0 ?_)
  refine And.intro (fun c6 => ?_) (fun c6 => ?_)
  · refine VL_norm km155 k155_1 (VL_at (al := []) (st := []) km155 k155_1 ?_)
    exact (h.1 c6)
  · refine VL_norm km155 k155_2 (VL_at (al := []) (st := []) km155 k155_2 ?_)
    refine V_of ?_
    refine VL_norm km156 k156_0 (VL_at (al := [(0, vR 10 (0)), (1, vI v1)]) (st := []) km156 k156_0 ?_)
    refine V_of ?_
    refine VL_norm km158 k158_0 (VL_at (al := [(0, vI v1), (1, vI (m (29 + 3) 0))]) (st := []) km158 k158_0 ?_)
    refine And.intro (fun c5 => ?_) (fun c5 => ?_)
    · refine VL_norm km158 k158_2 (VL_at (al := []) (st := []) km158 k158_2 ?_)
      exact ((h.2 c6).1 c5)
    · refine VL_norm km158 k158_1 (VL_at (al := [(0, vI v1), (1, vI (m (29 + 3) 0))]) (st := []) km158 k158_1 ?_)
      refine And.intro (fun c4 => ?_) (fun c4 => ?_)
      · refine VL_norm km158 k158_3 (VL_at (al := []) (st := []) km158 k158_3 ?_)
        refine V_of ?_
        refine VL_norm km159 k159_0 (VL_at (al := [(0, vI v2), (1, vI (n32 0)), (2, vI (n32 300))]) (st := []) km159 k159_0 ?_)
        refine And.intro (fun c3 => ?_) (fun c3 => ?_)
        · refine VL_norm km159 k159_3 (VL_at (al := []) (st := []) km159 k159_3 ?_)
          refine VL_norm km159 k159_4 (VL_at (al := []) (st := [vI (n32 0)]) km159 k159_4 ?_)
          refine V_of ?_
          refine VL_norm km160 k160_0 (VL_at (al := [(0, vI (n32 0))]) (st := []) km160 k160_0 ?_)
          refine And.intro (fun _ => ?_) (fun c => absurd (by decide) c)
          refine VL_norm km160 k160_1 (VL_at (al := []) (st := []) km160 k160_1 ?_)
          exact ((((h.2 c6).2 c5).1 c4).1 c3)
        · refine VL_norm km159 k159_1 (VL_at (al := [(0, vI v2), (2, vI (n32 300))]) (st := []) km159 k159_1 ?_)
          refine And.intro (fun c2 => ?_) (fun c2 => ?_)
          · refine VL_norm km159 k159_3 (VL_at (al := []) (st := []) km159 k159_3 ?_)
            refine VL_norm km159 k159_4 (VL_at (al := []) (st := [vI (n32 0)]) km159 k159_4 ?_)
            refine V_of ?_
            refine VL_norm km160 k160_0 (VL_at (al := [(0, vI (n32 0))]) (st := []) km160 k160_0 ?_)
            refine And.intro (fun _ => ?_) (fun c => absurd (by decide) c)
            refine VL_norm km160 k160_1 (VL_at (al := []) (st := []) km160 k160_1 ?_)
            exact (((((h.2 c6).2 c5).1 c4).2 c3).1 c2)
          · refine VL_norm km159 k159_2 (VL_at (al := []) (st := []) km159 k159_2 ?_)
            refine VL_norm km159 k159_4 (VL_at (al := []) (st := [vI (n32 1)]) km159 k159_4 ?_)
            refine V_of ?_
            refine VL_norm km160 k160_0 (VL_at (al := [(0, vI (n32 1))]) (st := []) km160 k160_0 ?_)
            refine And.intro (fun c => absurd c (by decide)) (fun _ => ?_)
            refine VL_norm km160 k160_2 (VL_at (al := []) (st := []) km160 k160_2 ?_)
            refine V_mono (((((h.2 c6).2 c5).1 c4).2 c3).2 c2) (fun u1 m1 h1 => ?_) (fun _ _ h => h)
            refine And.intro h1.1 ?_
            exact h1.2
      · refine VL_norm km158 k158_2 (VL_at (al := []) (st := []) km158 k158_2 ?_)
        exact (((h.2 c6).2 c5).2 c4)
/-- BannerParade.strengthIn, label 0 -/
theorem w129_0 {D : Nat} {v1 : Int32} {v2 : Int32} {m : XM} {Q : Int32 → XM → Prop} {E : Nat → XM → Prop}
    (h : (((m 0 7) = (n32 0) → E 0 m) ∧ (¬ (m 0 7) = (n32 0) → ((v1 < (n32 0) → E 2 m) ∧ (¬ v1 < (n32 0) → ((v1 < (m (29 + 3) 0) → ((v2 < (n32 0) → E 1 m) ∧ (¬ v2 < (n32 0) → (((n32 300) < v2 → E 1 m) ∧ (¬ (n32 300) < v2 → VU (D + 5) 163 [vR 10 (0), vI v2] m (fun m1 => (xin v1 12 = true ∧ Q (m1 (49 + 3 + 4) (ix v1)) m1)) E))))) ∧ (¬ v1 < (m (29 + 3) 0) → E 2 m))))))) :
    VI (D + 6) 129 [vR 10 (0), vI v1, vI v2] m Q E := by
  refine V_of (VL_at (al := [(0, vR 10 (0)), (1, vI v1), (2, vI v2)]) (st := []) km129 k129_0 ?_)
  refine V_of ?_
  refine VL_norm km155 k155_0 (VL_at (al := [(0, vR 10 (0))]) (st := []) km155 k155_0 ?_)
  refine And.intro (fun c6 => ?_) (fun c6 => ?_)
  · refine VL_norm km155 k155_1 (VL_at (al := []) (st := []) km155 k155_1 ?_)
    exact (h.1 c6)
  · refine VL_norm km155 k155_2 (VL_at (al := []) (st := []) km155 k155_2 ?_)
    refine V_of ?_
    refine VL_norm km156 k156_0 (VL_at (al := [(0, vR 10 (0)), (1, vI v1)]) (st := []) km156 k156_0 ?_)
    refine V_of ?_
    refine VL_norm km158 k158_0 (VL_at (al := [(0, vI v1), (1, vI (m (29 + 3) 0))]) (st := []) km158 k158_0 ?_)
    refine And.intro (fun c5 => ?_) (fun c5 => ?_)
    · refine VL_norm km158 k158_2 (VL_at (al := []) (st := []) km158 k158_2 ?_)
      exact ((h.2 c6).1 c5)
    · refine VL_norm km158 k158_1 (VL_at (al := [(0, vI v1), (1, vI (m (29 + 3) 0))]) (st := []) km158 k158_1 ?_)
      refine And.intro (fun c4 => ?_) (fun c4 => ?_)
      · refine VL_norm km158 k158_3 (VL_at (al := []) (st := []) km158 k158_3 ?_)
        refine V_of ?_
        refine VL_norm km159 k159_0 (VL_at (al := [(0, vI v2), (1, vI (n32 0)), (2, vI (n32 300))]) (st := []) km159 k159_0 ?_)
        refine And.intro (fun c3 => ?_) (fun c3 => ?_)
        · refine VL_norm km159 k159_3 (VL_at (al := []) (st := []) km159 k159_3 ?_)
          refine VL_norm km159 k159_4 (VL_at (al := []) (st := [vI (n32 0)]) km159 k159_4 ?_)
          refine V_of ?_
          refine VL_norm km160 k160_0 (VL_at (al := [(0, vI (n32 0))]) (st := []) km160 k160_0 ?_)
          refine And.intro (fun _ => ?_) (fun c => absurd (by decide) c)
          refine VL_norm km160 k160_1 (VL_at (al := []) (st := []) km160 k160_1 ?_)
          exact ((((h.2 c6).2 c5).1 c4).1 c3)
        · refine VL_norm km159 k159_1 (VL_at (al := [(0, vI v2), (2, vI (n32 300))]) (st := []) km159 k159_1 ?_)
          refine And.intro (fun c2 => ?_) (fun c2 => ?_)
          · refine VL_norm km159 k159_3 (VL_at (al := []) (st := []) km159 k159_3 ?_)
            refine VL_norm km159 k159_4 (VL_at (al := []) (st := [vI (n32 0)]) km159 k159_4 ?_)
            refine V_of ?_
            refine VL_norm km160 k160_0 (VL_at (al := [(0, vI (n32 0))]) (st := []) km160 k160_0 ?_)
            refine And.intro (fun _ => ?_) (fun c => absurd (by decide) c)
            refine VL_norm km160 k160_1 (VL_at (al := []) (st := []) km160 k160_1 ?_)
            exact (((((h.2 c6).2 c5).1 c4).2 c3).1 c2)
          · refine VL_norm km159 k159_2 (VL_at (al := []) (st := []) km159 k159_2 ?_)
            refine VL_norm km159 k159_4 (VL_at (al := []) (st := [vI (n32 1)]) km159 k159_4 ?_)
            refine V_of ?_
            refine VL_norm km160 k160_0 (VL_at (al := [(0, vI (n32 1))]) (st := []) km160 k160_0 ?_)
            refine And.intro (fun c => absurd c (by decide)) (fun _ => ?_)
            refine VL_norm km160 k160_2 (VL_at (al := []) (st := []) km160 k160_2 ?_)
            refine V_mono (((((h.2 c6).2 c5).1 c4).2 c3).2 c2) (fun u1 m1 h1 => ?_) (fun _ _ h => h)
            refine And.intro h1.1 ?_
            exact h1.2
      · refine VL_norm km158 k158_2 (VL_at (al := []) (st := []) km158 k158_2 ?_)
        exact (((h.2 c6).2 c5).2 c4)
/-- BannerParade.bannerIn, label 0 -/
theorem w130_0 {D : Nat} {v1 : Int32} {v2 : Int32} {m : XM} {Q : Int32 → XM → Prop} {E : Nat → XM → Prop}
    (h : (((m 0 7) = (n32 0) → E 0 m) ∧ (¬ (m 0 7) = (n32 0) → ((v1 < (n32 0) → E 2 m) ∧ (¬ v1 < (n32 0) → ((v1 < (m (29 + 3) 0) → ((v2 < (n32 0) → E 1 m) ∧ (¬ v2 < (n32 0) → (((n32 300) < v2 → E 1 m) ∧ (¬ (n32 300) < v2 → VU (D + 5) 163 [vR 10 (0), vI v2] m (fun m1 => (xin v1 12 = true ∧ Q (m1 (49 + 3 + 5) (ix v1)) m1)) E))))) ∧ (¬ v1 < (m (29 + 3) 0) → E 2 m))))))) :
    VI (D + 6) 130 [vR 10 (0), vI v1, vI v2] m Q E := by
  refine V_of (VL_at (al := [(0, vR 10 (0)), (1, vI v1), (2, vI v2)]) (st := []) km130 k130_0 ?_)
  refine V_of ?_
  refine VL_norm km155 k155_0 (VL_at (al := [(0, vR 10 (0))]) (st := []) km155 k155_0 ?_)
  refine And.intro (fun c6 => ?_) (fun c6 => ?_)
  · refine VL_norm km155 k155_1 (VL_at (al := []) (st := []) km155 k155_1 ?_)
    exact (h.1 c6)
  · refine VL_norm km155 k155_2 (VL_at (al := []) (st := []) km155 k155_2 ?_)
    refine V_of ?_
    refine VL_norm km156 k156_0 (VL_at (al := [(0, vR 10 (0)), (1, vI v1)]) (st := []) km156 k156_0 ?_)
    refine V_of ?_
    refine VL_norm km158 k158_0 (VL_at (al := [(0, vI v1), (1, vI (m (29 + 3) 0))]) (st := []) km158 k158_0 ?_)
    refine And.intro (fun c5 => ?_) (fun c5 => ?_)
    · refine VL_norm km158 k158_2 (VL_at (al := []) (st := []) km158 k158_2 ?_)
      exact ((h.2 c6).1 c5)
    · refine VL_norm km158 k158_1 (VL_at (al := [(0, vI v1), (1, vI (m (29 + 3) 0))]) (st := []) km158 k158_1 ?_)
      refine And.intro (fun c4 => ?_) (fun c4 => ?_)
      · refine VL_norm km158 k158_3 (VL_at (al := []) (st := []) km158 k158_3 ?_)
        refine V_of ?_
        refine VL_norm km159 k159_0 (VL_at (al := [(0, vI v2), (1, vI (n32 0)), (2, vI (n32 300))]) (st := []) km159 k159_0 ?_)
        refine And.intro (fun c3 => ?_) (fun c3 => ?_)
        · refine VL_norm km159 k159_3 (VL_at (al := []) (st := []) km159 k159_3 ?_)
          refine VL_norm km159 k159_4 (VL_at (al := []) (st := [vI (n32 0)]) km159 k159_4 ?_)
          refine V_of ?_
          refine VL_norm km160 k160_0 (VL_at (al := [(0, vI (n32 0))]) (st := []) km160 k160_0 ?_)
          refine And.intro (fun _ => ?_) (fun c => absurd (by decide) c)
          refine VL_norm km160 k160_1 (VL_at (al := []) (st := []) km160 k160_1 ?_)
          exact ((((h.2 c6).2 c5).1 c4).1 c3)
        · refine VL_norm km159 k159_1 (VL_at (al := [(0, vI v2), (2, vI (n32 300))]) (st := []) km159 k159_1 ?_)
          refine And.intro (fun c2 => ?_) (fun c2 => ?_)
          · refine VL_norm km159 k159_3 (VL_at (al := []) (st := []) km159 k159_3 ?_)
            refine VL_norm km159 k159_4 (VL_at (al := []) (st := [vI (n32 0)]) km159 k159_4 ?_)
            refine V_of ?_
            refine VL_norm km160 k160_0 (VL_at (al := [(0, vI (n32 0))]) (st := []) km160 k160_0 ?_)
            refine And.intro (fun _ => ?_) (fun c => absurd (by decide) c)
            refine VL_norm km160 k160_1 (VL_at (al := []) (st := []) km160 k160_1 ?_)
            exact (((((h.2 c6).2 c5).1 c4).2 c3).1 c2)
          · refine VL_norm km159 k159_2 (VL_at (al := []) (st := []) km159 k159_2 ?_)
            refine VL_norm km159 k159_4 (VL_at (al := []) (st := [vI (n32 1)]) km159 k159_4 ?_)
            refine V_of ?_
            refine VL_norm km160 k160_0 (VL_at (al := [(0, vI (n32 1))]) (st := []) km160 k160_0 ?_)
            refine And.intro (fun c => absurd c (by decide)) (fun _ => ?_)
            refine VL_norm km160 k160_2 (VL_at (al := []) (st := []) km160 k160_2 ?_)
            refine V_mono (((((h.2 c6).2 c5).1 c4).2 c3).2 c2) (fun u1 m1 h1 => ?_) (fun _ _ h => h)
            refine And.intro h1.1 ?_
            exact h1.2
      · refine VL_norm km158 k158_2 (VL_at (al := []) (st := []) km158 k158_2 ?_)
        exact (((h.2 c6).2 c5).2 c4)
/-- BannerParade.dropsIn, label 0 -/
theorem w131_0 {D : Nat} {v1 : Int32} {m : XM} {Q : Int32 → XM → Prop} {E : Nat → XM → Prop}
    (h : (((m 0 7) = (n32 0) → E 0 m) ∧ (¬ (m 0 7) = (n32 0) → ((v1 < (n32 0) → E 1 m) ∧ (¬ v1 < (n32 0) → (((n32 300) < v1 → E 1 m) ∧ (¬ (n32 300) < v1 → VU (D + 5) 163 [vR 10 (0), vI v1] m (fun m1 => Q ((m1 49 2) - (m1 29 2)) m1) E))))))) :
    VI (D + 6) 131 [vR 10 (0), vI v1] m Q E := by
  refine V_of (VL_at (al := [(0, vR 10 (0)), (1, vI v1)]) (st := []) km131 k131_0 ?_)
  refine V_of ?_
  refine VL_norm km155 k155_0 (VL_at (al := [(0, vR 10 (0))]) (st := []) km155 k155_0 ?_)
  refine And.intro (fun c4 => ?_) (fun c4 => ?_)
  · refine VL_norm km155 k155_1 (VL_at (al := []) (st := []) km155 k155_1 ?_)
    exact (h.1 c4)
  · refine VL_norm km155 k155_2 (VL_at (al := []) (st := []) km155 k155_2 ?_)
    refine V_of ?_
    refine VL_norm km159 k159_0 (VL_at (al := [(0, vI v1), (1, vI (n32 0)), (2, vI (n32 300))]) (st := []) km159 k159_0 ?_)
    refine And.intro (fun c3 => ?_) (fun c3 => ?_)
    · refine VL_norm km159 k159_3 (VL_at (al := []) (st := []) km159 k159_3 ?_)
      refine VL_norm km159 k159_4 (VL_at (al := []) (st := [vI (n32 0)]) km159 k159_4 ?_)
      refine V_of ?_
      refine VL_norm km160 k160_0 (VL_at (al := [(0, vI (n32 0))]) (st := []) km160 k160_0 ?_)
      refine And.intro (fun _ => ?_) (fun c => absurd (by decide) c)
      refine VL_norm km160 k160_1 (VL_at (al := []) (st := []) km160 k160_1 ?_)
      exact ((h.2 c4).1 c3)
    · refine VL_norm km159 k159_1 (VL_at (al := [(0, vI v1), (2, vI (n32 300))]) (st := []) km159 k159_1 ?_)
      refine And.intro (fun c2 => ?_) (fun c2 => ?_)
      · refine VL_norm km159 k159_3 (VL_at (al := []) (st := []) km159 k159_3 ?_)
        refine VL_norm km159 k159_4 (VL_at (al := []) (st := [vI (n32 0)]) km159 k159_4 ?_)
        refine V_of ?_
        refine VL_norm km160 k160_0 (VL_at (al := [(0, vI (n32 0))]) (st := []) km160 k160_0 ?_)
        refine And.intro (fun _ => ?_) (fun c => absurd (by decide) c)
        refine VL_norm km160 k160_1 (VL_at (al := []) (st := []) km160 k160_1 ?_)
        exact (((h.2 c4).2 c3).1 c2)
      · refine VL_norm km159 k159_2 (VL_at (al := []) (st := []) km159 k159_2 ?_)
        refine VL_norm km159 k159_4 (VL_at (al := []) (st := [vI (n32 1)]) km159 k159_4 ?_)
        refine V_of ?_
        refine VL_norm km160 k160_0 (VL_at (al := [(0, vI (n32 1))]) (st := []) km160 k160_0 ?_)
        refine And.intro (fun c => absurd c (by decide)) (fun _ => ?_)
        refine VL_norm km160 k160_2 (VL_at (al := []) (st := []) km160 k160_2 ?_)
        refine V_mono (((h.2 c4).2 c3).2 c2) (fun u1 m1 h1 => ?_) (fun _ _ h => h)
        exact h1
/-- BannerParade.firstDrop, label 0 -/
theorem w132_0 {D : Nat}  {m : XM} {Q : Int32 → XM → Prop} {E : Nat → XM → Prop}
    (h : (((m 0 7) = (n32 0) → E 0 m) ∧ (¬ (m 0 7) = (n32 0) → VU (D + 5) 68 [vR 8 (49), vR 8 (29)] m (fun m1 => VI (D + 5) 164 [vR 10 (0), vI (n32 300)] m1 (fun x2 m2 => Q x2 m2) E) E))) :
    VI (D + 6) 132 [vR 10 (0)] m Q E := by
  refine V_of (VL_at (al := [(0, vR 10 (0))]) (st := []) km132 k132_0 ?_)
  refine V_of ?_
  refine VL_norm km155 k155_0 (VL_at (al := [(0, vR 10 (0))]) (st := []) km155 k155_0 ?_)
  refine And.intro (fun c3 => ?_) (fun c3 => ?_)
  · refine VL_norm km155 k155_1 (VL_at (al := []) (st := []) km155 k155_1 ?_)
    exact (h.1 c3)
  · refine VL_norm km155 k155_2 (VL_at (al := []) (st := []) km155 k155_2 ?_)
    refine V_mono (h.2 c3) (fun u1 m1 h1 => ?_) (fun _ _ h => h)
    refine V_mono h1 (fun u2 m2 h2 => ?_) (fun _ _ h => h)
    exact h2
/-- BannerParade.shareIn, label 0 -/
theorem w133_0 {D : Nat} {v1 : Int32} {v2 : Int32} {m : XM} {Q : UInt32 → XM → Prop} {E : Nat → XM → Prop}
    (h : (((m 0 7) = (n32 0) → E 0 m) ∧ (¬ (m 0 7) = (n32 0) → ((v1 < (n32 0) → E 2 m) ∧ (¬ v1 < (n32 0) → ((v1 < (m 69 0) → ((v2 < (n32 0) → E 1 m) ∧ (¬ v2 < (n32 0) → (((n32 300) < v2 → E 1 m) ∧ (¬ (n32 300) < v2 → VU (D + 5) 163 [vR 10 (0), vI v2] m (fun m1 => VA (D + 5) 162 [vR 10 (0), vI v1] m1 (fun x2 m2 => VF (D + 5) 40 [vR 5 (x2), vR 6 (69), vI v1] m2 (fun x3 m3 => Q x3 m3) E) E) E))))) ∧ (¬ v1 < (m 69 0) → E 2 m))))))) :
    VF (D + 6) 133 [vR 10 (0), vI v1, vI v2] m Q E := by
  refine V_of (VL_at (al := [(0, vR 10 (0)), (1, vI v1), (2, vI v2)]) (st := []) km133 k133_0 ?_)
  refine V_of ?_
  refine VL_norm km155 k155_0 (VL_at (al := [(0, vR 10 (0))]) (st := []) km155 k155_0 ?_)
  refine And.intro (fun c8 => ?_) (fun c8 => ?_)
  · refine VL_norm km155 k155_1 (VL_at (al := []) (st := []) km155 k155_1 ?_)
    exact (h.1 c8)
  · refine VL_norm km155 k155_2 (VL_at (al := []) (st := []) km155 k155_2 ?_)
    refine V_of ?_
    refine VL_norm km157 k157_0 (VL_at (al := [(0, vR 10 (0)), (1, vI v1)]) (st := []) km157 k157_0 ?_)
    refine V_of ?_
    refine VL_norm km158 k158_0 (VL_at (al := [(0, vI v1), (1, vI (m 69 0))]) (st := []) km158 k158_0 ?_)
    refine And.intro (fun c7 => ?_) (fun c7 => ?_)
    · refine VL_norm km158 k158_2 (VL_at (al := []) (st := []) km158 k158_2 ?_)
      exact ((h.2 c8).1 c7)
    · refine VL_norm km158 k158_1 (VL_at (al := [(0, vI v1), (1, vI (m 69 0))]) (st := []) km158 k158_1 ?_)
      refine And.intro (fun c6 => ?_) (fun c6 => ?_)
      · refine VL_norm km158 k158_3 (VL_at (al := []) (st := []) km158 k158_3 ?_)
        refine V_of ?_
        refine VL_norm km159 k159_0 (VL_at (al := [(0, vI v2), (1, vI (n32 0)), (2, vI (n32 300))]) (st := []) km159 k159_0 ?_)
        refine And.intro (fun c5 => ?_) (fun c5 => ?_)
        · refine VL_norm km159 k159_3 (VL_at (al := []) (st := []) km159 k159_3 ?_)
          refine VL_norm km159 k159_4 (VL_at (al := []) (st := [vI (n32 0)]) km159 k159_4 ?_)
          refine V_of ?_
          refine VL_norm km160 k160_0 (VL_at (al := [(0, vI (n32 0))]) (st := []) km160 k160_0 ?_)
          refine And.intro (fun _ => ?_) (fun c => absurd (by decide) c)
          refine VL_norm km160 k160_1 (VL_at (al := []) (st := []) km160 k160_1 ?_)
          exact ((((h.2 c8).2 c7).1 c6).1 c5)
        · refine VL_norm km159 k159_1 (VL_at (al := [(0, vI v2), (2, vI (n32 300))]) (st := []) km159 k159_1 ?_)
          refine And.intro (fun c4 => ?_) (fun c4 => ?_)
          · refine VL_norm km159 k159_3 (VL_at (al := []) (st := []) km159 k159_3 ?_)
            refine VL_norm km159 k159_4 (VL_at (al := []) (st := [vI (n32 0)]) km159 k159_4 ?_)
            refine V_of ?_
            refine VL_norm km160 k160_0 (VL_at (al := [(0, vI (n32 0))]) (st := []) km160 k160_0 ?_)
            refine And.intro (fun _ => ?_) (fun c => absurd (by decide) c)
            refine VL_norm km160 k160_1 (VL_at (al := []) (st := []) km160 k160_1 ?_)
            exact (((((h.2 c8).2 c7).1 c6).2 c5).1 c4)
          · refine VL_norm km159 k159_2 (VL_at (al := []) (st := []) km159 k159_2 ?_)
            refine VL_norm km159 k159_4 (VL_at (al := []) (st := [vI (n32 1)]) km159 k159_4 ?_)
            refine V_of ?_
            refine VL_norm km160 k160_0 (VL_at (al := [(0, vI (n32 1))]) (st := []) km160 k160_0 ?_)
            refine And.intro (fun c => absurd c (by decide)) (fun _ => ?_)
            refine VL_norm km160 k160_2 (VL_at (al := []) (st := []) km160 k160_2 ?_)
            refine V_mono (((((h.2 c8).2 c7).1 c6).2 c5).2 c4) (fun u1 m1 h1 => ?_) (fun _ _ h => h)
            refine V_mono h1 (fun u2 m2 h2 => ?_) (fun _ _ h => h)
            refine V_mono h2 (fun u3 m3 h3 => ?_) (fun _ _ h => h)
            exact h3
      · refine VL_norm km158 k158_2 (VL_at (al := []) (st := []) km158 k158_2 ?_)
        exact (((h.2 c8).2 c7).2 c6)
/-- BannerParade.bestShare, label 0 -/
theorem w134_0 {D : Nat} {v1 : Int32} {v2 : Int32} {m : XM} {Q : UInt32 → XM → Prop} {E : Nat → XM → Prop}
    (h : (((m 0 7) = (n32 0) → E 0 m) ∧ (¬ (m 0 7) = (n32 0) → ((v1 < (n32 0) → E 2 m) ∧ (¬ v1 < (n32 0) → ((v1 < (m 69 0) → ((v2 < (n32 0) → E 1 m) ∧ (¬ v2 < (n32 0) → (((n32 300) < v2 → E 1 m) ∧ (¬ (n32 300) < v2 → VU (D + 4) 68 [vR 8 (49), vR 8 (29)] m (fun m1 => VA (D + 4) 162 [vR 10 (0), vI v1] m1 (fun x2 m2 => VF (D + 4) 40 [vR 5 (x2), vR 6 (69), vI v1] m2 (fun x3 m3 => VLF (D + 5) 134 1 [(0, vR 10 (0)), (1, vI v1), (2, vI v2), (3, vF x3), (4, vI (n32 0))] [] m3 Q E) E) E) E))))) ∧ (¬ v1 < (m 69 0) → E 2 m))))))) :
    VF (D + 5) 134 [vR 10 (0), vI v1, vI v2] m Q E := by
  refine V_of (VL_at (al := [(0, vR 10 (0)), (1, vI v1), (2, vI v2)]) (st := []) km134 k134_0 ?_)
  refine V_of ?_
  refine VL_norm km155 k155_0 (VL_at (al := [(0, vR 10 (0))]) (st := []) km155 k155_0 ?_)
  refine And.intro (fun c8 => ?_) (fun c8 => ?_)
  · refine VL_norm km155 k155_1 (VL_at (al := []) (st := []) km155 k155_1 ?_)
    exact (h.1 c8)
  · refine VL_norm km155 k155_2 (VL_at (al := []) (st := []) km155 k155_2 ?_)
    refine V_of ?_
    refine VL_norm km157 k157_0 (VL_at (al := [(0, vR 10 (0)), (1, vI v1)]) (st := []) km157 k157_0 ?_)
    refine V_of ?_
    refine VL_norm km158 k158_0 (VL_at (al := [(0, vI v1), (1, vI (m 69 0))]) (st := []) km158 k158_0 ?_)
    refine And.intro (fun c7 => ?_) (fun c7 => ?_)
    · refine VL_norm km158 k158_2 (VL_at (al := []) (st := []) km158 k158_2 ?_)
      exact ((h.2 c8).1 c7)
    · refine VL_norm km158 k158_1 (VL_at (al := [(0, vI v1), (1, vI (m 69 0))]) (st := []) km158 k158_1 ?_)
      refine And.intro (fun c6 => ?_) (fun c6 => ?_)
      · refine VL_norm km158 k158_3 (VL_at (al := []) (st := []) km158 k158_3 ?_)
        refine V_of ?_
        refine VL_norm km159 k159_0 (VL_at (al := [(0, vI v2), (1, vI (n32 0)), (2, vI (n32 300))]) (st := []) km159 k159_0 ?_)
        refine And.intro (fun c5 => ?_) (fun c5 => ?_)
        · refine VL_norm km159 k159_3 (VL_at (al := []) (st := []) km159 k159_3 ?_)
          refine VL_norm km159 k159_4 (VL_at (al := []) (st := [vI (n32 0)]) km159 k159_4 ?_)
          refine V_of ?_
          refine VL_norm km160 k160_0 (VL_at (al := [(0, vI (n32 0))]) (st := []) km160 k160_0 ?_)
          refine And.intro (fun _ => ?_) (fun c => absurd (by decide) c)
          refine VL_norm km160 k160_1 (VL_at (al := []) (st := []) km160 k160_1 ?_)
          exact ((((h.2 c8).2 c7).1 c6).1 c5)
        · refine VL_norm km159 k159_1 (VL_at (al := [(0, vI v2), (2, vI (n32 300))]) (st := []) km159 k159_1 ?_)
          refine And.intro (fun c4 => ?_) (fun c4 => ?_)
          · refine VL_norm km159 k159_3 (VL_at (al := []) (st := []) km159 k159_3 ?_)
            refine VL_norm km159 k159_4 (VL_at (al := []) (st := [vI (n32 0)]) km159 k159_4 ?_)
            refine V_of ?_
            refine VL_norm km160 k160_0 (VL_at (al := [(0, vI (n32 0))]) (st := []) km160 k160_0 ?_)
            refine And.intro (fun _ => ?_) (fun c => absurd (by decide) c)
            refine VL_norm km160 k160_1 (VL_at (al := []) (st := []) km160 k160_1 ?_)
            exact (((((h.2 c8).2 c7).1 c6).2 c5).1 c4)
          · refine VL_norm km159 k159_2 (VL_at (al := []) (st := []) km159 k159_2 ?_)
            refine VL_norm km159 k159_4 (VL_at (al := []) (st := [vI (n32 1)]) km159 k159_4 ?_)
            refine V_of ?_
            refine VL_norm km160 k160_0 (VL_at (al := [(0, vI (n32 1))]) (st := []) km160 k160_0 ?_)
            refine And.intro (fun c => absurd c (by decide)) (fun _ => ?_)
            refine VL_norm km160 k160_2 (VL_at (al := []) (st := []) km160 k160_2 ?_)
            refine V_mono (((((h.2 c8).2 c7).1 c6).2 c5).2 c4) (fun u1 m1 h1 => ?_) (fun _ _ h => h)
            refine V_mono h1 (fun u2 m2 h2 => ?_) (fun _ _ h => h)
            refine V_mono h2 (fun u3 m3 h3 => ?_) (fun _ _ h => h)
            exact VL_norm km134 k134_1 h3
      · refine VL_norm km158 k158_2 (VL_at (al := []) (st := []) km158 k158_2 ?_)
        exact (((h.2 c8).2 c7).2 c6)
/-- BannerParade.bestShare, label 1 -/
theorem w134_1 {D : Nat} {v1 : Int32} {v2 : Int32} {v3 : UInt32} {v4 : Int32} {m : XM} {Q : UInt32 → XM → Prop} {E : Nat → XM → Prop}
    (h : ((v2 ≤ v4 → Q v3 m) ∧ (¬ v2 ≤ v4 → VU (D + 4) 70 [vR 8 (49)] m (fun m1 => VA (D + 4) 162 [vR 10 (0), vI v1] m1 (fun x2 m2 => VF (D + 4) 40 [vR 5 (x2), vR 6 (69), vI v1] m2 (fun x3 m3 => (((Op.cmpValue (FP.fcmp x3 v3) .l) ≤ (n32 0) → VLF (D + 5) 134 1 [(0, vR 10 (0)), (1, vI v1), (2, vI v2), (3, vF v3), (4, vI (v4 + (n32 1)))] [] m3 Q E) ∧ (¬ (Op.cmpValue (FP.fcmp x3 v3) .l) ≤ (n32 0) → VLF (D + 5) 134 1 [(0, vR 10 (0)), (1, vI v1), (2, vI v2), (3, vF x3), (4, vI (v4 + (n32 1)))] [] m3 Q E))) E) E) E))) :
    VLF (D + 5) 134 1 [(0, vR 10 (0)), (1, vI v1), (2, vI v2), (3, vF v3), (4, vI v4)] [] m Q E := by
  refine VL_at (al := [(0, vR 10 (0)), (1, vI v1), (2, vI v2), (3, vF v3), (4, vI v4)]) (st := []) km134 k134_1 ?_
  refine And.intro (fun c5 => ?_) (fun c5 => ?_)
  · refine VL_norm km134 k134_6 (VL_at (al := [(3, vF v3)]) (st := []) km134 k134_6 ?_)
    exact (h.1 c5)
  · refine VL_norm km134 k134_2 (VL_at (al := [(0, vR 10 (0)), (1, vI v1), (2, vI v2), (3, vF v3), (4, vI v4)]) (st := []) km134 k134_2 ?_)
    refine V_mono (h.2 c5) (fun u1 m1 h1 => ?_) (fun _ _ h => h)
    refine V_mono h1 (fun u2 m2 h2 => ?_) (fun _ _ h => h)
    refine V_mono h2 (fun u3 m3 h3 => ?_) (fun _ _ h => h)
    refine And.intro (fun c4 => ?_) (fun c4 => ?_)
    · refine VL_norm km134 k134_4 (VL_at (al := [(0, vR 10 (0)), (1, vI v1), (2, vI v2), (3, vF v3), (4, vI v4)]) (st := []) km134 k134_4 ?_)
      refine VL_norm km134 k134_5 (VL_at (al := [(0, vR 10 (0)), (1, vI v1), (2, vI v2), (4, vI v4)]) (st := [vF v3]) km134 k134_5 ?_)
      exact VL_norm km134 k134_1 (h3.1 c4)
    · refine VL_norm km134 k134_3 (VL_at (al := [(0, vR 10 (0)), (1, vI v1), (2, vI v2), (4, vI v4), (5, vF (xtf u3))]) (st := []) km134 k134_3 ?_)
      refine VL_norm km134 k134_5 (VL_at (al := [(0, vR 10 (0)), (1, vI v1), (2, vI v2), (4, vI v4)]) (st := [vF (xtf u3)]) km134 k134_5 ?_)
      exact VL_norm km134 k134_1 (h3.2 c4)
/-- BannerParade.bestSwap, label 0 -/
theorem w135_0 {D : Nat} {v1 : Int32} {m : XM} {Q : Int32 → XM → Prop} {E : Nat → XM → Prop}
    (h : (((m 0 7) = (n32 0) → E 0 m) ∧ (¬ (m 0 7) = (n32 0) → ((v1 < (n32 0) → E 2 m) ∧ (¬ v1 < (n32 0) → ((v1 < (m 69 0) → VA (D + 3) 161 [vR 10 (0), vI v1] m (fun x1 m1 => VF (D + 3) 40 [vR 5 (x1), vR 6 (69), vI v1] m1 (fun x2 m2 => VU (D + 3) 68 [vR 8 (49), vR 8 (29)] m2 (fun m3 => VLI (D + 4) 135 1 [(0, vR 10 (0)), (1, vI v1), (2, vI (-(n32 1))), (3, vF x2), (4, vI (n32 0))] [] m3 Q E) E) E) E) ∧ (¬ v1 < (m 69 0) → E 2 m))))))) :
    VI (D + 4) 135 [vR 10 (0), vI v1] m Q E := by
  refine V_of (VL_at (al := [(0, vR 10 (0)), (1, vI v1)]) (st := []) km135 k135_0 ?_)
  refine V_of ?_
  refine VL_norm km155 k155_0 (VL_at (al := [(0, vR 10 (0))]) (st := []) km155 k155_0 ?_)
  refine And.intro (fun c6 => ?_) (fun c6 => ?_)
  · refine VL_norm km155 k155_1 (VL_at (al := []) (st := []) km155 k155_1 ?_)
    exact (h.1 c6)
  · refine VL_norm km155 k155_2 (VL_at (al := []) (st := []) km155 k155_2 ?_)
    refine V_of ?_
    refine VL_norm km157 k157_0 (VL_at (al := [(0, vR 10 (0)), (1, vI v1)]) (st := []) km157 k157_0 ?_)
    refine V_of ?_
    refine VL_norm km158 k158_0 (VL_at (al := [(0, vI v1), (1, vI (m 69 0))]) (st := []) km158 k158_0 ?_)
    refine And.intro (fun c5 => ?_) (fun c5 => ?_)
    · refine VL_norm km158 k158_2 (VL_at (al := []) (st := []) km158 k158_2 ?_)
      exact ((h.2 c6).1 c5)
    · refine VL_norm km158 k158_1 (VL_at (al := [(0, vI v1), (1, vI (m 69 0))]) (st := []) km158 k158_1 ?_)
      refine And.intro (fun c4 => ?_) (fun c4 => ?_)
      · refine VL_norm km158 k158_3 (VL_at (al := []) (st := []) km158 k158_3 ?_)
        refine V_mono (((h.2 c6).2 c5).1 c4) (fun u1 m1 h1 => ?_) (fun _ _ h => h)
        refine V_mono h1 (fun u2 m2 h2 => ?_) (fun _ _ h => h)
        refine V_mono h2 (fun u3 m3 h3 => ?_) (fun _ _ h => h)
        exact VL_norm km135 k135_1 h3
      · refine VL_norm km158 k158_2 (VL_at (al := []) (st := []) km158 k158_2 ?_)
        exact (((h.2 c6).2 c5).2 c4)
/-- BannerParade.bestSwap, label 1 -/
theorem w135_1 {D : Nat} {v1 : Int32} {v2 : Int32} {v3 : UInt32} {v4 : Int32} {m : XM} {Q : Int32 → XM → Prop} {E : Nat → XM → Prop}
    (h : (((m (49 + 3) 0) ≤ (v4 + (n32 1)) → Q v2 m) ∧ (¬ (m (49 + 3) 0) ≤ (v4 + (n32 1)) → ((v4 < (n32 0) → VA (D + 3) 162 [vR 10 (0), vI v1] m (fun x1 m1 => VF (D + 3) 40 [vR 5 (x1), vR 6 (69), vI v1] m1 (fun x2 m2 => (((Op.cmpValue (FP.fcmp x2 v3) .l) ≤ (n32 0) → VLI (D + 4) 135 1 [(0, vR 10 (0)), (1, vI v1), (2, vI v2), (3, vF v3), (4, vI (v4 + (n32 1)))] [] m2 Q E) ∧ (¬ (Op.cmpValue (FP.fcmp x2 v3) .l) ≤ (n32 0) → VLI (D + 4) 135 1 [(0, vR 10 (0)), (1, vI v1), (2, vI v4), (3, vF x2), (4, vI (v4 + (n32 1)))] [] m2 Q E))) E) E) ∧ (¬ v4 < (n32 0) → (((v4 + (n32 1)) < (m (49 + 3) 0) → (xin v4 12 = true ∧ (xin (v4 + (n32 1)) 12 = true ∧ VA (D + 3) 162 [vR 10 (0), vI v1] (um (um m (49 + 3 + 5) (ix v4) (m (49 + 3 + 5) (ix (v4 + (n32 1))))) (49 + 3 + 5) (ix (v4 + (n32 1))) (m (49 + 3 + 5) (ix v4))) (fun x4 m4 => VF (D + 3) 40 [vR 5 (x4), vR 6 (69), vI v1] m4 (fun x5 m5 => (((v4 + (n32 1)) < (m5 (49 + 3) 0) → (((Op.cmpValue (FP.fcmp x5 v3) .l) ≤ (n32 0) → VLI (D + 4) 135 1 [(0, vR 10 (0)), (1, vI v1), (2, vI v2), (3, vF v3), (4, vI (v4 + (n32 1)))] [] (um (um m5 (49 + 3 + 5) (ix v4) (m5 (49 + 3 + 5) (ix (v4 + (n32 1))))) (49 + 3 + 5) (ix (v4 + (n32 1))) (m5 (49 + 3 + 5) (ix v4))) Q E) ∧ (¬ (Op.cmpValue (FP.fcmp x5 v3) .l) ≤ (n32 0) → VLI (D + 4) 135 1 [(0, vR 10 (0)), (1, vI v1), (2, vI v4), (3, vF x5), (4, vI (v4 + (n32 1)))] [] (um (um m5 (49 + 3 + 5) (ix v4) (m5 (49 + 3 + 5) (ix (v4 + (n32 1))))) (49 + 3 + 5) (ix (v4 + (n32 1))) (m5 (49 + 3 + 5) (ix v4))) Q E))) ∧ (¬ (v4 + (n32 1)) < (m5 (49 + 3) 0) → (((Op.cmpValue (FP.fcmp x5 v3) .l) ≤ (n32 0) → VLI (D + 4) 135 1 [(0, vR 10 (0)), (1, vI v1), (2, vI v2), (3, vF v3), (4, vI (v4 + (n32 1)))] [] m5 Q E) ∧ (¬ (Op.cmpValue (FP.fcmp x5 v3) .l) ≤ (n32 0) → VLI (D + 4) 135 1 [(0, vR 10 (0)), (1, vI v1), (2, vI v4), (3, vF x5), (4, vI (v4 + (n32 1)))] [] m5 Q E))))) E) E))) ∧ (¬ (v4 + (n32 1)) < (m (49 + 3) 0) → VA (D + 3) 162 [vR 10 (0), vI v1] m (fun x9 m9 => VF (D + 3) 40 [vR 5 (x9), vR 6 (69), vI v1] m9 (fun x10 m10 => (((v4 + (n32 1)) < (m10 (49 + 3) 0) → (xin v4 12 = true ∧ (xin (v4 + (n32 1)) 12 = true ∧ (((Op.cmpValue (FP.fcmp x10 v3) .l) ≤ (n32 0) → VLI (D + 4) 135 1 [(0, vR 10 (0)), (1, vI v1), (2, vI v2), (3, vF v3), (4, vI (v4 + (n32 1)))] [] (um (um m10 (49 + 3 + 5) (ix v4) (m10 (49 + 3 + 5) (ix (v4 + (n32 1))))) (49 + 3 + 5) (ix (v4 + (n32 1))) (m10 (49 + 3 + 5) (ix v4))) Q E) ∧ (¬ (Op.cmpValue (FP.fcmp x10 v3) .l) ≤ (n32 0) → VLI (D + 4) 135 1 [(0, vR 10 (0)), (1, vI v1), (2, vI v4), (3, vF x10), (4, vI (v4 + (n32 1)))] [] (um (um m10 (49 + 3 + 5) (ix v4) (m10 (49 + 3 + 5) (ix (v4 + (n32 1))))) (49 + 3 + 5) (ix (v4 + (n32 1))) (m10 (49 + 3 + 5) (ix v4))) Q E))))) ∧ (¬ (v4 + (n32 1)) < (m10 (49 + 3) 0) → (((Op.cmpValue (FP.fcmp x10 v3) .l) ≤ (n32 0) → VLI (D + 4) 135 1 [(0, vR 10 (0)), (1, vI v1), (2, vI v2), (3, vF v3), (4, vI (v4 + (n32 1)))] [] m10 Q E) ∧ (¬ (Op.cmpValue (FP.fcmp x10 v3) .l) ≤ (n32 0) → VLI (D + 4) 135 1 [(0, vR 10 (0)), (1, vI v1), (2, vI v4), (3, vF x10), (4, vI (v4 + (n32 1)))] [] m10 Q E))))) E) E))))))) :
    VLI (D + 4) 135 1 [(0, vR 10 (0)), (1, vI v1), (2, vI v2), (3, vF v3), (4, vI v4)] [] m Q E := by
  refine VL_at (al := [(0, vR 10 (0)), (1, vI v1), (2, vI v2), (3, vF v3), (4, vI v4)]) (st := []) km135 k135_1 ?_
  refine And.intro (fun c16 => ?_) (fun c16 => ?_)
  · refine VL_norm km135 k135_5 (VL_at (al := [(2, vI v2)]) (st := []) km135 k135_5 ?_)
    exact (h.1 c16)
  · refine VL_norm km135 k135_2 (VL_at (al := [(0, vR 10 (0)), (1, vI v1), (2, vI v2), (3, vF v3), (4, vI v4)]) (st := []) km135 k135_2 ?_)
    refine V_of ?_
    refine VL_norm km53 k53_0 (VL_at (al := [(0, vR 7 (49 + 3)), (1, vI v4)]) (st := []) km53 k53_0 ?_)
    refine And.intro (fun c15 => ?_) (fun c15 => ?_)
    · refine VL_norm km53 k53_2 (VL_at (al := []) (st := []) km53 k53_2 ?_)
      refine V_mono ((h.2 c16).1 c15) (fun u1 m1 h1 => ?_) (fun _ _ h => h)
      refine V_mono h1 (fun u2 m2 h2 => ?_) (fun _ _ h => h)
      refine V_of ?_
      refine VL_norm km53 k53_0 (VL_at (al := [(0, vR 7 (49 + 3)), (1, vI v4)]) (st := []) km53 k53_0 ?_)
      refine And.intro (fun _ => ?_) (fun c => absurd c15 c)
      refine VL_norm km53 k53_2 (VL_at (al := []) (st := []) km53 k53_2 ?_)
      refine And.intro (fun c3 => ?_) (fun c3 => ?_)
      · refine VL_norm km135 k135_4 (VL_at (al := [(0, vR 10 (0)), (1, vI v1), (2, vI v2), (3, vF v3), (4, vI v4)]) (st := []) km135 k135_4 ?_)
        exact VL_norm km135 k135_1 (h2.1 c3)
      · refine VL_norm km135 k135_3 (VL_at (al := [(0, vR 10 (0)), (1, vI v1), (4, vI v4), (5, vF (xtf u2))]) (st := []) km135 k135_3 ?_)
        refine VL_norm km135 k135_4 (VL_at (al := [(0, vR 10 (0)), (1, vI v1), (2, vI v4), (3, vF (xtf u2)), (4, vI v4)]) (st := []) km135 k135_4 ?_)
        exact VL_norm km135 k135_1 (h2.2 c3)
    · refine VL_norm km53 k53_1 (VL_at (al := [(0, vR 7 (49 + 3)), (1, vI v4)]) (st := []) km53 k53_1 ?_)
      refine And.intro (fun c14 => ?_) (fun c14 => ?_)
      · refine VL_norm km53 k53_3 (VL_at (al := [(0, vR 7 (49 + 3)), (1, vI v4)]) (st := []) km53 k53_3 ?_)
        refine And.intro (((h.2 c16).2 c15).1 c14).1 ?_
        refine And.intro (((h.2 c16).2 c15).1 c14).2.1 ?_
        refine And.intro (((h.2 c16).2 c15).1 c14).1 ?_
        refine And.intro (((h.2 c16).2 c15).1 c14).2.1 ?_
        refine V_mono (((h.2 c16).2 c15).1 c14).2.2 (fun u4 m4 h4 => ?_) (fun _ _ h => h)
        refine V_mono h4 (fun u5 m5 h5 => ?_) (fun _ _ h => h)
        refine V_of ?_
        refine VL_norm km53 k53_0 (VL_at (al := [(0, vR 7 (49 + 3)), (1, vI v4)]) (st := []) km53 k53_0 ?_)
        refine And.intro (fun c => absurd c c15) (fun _ => ?_)
        refine VL_norm km53 k53_1 (VL_at (al := [(0, vR 7 (49 + 3)), (1, vI v4)]) (st := []) km53 k53_1 ?_)
        refine And.intro (fun c8 => ?_) (fun c8 => ?_)
        · refine VL_norm km53 k53_3 (VL_at (al := [(0, vR 7 (49 + 3)), (1, vI v4)]) (st := []) km53 k53_3 ?_)
          refine And.intro (((h.2 c16).2 c15).1 c14).1 ?_
          refine And.intro (((h.2 c16).2 c15).1 c14).2.1 ?_
          refine And.intro (((h.2 c16).2 c15).1 c14).1 ?_
          refine And.intro (((h.2 c16).2 c15).1 c14).2.1 ?_
          refine And.intro (fun c6 => ?_) (fun c6 => ?_)
          · refine VL_norm km135 k135_4 (VL_at (al := [(0, vR 10 (0)), (1, vI v1), (2, vI v2), (3, vF v3), (4, vI v4)]) (st := []) km135 k135_4 ?_)
            exact VL_norm km135 k135_1 ((h5.1 c8).1 c6)
          · refine VL_norm km135 k135_3 (VL_at (al := [(0, vR 10 (0)), (1, vI v1), (4, vI v4), (5, vF (xtf u5))]) (st := []) km135 k135_3 ?_)
            refine VL_norm km135 k135_4 (VL_at (al := [(0, vR 10 (0)), (1, vI v1), (2, vI v4), (3, vF (xtf u5)), (4, vI v4)]) (st := []) km135 k135_4 ?_)
            exact VL_norm km135 k135_1 ((h5.1 c8).2 c6)
        · refine VL_norm km53 k53_2 (VL_at (al := []) (st := []) km53 k53_2 ?_)
          refine And.intro (fun c7 => ?_) (fun c7 => ?_)
          · refine VL_norm km135 k135_4 (VL_at (al := [(0, vR 10 (0)), (1, vI v1), (2, vI v2), (3, vF v3), (4, vI v4)]) (st := []) km135 k135_4 ?_)
            exact VL_norm km135 k135_1 ((h5.2 c8).1 c7)
          · refine VL_norm km135 k135_3 (VL_at (al := [(0, vR 10 (0)), (1, vI v1), (4, vI v4), (5, vF (xtf u5))]) (st := []) km135 k135_3 ?_)
            refine VL_norm km135 k135_4 (VL_at (al := [(0, vR 10 (0)), (1, vI v1), (2, vI v4), (3, vF (xtf u5)), (4, vI v4)]) (st := []) km135 k135_4 ?_)
            exact VL_norm km135 k135_1 ((h5.2 c8).2 c7)
      · refine VL_norm km53 k53_2 (VL_at (al := []) (st := []) km53 k53_2 ?_)
        refine V_mono (((h.2 c16).2 c15).2 c14) (fun u9 m9 h9 => ?_) (fun _ _ h => h)
        refine V_mono h9 (fun u10 m10 h10 => ?_) (fun _ _ h => h)
        refine V_of ?_
        refine VL_norm km53 k53_0 (VL_at (al := [(0, vR 7 (49 + 3)), (1, vI v4)]) (st := []) km53 k53_0 ?_)
        refine And.intro (fun c => absurd c c15) (fun _ => ?_)
        refine VL_norm km53 k53_1 (VL_at (al := [(0, vR 7 (49 + 3)), (1, vI v4)]) (st := []) km53 k53_1 ?_)
        refine And.intro (fun c13 => ?_) (fun c13 => ?_)
        · refine VL_norm km53 k53_3 (VL_at (al := [(0, vR 7 (49 + 3)), (1, vI v4)]) (st := []) km53 k53_3 ?_)
          refine And.intro (h10.1 c13).1 ?_
          refine And.intro (h10.1 c13).2.1 ?_
          refine And.intro (h10.1 c13).1 ?_
          refine And.intro (h10.1 c13).2.1 ?_
          refine And.intro (fun c11 => ?_) (fun c11 => ?_)
          · refine VL_norm km135 k135_4 (VL_at (al := [(0, vR 10 (0)), (1, vI v1), (2, vI v2), (3, vF v3), (4, vI v4)]) (st := []) km135 k135_4 ?_)
            exact VL_norm km135 k135_1 ((h10.1 c13).2.2.1 c11)
          · refine VL_norm km135 k135_3 (VL_at (al := [(0, vR 10 (0)), (1, vI v1), (4, vI v4), (5, vF (xtf u10))]) (st := []) km135 k135_3 ?_)
            refine VL_norm km135 k135_4 (VL_at (al := [(0, vR 10 (0)), (1, vI v1), (2, vI v4), (3, vF (xtf u10)), (4, vI v4)]) (st := []) km135 k135_4 ?_)
            exact VL_norm km135 k135_1 ((h10.1 c13).2.2.2 c11)
        · refine VL_norm km53 k53_2 (VL_at (al := []) (st := []) km53 k53_2 ?_)
          refine And.intro (fun c12 => ?_) (fun c12 => ?_)
          · refine VL_norm km135 k135_4 (VL_at (al := [(0, vR 10 (0)), (1, vI v1), (2, vI v2), (3, vF v3), (4, vI v4)]) (st := []) km135 k135_4 ?_)
            exact VL_norm km135 k135_1 ((h10.2 c13).1 c12)
          · refine VL_norm km135 k135_3 (VL_at (al := [(0, vR 10 (0)), (1, vI v1), (4, vI v4), (5, vF (xtf u10))]) (st := []) km135 k135_3 ?_)
            refine VL_norm km135 k135_4 (VL_at (al := [(0, vR 10 (0)), (1, vI v1), (2, vI v4), (3, vF (xtf u10)), (4, vI v4)]) (st := []) km135 k135_4 ?_)
            exact VL_norm km135 k135_1 ((h10.2 c13).2 c12)
/-- BannerParade.closedIn, label 0 -/
theorem w136_0 {D : Nat} {v1 : Int32} {m : XM} {Q : Int32 → XM → Prop} {E : Nat → XM → Prop}
    (h : (((m 0 7) = (n32 0) → E 0 m) ∧ (¬ (m 0 7) = (n32 0) → ((v1 < (n32 0) → E 2 m) ∧ (¬ v1 < (n32 0) → ((v1 < (m (29 + 3) 0) → ((v1 = (n32 0) → Q (-(n32 1)) m) ∧ (¬ v1 = (n32 0) → VU (D + 4) 68 [vR 8 (49), vR 8 (29)] m (fun m1 => VLI (D + 5) 136 3 [(0, vR 10 (0)), (1, vI v1), (2, vI (m (29 + 1) (ix (n32 0)))), (3, vI (n32 0))] [] m1 Q E) E))) ∧ (¬ v1 < (m (29 + 3) 0) → E 2 m))))))) :
    VI (D + 5) 136 [vR 10 (0), vI v1] m Q E := by
  refine V_of (VL_at (al := [(0, vR 10 (0)), (1, vI v1)]) (st := []) km136 k136_0 ?_)
  refine V_of ?_
  refine VL_norm km155 k155_0 (VL_at (al := [(0, vR 10 (0))]) (st := []) km155 k155_0 ?_)
  refine And.intro (fun c5 => ?_) (fun c5 => ?_)
  · refine VL_norm km155 k155_1 (VL_at (al := []) (st := []) km155 k155_1 ?_)
    exact (h.1 c5)
  · refine VL_norm km155 k155_2 (VL_at (al := []) (st := []) km155 k155_2 ?_)
    refine V_of ?_
    refine VL_norm km156 k156_0 (VL_at (al := [(0, vR 10 (0)), (1, vI v1)]) (st := []) km156 k156_0 ?_)
    refine V_of ?_
    refine VL_norm km158 k158_0 (VL_at (al := [(0, vI v1), (1, vI (m (29 + 3) 0))]) (st := []) km158 k158_0 ?_)
    refine And.intro (fun c4 => ?_) (fun c4 => ?_)
    · refine VL_norm km158 k158_2 (VL_at (al := []) (st := []) km158 k158_2 ?_)
      exact ((h.2 c5).1 c4)
    · refine VL_norm km158 k158_1 (VL_at (al := [(0, vI v1), (1, vI (m (29 + 3) 0))]) (st := []) km158 k158_1 ?_)
      refine And.intro (fun c3 => ?_) (fun c3 => ?_)
      · refine VL_norm km158 k158_3 (VL_at (al := []) (st := []) km158 k158_3 ?_)
        refine And.intro (fun c2 => ?_) (fun c2 => ?_)
        · refine VL_norm km136 k136_1 (VL_at (al := []) (st := []) km136 k136_1 ?_)
          exact ((((h.2 c5).2 c4).1 c3).1 c2)
        · refine VL_norm km136 k136_2 (VL_at (al := [(0, vR 10 (0)), (1, vI v1)]) (st := []) km136 k136_2 ?_)
          refine And.intro (xin_k rfl) ?_
          refine V_mono ((((h.2 c5).2 c4).1 c3).2 c2) (fun u1 m1 h1 => ?_) (fun _ _ h => h)
          exact VL_norm km136 k136_3 h1
      · refine VL_norm km158 k158_2 (VL_at (al := []) (st := []) km158 k158_2 ?_)
        exact (((h.2 c5).2 c4).2 c3)
/-- BannerParade.closedIn, label 3 -/
theorem w136_3 {D : Nat} {v1 : Int32} {v2 : Int32} {v3 : Int32} {m : XM} {Q : Int32 → XM → Prop} {E : Nat → XM → Prop}
    (h : (((n32 300) ≤ v3 → ((v1 ≤ (n32 0) → (((-(n32 1)) = v2 → Q (n32 300) m) ∧ (¬ (-(n32 1)) = v2 → Q (-(n32 1)) m))) ∧ (¬ v1 ≤ (n32 0) → (xin (v1 - (n32 1)) 12 = true ∧ (xin v1 12 = true ∧ ((((m (49 + 3 + 6) (ix (v1 - (n32 1)))) - (m (49 + 3 + 6) (ix v1))) = v2 → Q (n32 300) m) ∧ (¬ ((m (49 + 3 + 6) (ix (v1 - (n32 1)))) - (m (49 + 3 + 6) (ix v1))) = v2 → Q (-(n32 1)) m))))))) ∧ (¬ (n32 300) ≤ v3 → ((v1 ≤ (n32 0) → (((-(n32 1)) = v2 → Q v3 m) ∧ (¬ (-(n32 1)) = v2 → VU (D + 4) 70 [vR 8 (49)] m (fun m4 => VLI (D + 5) 136 3 [(0, vR 10 (0)), (1, vI v1), (2, vI v2), (3, vI (v3 + (n32 1)))] [] m4 Q E) E))) ∧ (¬ v1 ≤ (n32 0) → (xin (v1 - (n32 1)) 12 = true ∧ (xin v1 12 = true ∧ ((((m (49 + 3 + 6) (ix (v1 - (n32 1)))) - (m (49 + 3 + 6) (ix v1))) = v2 → Q v3 m) ∧ (¬ ((m (49 + 3 + 6) (ix (v1 - (n32 1)))) - (m (49 + 3 + 6) (ix v1))) = v2 → VU (D + 4) 70 [vR 8 (49)] m (fun m6 => VLI (D + 5) 136 3 [(0, vR 10 (0)), (1, vI v1), (2, vI v2), (3, vI (v3 + (n32 1)))] [] m6 Q E) E))))))))) :
    VLI (D + 5) 136 3 [(0, vR 10 (0)), (1, vI v1), (2, vI v2), (3, vI v3)] [] m Q E := by
  refine VL_at (al := [(0, vR 10 (0)), (1, vI v1), (2, vI v2), (3, vI v3)]) (st := []) km136 k136_3 ?_
  refine And.intro (fun c9 => ?_) (fun c9 => ?_)
  · refine VL_norm km136 k136_7 (VL_at (al := [(0, vR 10 (0)), (1, vI v1), (2, vI v2)]) (st := []) km136 k136_7 ?_)
    refine V_of ?_
    refine VL_norm km51 k51_0 (VL_at (al := [(0, vR 7 (49 + 3)), (1, vI v1)]) (st := []) km51 k51_0 ?_)
    refine And.intro (fun c3 => ?_) (fun c3 => ?_)
    · refine VL_norm km51 k51_2 (VL_at (al := []) (st := []) km51 k51_2 ?_)
      refine VL_norm km51 k51_3 (VL_at (al := []) (st := [vI (-(n32 1))]) km51 k51_3 ?_)
      refine And.intro (fun c1 => ?_) (fun c1 => ?_)
      · refine VL_norm km136 k136_8 (VL_at (al := []) (st := []) km136 k136_8 ?_)
        refine VL_norm km136 k136_10 (VL_at (al := []) (st := [vI (n32 300)]) km136 k136_10 ?_)
        exact (((h.1 c9).1 c3).1 c1)
      · refine VL_norm km136 k136_9 (VL_at (al := []) (st := []) km136 k136_9 ?_)
        refine VL_norm km136 k136_10 (VL_at (al := []) (st := [vI (-(n32 1))]) km136 k136_10 ?_)
        exact (((h.1 c9).1 c3).2 c1)
    · refine VL_norm km51 k51_1 (VL_at (al := [(0, vR 7 (49 + 3)), (1, vI v1)]) (st := []) km51 k51_1 ?_)
      refine And.intro ((h.1 c9).2 c3).1 ?_
      refine And.intro ((h.1 c9).2 c3).2.1 ?_
      refine VL_norm km51 k51_3 (VL_at (al := []) (st := [vI ((m (49 + 3 + 6) (ix (v1 - (n32 1)))) - (m (49 + 3 + 6) (ix v1)))]) km51 k51_3 ?_)
      refine And.intro (fun c2 => ?_) (fun c2 => ?_)
      · refine VL_norm km136 k136_8 (VL_at (al := []) (st := []) km136 k136_8 ?_)
        refine VL_norm km136 k136_10 (VL_at (al := []) (st := [vI (n32 300)]) km136 k136_10 ?_)
        exact (((h.1 c9).2 c3).2.2.1 c2)
      · refine VL_norm km136 k136_9 (VL_at (al := []) (st := []) km136 k136_9 ?_)
        refine VL_norm km136 k136_10 (VL_at (al := []) (st := [vI (-(n32 1))]) km136 k136_10 ?_)
        exact (((h.1 c9).2 c3).2.2.2 c2)
  · refine VL_norm km136 k136_4 (VL_at (al := [(0, vR 10 (0)), (1, vI v1), (2, vI v2), (3, vI v3)]) (st := []) km136 k136_4 ?_)
    refine V_of ?_
    refine VL_norm km51 k51_0 (VL_at (al := [(0, vR 7 (49 + 3)), (1, vI v1)]) (st := []) km51 k51_0 ?_)
    refine And.intro (fun c8 => ?_) (fun c8 => ?_)
    · refine VL_norm km51 k51_2 (VL_at (al := []) (st := []) km51 k51_2 ?_)
      refine VL_norm km51 k51_3 (VL_at (al := []) (st := [vI (-(n32 1))]) km51 k51_3 ?_)
      refine And.intro (fun c5 => ?_) (fun c5 => ?_)
      · refine VL_norm km136 k136_5 (VL_at (al := [(3, vI v3)]) (st := []) km136 k136_5 ?_)
        exact (((h.2 c9).1 c8).1 c5)
      · refine VL_norm km136 k136_6 (VL_at (al := [(0, vR 10 (0)), (1, vI v1), (2, vI v2), (3, vI v3)]) (st := []) km136 k136_6 ?_)
        refine V_mono (((h.2 c9).1 c8).2 c5) (fun u4 m4 h4 => ?_) (fun _ _ h => h)
        exact VL_norm km136 k136_3 h4
    · refine VL_norm km51 k51_1 (VL_at (al := [(0, vR 7 (49 + 3)), (1, vI v1)]) (st := []) km51 k51_1 ?_)
      refine And.intro ((h.2 c9).2 c8).1 ?_
      refine And.intro ((h.2 c9).2 c8).2.1 ?_
      refine VL_norm km51 k51_3 (VL_at (al := []) (st := [vI ((m (49 + 3 + 6) (ix (v1 - (n32 1)))) - (m (49 + 3 + 6) (ix v1)))]) km51 k51_3 ?_)
      refine And.intro (fun c7 => ?_) (fun c7 => ?_)
      · refine VL_norm km136 k136_5 (VL_at (al := [(3, vI v3)]) (st := []) km136 k136_5 ?_)
        exact (((h.2 c9).2 c8).2.2.1 c7)
      · refine VL_norm km136 k136_6 (VL_at (al := [(0, vR 10 (0)), (1, vI v1), (2, vI v2), (3, vI v3)]) (st := []) km136 k136_6 ?_)
        refine V_mono (((h.2 c9).2 c8).2.2.2 c7) (fun u6 m6 h6 => ?_) (fun _ _ h => h)
        exact VL_norm km136 k136_3 h6
/-- BannerParade.leastRest, label 0 -/
theorem w137_0 {D : Nat}  {m : XM} {Q : Int32 → XM → Prop} {E : Nat → XM → Prop}
    (h : (((m 0 7) = (n32 0) → E 0 m) ∧ (¬ (m 0 7) = (n32 0) → VLI (D + 6) 137 1 [(0, vR 10 (0)), (1, vI (n32 0))] [] m Q E))) :
    VI (D + 6) 137 [vR 10 (0)] m Q E := by
  refine V_of (VL_at (al := [(0, vR 10 (0))]) (st := []) km137 k137_0 ?_)
  refine V_of ?_
  refine VL_norm km155 k155_0 (VL_at (al := [(0, vR 10 (0))]) (st := []) km155 k155_0 ?_)
  refine And.intro (fun c1 => ?_) (fun c1 => ?_)
  · refine VL_norm km155 k155_1 (VL_at (al := []) (st := []) km155 k155_1 ?_)
    exact (h.1 c1)
  · refine VL_norm km155 k155_2 (VL_at (al := []) (st := []) km155 k155_2 ?_)
    exact VL_norm km137 k137_1 (h.2 c1)
/-- BannerParade.leastRest, label 1 -/
theorem w137_1 {D : Nat} {v1 : Int32} {m : XM} {Q : Int32 → XM → Prop} {E : Nat → XM → Prop}
    (h : (((n32 50) < v1 → Q (-(n32 1)) m) ∧ (¬ (n32 50) < v1 → VU (D + 5) 68 [vR 8 (49), vR 8 (29)] m (fun m1 => VI (D + 5) 164 [vR 10 (0), vI (n32 100)] (um m1 (49 + 1) (ix (n32 3)) v1) (fun x2 m2 => ((x2 = (-(n32 1)) → Q v1 m2) ∧ (¬ x2 = (-(n32 1)) → VLI (D + 6) 137 1 [(0, vR 10 (0)), (1, vI (v1 + (n32 1)))] [] m2 Q E))) E) E))) :
    VLI (D + 6) 137 1 [(0, vR 10 (0)), (1, vI v1)] [] m Q E := by
  refine VL_at (al := [(0, vR 10 (0)), (1, vI v1)]) (st := []) km137 k137_1 ?_
  refine And.intro (fun c4 => ?_) (fun c4 => ?_)
  · refine VL_norm km137 k137_5 (VL_at (al := []) (st := []) km137 k137_5 ?_)
    exact (h.1 c4)
  · refine VL_norm km137 k137_2 (VL_at (al := [(0, vR 10 (0)), (1, vI v1)]) (st := []) km137 k137_2 ?_)
    refine V_mono (h.2 c4) (fun u1 m1 h1 => ?_) (fun _ _ h => h)
    refine And.intro (xin_k rfl) ?_
    refine V_mono h1 (fun u2 m2 h2 => ?_) (fun _ _ h => h)
    refine And.intro (fun c3 => ?_) (fun c3 => ?_)
    · refine VL_norm km137 k137_3 (VL_at (al := [(1, vI v1)]) (st := []) km137 k137_3 ?_)
      exact (h2.1 c3)
    · refine VL_norm km137 k137_4 (VL_at (al := [(0, vR 10 (0)), (1, vI v1)]) (st := []) km137 k137_4 ?_)
      exact VL_norm km137 k137_1 (h2.2 c3)
/-- BannerParade.writeStand, label 0 -/
theorem w138_0 {D : Nat} {v1 : Int32} {m : XM} {Q : Int32 → XM → Prop} {E : Nat → XM → Prop}
    (h : (((m 0 7) = (n32 0) → E 0 m) ∧ (¬ (m 0 7) = (n32 0) → ((v1 < (n32 0) → E 2 m) ∧ (¬ v1 < (n32 0) → ((v1 < (m 69 0) → VA (D + 3) 161 [vR 10 (0), vI v1] m (fun x1 m1 => VLI (D + 4) 138 1 [(0, vR 10 (0)), (2, vR 5 (x1)), (3, vI (n32 0))] [] (um m1 (281) 0 (n32 0)) Q E) E) ∧ (¬ v1 < (m 69 0) → E 2 m))))))) :
    VI (D + 4) 138 [vR 10 (0), vI v1] m Q E := by
  refine V_of (VL_at (al := [(0, vR 10 (0)), (1, vI v1)]) (st := []) km138 k138_0 ?_)
  refine V_of ?_
  refine VL_norm km155 k155_0 (VL_at (al := [(0, vR 10 (0))]) (st := []) km155 k155_0 ?_)
  refine And.intro (fun c4 => ?_) (fun c4 => ?_)
  · refine VL_norm km155 k155_1 (VL_at (al := []) (st := []) km155 k155_1 ?_)
    exact (h.1 c4)
  · refine VL_norm km155 k155_2 (VL_at (al := []) (st := []) km155 k155_2 ?_)
    refine V_of ?_
    refine VL_norm km157 k157_0 (VL_at (al := [(0, vR 10 (0)), (1, vI v1)]) (st := []) km157 k157_0 ?_)
    refine V_of ?_
    refine VL_norm km158 k158_0 (VL_at (al := [(0, vI v1), (1, vI (m 69 0))]) (st := []) km158 k158_0 ?_)
    refine And.intro (fun c3 => ?_) (fun c3 => ?_)
    · refine VL_norm km158 k158_2 (VL_at (al := []) (st := []) km158 k158_2 ?_)
      exact ((h.2 c4).1 c3)
    · refine VL_norm km158 k158_1 (VL_at (al := [(0, vI v1), (1, vI (m 69 0))]) (st := []) km158 k158_1 ?_)
      refine And.intro (fun c2 => ?_) (fun c2 => ?_)
      · refine VL_norm km158 k158_3 (VL_at (al := []) (st := []) km158 k158_3 ?_)
        refine V_mono (((h.2 c4).2 c3).1 c2) (fun u1 m1 h1 => ?_) (fun _ _ h => h)
        exact VL_norm km138 k138_1 h1
      · refine VL_norm km158 k158_2 (VL_at (al := []) (st := []) km158 k158_2 ?_)
        exact (((h.2 c4).2 c3).2 c2)
/-- BannerParade.writeStand, label 1 -/
theorem w138_1 {D : Nat} {a2 : Nat} {v3 : Int32} {m : XM} {Q : Int32 → XM → Prop} {E : Nat → XM → Prop}
    (h : (((m a2 0) ≤ v3 → Q (m 281 0) m) ∧ (¬ (m a2 0) ≤ v3 → ((v3 < (n32 0) → (((n32 128) ≤ (m 281 0) → VLI (D + 4) 138 1 [(0, vR 10 (0)), (2, vR 5 (a2)), (3, vI (v3 + (n32 1)))] [] m Q E) ∧ (¬ (n32 128) ≤ (m 281 0) → (xin (m 281 0) 128 = true ∧ VLI (D + 4) 138 1 [(0, vR 10 (0)), (2, vR 5 (a2)), (3, vI (v3 + (n32 1)))] [] (um (um m (281 + 1) (ix (m 281 0)) (-(n32 1))) (281) 0 (((um m (281 + 1) (ix (m 281 0)) (-(n32 1))) 281 0) + (n32 1))) Q E)))) ∧ (¬ v3 < (n32 0) → (xin v3 24 = true ∧ (((n32 128) ≤ (m 281 0) → VLI (D + 4) 138 1 [(0, vR 10 (0)), (2, vR 5 (a2)), (3, vI (v3 + (n32 1)))] [] m Q E) ∧ (¬ (n32 128) ≤ (m 281 0) → (xin (m 281 0) 128 = true ∧ VLI (D + 4) 138 1 [(0, vR 10 (0)), (2, vR 5 (a2)), (3, vI (v3 + (n32 1)))] [] (um (um m (281 + 1) (ix (m 281 0)) (m (a2 + 1) (ix v3))) (281) 0 (((um m (281 + 1) (ix (m 281 0)) (m (a2 + 1) (ix v3))) 281 0) + (n32 1))) Q E))))))))) :
    VLI (D + 4) 138 1 [(0, vR 10 (0)), (2, vR 5 (a2)), (3, vI v3)] [] m Q E := by
  refine VL_at (al := [(0, vR 10 (0)), (2, vR 5 (a2)), (3, vI v3)]) (st := []) km138 k138_1 ?_
  refine And.intro (fun c4 => ?_) (fun c4 => ?_)
  · refine VL_norm km138 k138_3 (VL_at (al := [(0, vR 10 (0))]) (st := []) km138 k138_3 ?_)
    exact (h.1 c4)
  · refine VL_norm km138 k138_2 (VL_at (al := [(0, vR 10 (0)), (2, vR 5 (a2)), (3, vI v3)]) (st := []) km138 k138_2 ?_)
    refine V_of ?_
    refine VL_norm km35 k35_0 (VL_at (al := [(0, vR 5 (a2)), (1, vI v3)]) (st := []) km35 k35_0 ?_)
    refine And.intro (fun c3 => ?_) (fun c3 => ?_)
    · refine VL_norm km35 k35_3 (VL_at (al := []) (st := []) km35 k35_3 ?_)
      refine VL_norm km35 k35_4 (VL_at (al := []) (st := [vI (-(n32 1))]) km35 k35_4 ?_)
      refine V_of ?_
      refine VL_norm km1 k1_0 (VL_at (al := [(0, vR 0 (281)), (1, vI (-(n32 1)))]) (st := []) km1 k1_0 ?_)
      refine And.intro (fun c1 => ?_) (fun c1 => ?_)
      · refine VL_norm km1 k1_2 (VL_at (al := []) (st := []) km1 k1_2 ?_)
        exact VL_norm km138 k138_1 (((h.2 c4).1 c3).1 c1)
      · refine VL_norm km1 k1_1 (VL_at (al := [(0, vR 0 (281)), (1, vI (-(n32 1)))]) (st := []) km1 k1_1 ?_)
        refine And.intro (((h.2 c4).1 c3).2 c1).1 ?_
        refine VL_norm km1 k1_2 (VL_at (al := []) (st := []) km1 k1_2 ?_)
        exact VL_norm km138 k138_1 (((h.2 c4).1 c3).2 c1).2
    · refine VL_norm km35 k35_1 (VL_at (al := [(0, vR 5 (a2)), (1, vI v3)]) (st := []) km35 k35_1 ?_)
      refine And.intro (fun c => absurd c c4) (fun _ => ?_)
      refine VL_norm km35 k35_2 (VL_at (al := [(0, vR 5 (a2)), (1, vI v3)]) (st := []) km35 k35_2 ?_)
      refine And.intro ((h.2 c4).2 c3).1 ?_
      refine VL_norm km35 k35_4 (VL_at (al := []) (st := [vI (m (a2 + 1) (ix v3))]) km35 k35_4 ?_)
      refine V_of ?_
      refine VL_norm km1 k1_0 (VL_at (al := [(0, vR 0 (281)), (1, vI (m (a2 + 1) (ix v3)))]) (st := []) km1 k1_0 ?_)
      refine And.intro (fun c2 => ?_) (fun c2 => ?_)
      · refine VL_norm km1 k1_2 (VL_at (al := []) (st := []) km1 k1_2 ?_)
        exact VL_norm km138 k138_1 (((h.2 c4).2 c3).2.1 c2)
      · refine VL_norm km1 k1_1 (VL_at (al := [(0, vR 0 (281)), (1, vI (m (a2 + 1) (ix v3)))]) (st := []) km1 k1_1 ?_)
        refine And.intro (((h.2 c4).2 c3).2.2 c2).1 ?_
        refine VL_norm km1 k1_2 (VL_at (al := []) (st := []) km1 k1_2 ?_)
        exact VL_norm km138 k138_1 (((h.2 c4).2 c3).2.2 c2).2
/-- BannerParade.writeRow, label 0 -/
theorem w139_0 {D : Nat}  {m : XM} {Q : Int32 → XM → Prop} {E : Nat → XM → Prop}
    (h : (((m 0 7) = (n32 0) → E 0 m) ∧ (¬ (m 0 7) = (n32 0) → VLI (D + 1) 139 1 [(0, vR 10 (0)), (1, vI (n32 0))] [] (um m (281) 0 (n32 0)) Q E))) :
    VI (D + 1) 139 [vR 10 (0)] m Q E := by
  refine V_of (VL_at (al := [(0, vR 10 (0))]) (st := []) km139 k139_0 ?_)
  refine V_of ?_
  refine VL_norm km155 k155_0 (VL_at (al := [(0, vR 10 (0))]) (st := []) km155 k155_0 ?_)
  refine And.intro (fun c1 => ?_) (fun c1 => ?_)
  · refine VL_norm km155 k155_1 (VL_at (al := []) (st := []) km155 k155_1 ?_)
    exact (h.1 c1)
  · refine VL_norm km155 k155_2 (VL_at (al := []) (st := []) km155 k155_2 ?_)
    exact VL_norm km139 k139_1 (h.2 c1)
/-- BannerParade.writeRow, label 1 -/
theorem w139_1 {D : Nat} {v1 : Int32} {m : XM} {Q : Int32 → XM → Prop} {E : Nat → XM → Prop}
    (h : (((m (29 + 3) 0) ≤ v1 → Q (m 281 0) m) ∧ (¬ (m (29 + 3) 0) ≤ v1 → (xin v1 12 = true ∧ (((m (29 + 3 + 5) (ix v1)) = (n32 0) → (((n32 128) ≤ (m 281 0) → VLI (D + 1) 139 1 [(0, vR 10 (0)), (1, vI (v1 + (n32 1)))] [] m Q E) ∧ (¬ (n32 128) ≤ (m 281 0) → (xin (m 281 0) 128 = true ∧ VLI (D + 1) 139 1 [(0, vR 10 (0)), (1, vI (v1 + (n32 1)))] [] (um (um m (281 + 1) (ix (m 281 0)) (n32 45)) (281) 0 (((um m (281 + 1) (ix (m 281 0)) (n32 45)) 281 0) + (n32 1))) Q E)))) ∧ (¬ (m (29 + 3 + 5) (ix v1)) = (n32 0) → (((n32 128) ≤ (m 281 0) → VLI (D + 1) 139 1 [(0, vR 10 (0)), (1, vI (v1 + (n32 1)))] [] m Q E) ∧ (¬ (n32 128) ≤ (m 281 0) → (xin (m 281 0) 128 = true ∧ (∀ μ2 : XM, μ2 = um (um m (281 + 1) (ix (m 281 0)) ((n32 96) + (m (29 + 3 + 5) (ix v1)))) (281) 0 (((um m (281 + 1) (ix (m 281 0)) ((n32 96) + (m (29 + 3 + 5) (ix v1)))) 281 0) + (n32 1)) → VLI (D + 1) 139 1 [(0, vR 10 (0)), (1, vI (v1 + (n32 1)))] [] μ2 Q E)))))))))) :
    VLI (D + 1) 139 1 [(0, vR 10 (0)), (1, vI v1)] [] m Q E := by
  refine VL_at (al := [(0, vR 10 (0)), (1, vI v1)]) (st := []) km139 k139_1 ?_
  refine And.intro (fun c5 => ?_) (fun c5 => ?_)
  · refine VL_norm km139 k139_6 (VL_at (al := [(0, vR 10 (0))]) (st := []) km139 k139_6 ?_)
    exact (h.1 c5)
  · refine VL_norm km139 k139_2 (VL_at (al := [(0, vR 10 (0)), (1, vI v1)]) (st := []) km139 k139_2 ?_)
    refine And.intro (h.2 c5).1 ?_
    refine And.intro (fun c4 => ?_) (fun c4 => ?_)
    · refine VL_norm km139 k139_3 (VL_at (al := [(0, vR 10 (0)), (1, vI v1)]) (st := [vR 0 (281)]) km139 k139_3 ?_)
      refine VL_norm km139 k139_5 (VL_at (al := [(0, vR 10 (0)), (1, vI v1)]) (st := [vI (n32 45), vR 0 (281)]) km139 k139_5 ?_)
      refine V_of ?_
      refine VL_norm km1 k1_0 (VL_at (al := [(0, vR 0 (281)), (1, vI (n32 45))]) (st := []) km1 k1_0 ?_)
      refine And.intro (fun c1 => ?_) (fun c1 => ?_)
      · refine VL_norm km1 k1_2 (VL_at (al := []) (st := []) km1 k1_2 ?_)
        exact VL_norm km139 k139_1 (((h.2 c5).2.1 c4).1 c1)
      · refine VL_norm km1 k1_1 (VL_at (al := [(0, vR 0 (281)), (1, vI (n32 45))]) (st := []) km1 k1_1 ?_)
        refine And.intro (((h.2 c5).2.1 c4).2 c1).1 ?_
        refine VL_norm km1 k1_2 (VL_at (al := []) (st := []) km1 k1_2 ?_)
        exact VL_norm km139 k139_1 (((h.2 c5).2.1 c4).2 c1).2
    · refine VL_norm km139 k139_4 (VL_at (al := [(0, vR 10 (0)), (1, vI v1), (2, vI (m (29 + 3 + 5) (ix v1)))]) (st := [vR 0 (281)]) km139 k139_4 ?_)
      refine VL_norm km139 k139_5 (VL_at (al := [(0, vR 10 (0)), (1, vI v1)]) (st := [vI ((n32 96) + (m (29 + 3 + 5) (ix v1))), vR 0 (281)]) km139 k139_5 ?_)
      refine V_of ?_
      refine VL_norm km1 k1_0 (VL_at (al := [(0, vR 0 (281)), (1, vI ((n32 96) + (m (29 + 3 + 5) (ix v1))))]) (st := []) km1 k1_0 ?_)
      refine And.intro (fun c3 => ?_) (fun c3 => ?_)
      · refine VL_norm km1 k1_2 (VL_at (al := []) (st := []) km1 k1_2 ?_)
        exact VL_norm km139 k139_1 (((h.2 c5).2.2 c4).1 c3)
      · refine VL_norm km1 k1_1 (VL_at (al := [(0, vR 0 (281)), (1, vI ((n32 96) + (m (29 + 3 + 5) (ix v1))))]) (st := []) km1 k1_1 ?_)
        refine And.intro (((h.2 c5).2.2 c4).2 c3).1 ?_
        refine VL_norm km1 k1_2 (VL_at (al := []) (st := []) km1 k1_2 ?_)
        exact VL_norm km139 k139_1 ((((h.2 c5).2.2 c4).2 c3).2 (um (um m (281 + 1) (ix (m 281 0)) ((n32 96) + (m (29 + 3 + 5) (ix v1)))) (281) 0 (((um m (281 + 1) (ix (m 281 0)) ((n32 96) + (m (29 + 3 + 5) (ix v1)))) 281 0) + (n32 1))) rfl)
/-- BannerParade.writePlaces, label 0 -/
theorem w140_0 {D : Nat}  {m : XM} {Q : Int32 → XM → Prop} {E : Nat → XM → Prop}
    (h : (((m 0 7) = (n32 0) → E 0 m) ∧ (¬ (m 0 7) = (n32 0) → VLI (D + 2) 140 1 [(0, vR 10 (0)), (1, vI (n32 0))] [] (um m (281) 0 (n32 0)) Q E))) :
    VI (D + 2) 140 [vR 10 (0)] m Q E := by
  refine V_of (VL_at (al := [(0, vR 10 (0))]) (st := []) km140 k140_0 ?_)
  refine V_of ?_
  refine VL_norm km155 k155_0 (VL_at (al := [(0, vR 10 (0))]) (st := []) km155 k155_0 ?_)
  refine And.intro (fun c1 => ?_) (fun c1 => ?_)
  · refine VL_norm km155 k155_1 (VL_at (al := []) (st := []) km155 k155_1 ?_)
    exact (h.1 c1)
  · refine VL_norm km155 k155_2 (VL_at (al := []) (st := []) km155 k155_2 ?_)
    exact VL_norm km140 k140_1 (h.2 c1)
/-- BannerParade.writePlaces, label 1 -/
theorem w140_1 {D : Nat} {v1 : Int32} {m : XM} {Q : Int32 → XM → Prop} {E : Nat → XM → Prop}
    (h : (((m (29 + 3) 0) ≤ v1 → Q (m 281 0) m) ∧ (¬ (m (29 + 3) 0) ≤ v1 → ((v1 ≤ (n32 0) → (xin v1 12 = true ∧ VU (D + 1) 2 [vR 0 (281), vI (m (29 + 3 + 6) (ix v1))] m (fun m1 => VLI (D + 2) 140 1 [(0, vR 10 (0)), (1, vI (v1 + (n32 1)))] [] m1 Q E) E)) ∧ (¬ v1 ≤ (n32 0) → (((n32 128) ≤ (m 281 0) → (xin v1 12 = true ∧ VU (D + 1) 2 [vR 0 (281), vI (m (29 + 3 + 6) (ix v1))] m (fun m2 => VLI (D + 2) 140 1 [(0, vR 10 (0)), (1, vI (v1 + (n32 1)))] [] m2 Q E) E)) ∧ (¬ (n32 128) ≤ (m 281 0) → (xin (m 281 0) 128 = true ∧ (xin v1 12 = true ∧ VU (D + 1) 2 [vR 0 (281), vI ((um (um m (281 + 1) (ix (m 281 0)) (n32 44)) (281) 0 (((um m (281 + 1) (ix (m 281 0)) (n32 44)) 281 0) + (n32 1))) (29 + 3 + 6) (ix v1))] (um (um m (281 + 1) (ix (m 281 0)) (n32 44)) (281) 0 (((um m (281 + 1) (ix (m 281 0)) (n32 44)) 281 0) + (n32 1))) (fun m3 => VLI (D + 2) 140 1 [(0, vR 10 (0)), (1, vI (v1 + (n32 1)))] [] m3 Q E) E))))))))) :
    VLI (D + 2) 140 1 [(0, vR 10 (0)), (1, vI v1)] [] m Q E := by
  refine VL_at (al := [(0, vR 10 (0)), (1, vI v1)]) (st := []) km140 k140_1 ?_
  refine And.intro (fun c6 => ?_) (fun c6 => ?_)
  · refine VL_norm km140 k140_5 (VL_at (al := [(0, vR 10 (0))]) (st := []) km140 k140_5 ?_)
    exact (h.1 c6)
  · refine VL_norm km140 k140_2 (VL_at (al := [(0, vR 10 (0)), (1, vI v1)]) (st := []) km140 k140_2 ?_)
    refine And.intro (fun c5 => ?_) (fun c5 => ?_)
    · refine VL_norm km140 k140_4 (VL_at (al := [(0, vR 10 (0)), (1, vI v1)]) (st := []) km140 k140_4 ?_)
      refine And.intro ((h.2 c6).1 c5).1 ?_
      refine V_mono ((h.2 c6).1 c5).2 (fun u1 m1 h1 => ?_) (fun _ _ h => h)
      exact VL_norm km140 k140_1 h1
    · refine VL_norm km140 k140_3 (VL_at (al := [(0, vR 10 (0)), (1, vI v1)]) (st := []) km140 k140_3 ?_)
      refine V_of ?_
      refine VL_norm km1 k1_0 (VL_at (al := [(0, vR 0 (281)), (1, vI (n32 44))]) (st := []) km1 k1_0 ?_)
      refine And.intro (fun c4 => ?_) (fun c4 => ?_)
      · refine VL_norm km1 k1_2 (VL_at (al := []) (st := []) km1 k1_2 ?_)
        refine VL_norm km140 k140_4 (VL_at (al := [(0, vR 10 (0)), (1, vI v1)]) (st := []) km140 k140_4 ?_)
        refine And.intro (((h.2 c6).2 c5).1 c4).1 ?_
        refine V_mono (((h.2 c6).2 c5).1 c4).2 (fun u2 m2 h2 => ?_) (fun _ _ h => h)
        exact VL_norm km140 k140_1 h2
      · refine VL_norm km1 k1_1 (VL_at (al := [(0, vR 0 (281)), (1, vI (n32 44))]) (st := []) km1 k1_1 ?_)
        refine And.intro (((h.2 c6).2 c5).2 c4).1 ?_
        refine VL_norm km1 k1_2 (VL_at (al := []) (st := []) km1 k1_2 ?_)
        refine VL_norm km140 k140_4 (VL_at (al := [(0, vR 10 (0)), (1, vI v1)]) (st := []) km140 k140_4 ?_)
        refine And.intro (((h.2 c6).2 c5).2 c4).2.1 ?_
        refine V_mono (((h.2 c6).2 c5).2 c4).2.2 (fun u3 m3 h3 => ?_) (fun _ _ h => h)
        exact VL_norm km140 k140_1 h3
/-- BannerParade.tick, label 0 -/
theorem w142_0 {D : Nat} {v1 : Int32} {m : XM} {Q : Int32 → XM → Prop} {E : Nat → XM → Prop}
    (h : (((m 0 7) = (n32 0) → E 0 m) ∧ (¬ (m 0 7) = (n32 0) → ((v1 < (n32 1) → E 1 m) ∧ (¬ v1 < (n32 1) → (((n32 100) < v1 → E 1 m) ∧ (¬ (n32 100) < v1 → (((n32 5000) < ((m 29 0) + v1) → E 1 m) ∧ (¬ (n32 5000) < ((m 29 0) + v1) → VU (D + 4) 13 [vR 2 (74), vR 8 (29)] m (fun m1 => VI (D + 4) 166 [vR 10 (0)] m1 (fun x2 m2 => VLI (D + 5) 142 4 [(0, vR 10 (0)), (1, vI v1), (2, vI ((((((((x2 - (((x2).toUInt32 >>> (((n32 1)).toUInt32 &&& Int32.toUInt32 31)).toInt32 &&& (n32 1431655765))) &&& (n32 858993459)) + ((((x2 - (((x2).toUInt32 >>> (((n32 1)).toUInt32 &&& Int32.toUInt32 31)).toInt32 &&& (n32 1431655765)))).toUInt32 >>> (((n32 2)).toUInt32 &&& Int32.toUInt32 31)).toInt32 &&& (n32 858993459))) + (((((x2 - (((x2).toUInt32 >>> (((n32 1)).toUInt32 &&& Int32.toUInt32 31)).toInt32 &&& (n32 1431655765))) &&& (n32 858993459)) + ((((x2 - (((x2).toUInt32 >>> (((n32 1)).toUInt32 &&& Int32.toUInt32 31)).toInt32 &&& (n32 1431655765)))).toUInt32 >>> (((n32 2)).toUInt32 &&& Int32.toUInt32 31)).toInt32 &&& (n32 858993459)))).toUInt32 >>> (((n32 4)).toUInt32 &&& Int32.toUInt32 31)).toInt32) &&& (n32 252645135)) + (((((((x2 - (((x2).toUInt32 >>> (((n32 1)).toUInt32 &&& Int32.toUInt32 31)).toInt32 &&& (n32 1431655765))) &&& (n32 858993459)) + ((((x2 - (((x2).toUInt32 >>> (((n32 1)).toUInt32 &&& Int32.toUInt32 31)).toInt32 &&& (n32 1431655765)))).toUInt32 >>> (((n32 2)).toUInt32 &&& Int32.toUInt32 31)).toInt32 &&& (n32 858993459))) + (((((x2 - (((x2).toUInt32 >>> (((n32 1)).toUInt32 &&& Int32.toUInt32 31)).toInt32 &&& (n32 1431655765))) &&& (n32 858993459)) + ((((x2 - (((x2).toUInt32 >>> (((n32 1)).toUInt32 &&& Int32.toUInt32 31)).toInt32 &&& (n32 1431655765)))).toUInt32 >>> (((n32 2)).toUInt32 &&& Int32.toUInt32 31)).toInt32 &&& (n32 858993459)))).toUInt32 >>> (((n32 4)).toUInt32 &&& Int32.toUInt32 31)).toInt32) &&& (n32 252645135))).toUInt32 >>> (((n32 8)).toUInt32 &&& Int32.toUInt32 31)).toInt32) + ((((((((x2 - (((x2).toUInt32 >>> (((n32 1)).toUInt32 &&& Int32.toUInt32 31)).toInt32 &&& (n32 1431655765))) &&& (n32 858993459)) + ((((x2 - (((x2).toUInt32 >>> (((n32 1)).toUInt32 &&& Int32.toUInt32 31)).toInt32 &&& (n32 1431655765)))).toUInt32 >>> (((n32 2)).toUInt32 &&& Int32.toUInt32 31)).toInt32 &&& (n32 858993459))) + (((((x2 - (((x2).toUInt32 >>> (((n32 1)).toUInt32 &&& Int32.toUInt32 31)).toInt32 &&& (n32 1431655765))) &&& (n32 858993459)) + ((((x2 - (((x2).toUInt32 >>> (((n32 1)).toUInt32 &&& Int32.toUInt32 31)).toInt32 &&& (n32 1431655765)))).toUInt32 >>> (((n32 2)).toUInt32 &&& Int32.toUInt32 31)).toInt32 &&& (n32 858993459)))).toUInt32 >>> (((n32 4)).toUInt32 &&& Int32.toUInt32 31)).toInt32) &&& (n32 252645135)) + (((((((x2 - (((x2).toUInt32 >>> (((n32 1)).toUInt32 &&& Int32.toUInt32 31)).toInt32 &&& (n32 1431655765))) &&& (n32 858993459)) + ((((x2 - (((x2).toUInt32 >>> (((n32 1)).toUInt32 &&& Int32.toUInt32 31)).toInt32 &&& (n32 1431655765)))).toUInt32 >>> (((n32 2)).toUInt32 &&& Int32.toUInt32 31)).toInt32 &&& (n32 858993459))) + (((((x2 - (((x2).toUInt32 >>> (((n32 1)).toUInt32 &&& Int32.toUInt32 31)).toInt32 &&& (n32 1431655765))) &&& (n32 858993459)) + ((((x2 - (((x2).toUInt32 >>> (((n32 1)).toUInt32 &&& Int32.toUInt32 31)).toInt32 &&& (n32 1431655765)))).toUInt32 >>> (((n32 2)).toUInt32 &&& Int32.toUInt32 31)).toInt32 &&& (n32 858993459)))).toUInt32 >>> (((n32 4)).toUInt32 &&& Int32.toUInt32 31)).toInt32) &&& (n32 252645135))).toUInt32 >>> (((n32 8)).toUInt32 &&& Int32.toUInt32 31)).toInt32)).toUInt32 >>> (((n32 16)).toUInt32 &&& Int32.toUInt32 31)).toInt32) &&& (n32 63))), (3, vI (n32 0))] [] m2 Q E) E) E))))))))) :
    VI (D + 5) 142 [vR 10 (0), vI v1] m Q E := by
  refine V_of (VL_at (al := [(0, vR 10 (0)), (1, vI v1)]) (st := []) km142 k142_0 ?_)
  refine V_of ?_
  refine VL_norm km155 k155_0 (VL_at (al := [(0, vR 10 (0))]) (st := []) km155 k155_0 ?_)
  refine And.intro (fun c6 => ?_) (fun c6 => ?_)
  · refine VL_norm km155 k155_1 (VL_at (al := []) (st := []) km155 k155_1 ?_)
    exact (h.1 c6)
  · refine VL_norm km155 k155_2 (VL_at (al := []) (st := []) km155 k155_2 ?_)
    refine V_of ?_
    refine VL_norm km159 k159_0 (VL_at (al := [(0, vI v1), (1, vI (n32 1)), (2, vI (n32 100))]) (st := []) km159 k159_0 ?_)
    refine And.intro (fun c5 => ?_) (fun c5 => ?_)
    · refine VL_norm km159 k159_3 (VL_at (al := []) (st := []) km159 k159_3 ?_)
      refine VL_norm km159 k159_4 (VL_at (al := []) (st := [vI (n32 0)]) km159 k159_4 ?_)
      refine V_of ?_
      refine VL_norm km160 k160_0 (VL_at (al := [(0, vI (n32 0))]) (st := []) km160 k160_0 ?_)
      refine And.intro (fun _ => ?_) (fun c => absurd (by decide) c)
      refine VL_norm km160 k160_1 (VL_at (al := []) (st := []) km160 k160_1 ?_)
      exact ((h.2 c6).1 c5)
    · refine VL_norm km159 k159_1 (VL_at (al := [(0, vI v1), (2, vI (n32 100))]) (st := []) km159 k159_1 ?_)
      refine And.intro (fun c4 => ?_) (fun c4 => ?_)
      · refine VL_norm km159 k159_3 (VL_at (al := []) (st := []) km159 k159_3 ?_)
        refine VL_norm km159 k159_4 (VL_at (al := []) (st := [vI (n32 0)]) km159 k159_4 ?_)
        refine V_of ?_
        refine VL_norm km160 k160_0 (VL_at (al := [(0, vI (n32 0))]) (st := []) km160 k160_0 ?_)
        refine And.intro (fun _ => ?_) (fun c => absurd (by decide) c)
        refine VL_norm km160 k160_1 (VL_at (al := []) (st := []) km160 k160_1 ?_)
        exact (((h.2 c6).2 c5).1 c4)
      · refine VL_norm km159 k159_2 (VL_at (al := []) (st := []) km159 k159_2 ?_)
        refine VL_norm km159 k159_4 (VL_at (al := []) (st := [vI (n32 1)]) km159 k159_4 ?_)
        refine V_of ?_
        refine VL_norm km160 k160_0 (VL_at (al := [(0, vI (n32 1))]) (st := []) km160 k160_0 ?_)
        refine And.intro (fun c => absurd c (by decide)) (fun _ => ?_)
        refine VL_norm km160 k160_2 (VL_at (al := []) (st := []) km160 k160_2 ?_)
        refine And.intro (fun c3 => ?_) (fun c3 => ?_)
        · refine VL_norm km142 k142_2 (VL_at (al := [(0, vR 10 (0)), (1, vI v1)]) (st := []) km142 k142_2 ?_)
          refine VL_norm km142 k142_3 (VL_at (al := [(0, vR 10 (0)), (1, vI v1)]) (st := [vI (n32 0)]) km142 k142_3 ?_)
          refine V_of ?_
          refine VL_norm km160 k160_0 (VL_at (al := [(0, vI (n32 0))]) (st := []) km160 k160_0 ?_)
          refine And.intro (fun _ => ?_) (fun c => absurd (by decide) c)
          refine VL_norm km160 k160_1 (VL_at (al := []) (st := []) km160 k160_1 ?_)
          exact ((((h.2 c6).2 c5).2 c4).1 c3)
        · refine VL_norm km142 k142_1 (VL_at (al := [(0, vR 10 (0)), (1, vI v1)]) (st := []) km142 k142_1 ?_)
          refine VL_norm km142 k142_3 (VL_at (al := [(0, vR 10 (0)), (1, vI v1)]) (st := [vI (n32 1)]) km142 k142_3 ?_)
          refine V_of ?_
          refine VL_norm km160 k160_0 (VL_at (al := [(0, vI (n32 1))]) (st := []) km160 k160_0 ?_)
          refine And.intro (fun c => absurd c (by decide)) (fun _ => ?_)
          refine VL_norm km160 k160_2 (VL_at (al := []) (st := []) km160 k160_2 ?_)
          refine V_mono ((((h.2 c6).2 c5).2 c4).2 c3) (fun u1 m1 h1 => ?_) (fun _ _ h => h)
          refine V_mono h1 (fun u2 m2 h2 => ?_) (fun _ _ h => h)
          refine V_of ?_
          refine VL_norm km383 k383_0 (VL_at (al := [(0, vI (xti u2))]) (st := []) km383 k383_0 ?_)
          exact VL_norm km142 k142_4 h2
