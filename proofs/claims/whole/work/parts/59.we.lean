/-! Conditions of small methods that the law calls itself (written by program: wip/whole/mkwe.py). -/
theorem w93_0 {D : Nat}  {m : XM} {Q : Int32 → XM → Prop} {E : Nat → XM → Prop}
    (h : Q (m 1 3) m) :
    VI D 93 [vR 10 (0)] m Q E := by
  refine V_of (VL_at (al := [(0, vR 10 (0))]) (st := []) km93 k93_0 ?_)
  exact h
theorem w94_0 {D : Nat}  {m : XM} {Q : Int32 → XM → Prop} {E : Nat → XM → Prop}
    (h : Q (m 1 4) m) :
    VI D 94 [vR 10 (0)] m Q E := by
  refine V_of (VL_at (al := [(0, vR 10 (0))]) (st := []) km94 k94_0 ?_)
  exact h
theorem w95_0 {D : Nat}  {m : XM} {Q : Int32 → XM → Prop} {E : Nat → XM → Prop}
    (h : Q (m (1 + 1) 1) m) :
    VI D 95 [vR 10 (0)] m Q E := by
  refine V_of (VL_at (al := [(0, vR 10 (0))]) (st := []) km95 k95_0 ?_)
  exact h
theorem w123_0 {D : Nat}  {m : XM} {Q : Int32 → XM → Prop} {E : Nat → XM → Prop}
    (h : (((m 0 7) = (n32 0) → E 0 m) ∧ (¬ (m 0 7) = (n32 0) → (((n32 2) ≤ (m (29 + 3) 0) → (xin ((m (29 + 3) 0) - (n32 1)) 12 = true ∧ Q ((m (29 + 3 + 6) (ix (n32 0))) - (m (29 + 3 + 6) (ix ((m (29 + 3) 0) - (n32 1))))) m)) ∧ (¬ (n32 2) ≤ (m (29 + 3) 0) → Q (n32 0) m))))) :
    VI (D + 1) 123 [vR 10 (0)] m Q E := by
  refine V_of (VL_at (al := [(0, vR 10 (0))]) (st := []) km123 k123_0 ?_)
  refine V_of ?_
  refine VL_norm km155 k155_0 (VL_at (al := [(0, vR 10 (0))]) (st := []) km155 k155_0 ?_)
  refine And.intro (fun c2 => ?_) (fun c2 => ?_)
  · refine VL_norm km155 k155_1 (VL_at (al := []) (st := []) km155 k155_1 ?_)
    exact (h.1 c2)
  · refine VL_norm km155 k155_2 (VL_at (al := []) (st := []) km155 k155_2 ?_)
    refine And.intro (fun c1 => ?_) (fun c1 => ?_)
    · refine VL_norm km123 k123_2 (VL_at (al := [(1, vR 7 (29 + 3))]) (st := []) km123 k123_2 ?_)
      refine And.intro (xin_k rfl) ?_
      refine And.intro ((h.2 c2).1 c1).1 ?_
      refine VL_norm km123 k123_3 (VL_at (al := []) (st := [vI ((m (29 + 3 + 6) (ix (n32 0))) - (m (29 + 3 + 6) (ix ((m (29 + 3) 0) - (n32 1)))))]) km123 k123_3 ?_)
      exact ((h.2 c2).1 c1).2
    · refine VL_norm km123 k123_1 (VL_at (al := []) (st := []) km123 k123_1 ?_)
      refine VL_norm km123 k123_3 (VL_at (al := []) (st := [vI (n32 0)]) km123 k123_3 ?_)
      exact ((h.2 c2).2 c1)
theorem w141_0 {D : Nat} {v1 : Int32} {m : XM} {Q : Int32 → XM → Prop} {E : Nat → XM → Prop}
    (h : ((v1 < (n32 0) → E 2 m) ∧ (¬ v1 < (n32 0) → ((v1 < (m 281 0) → (xin v1 128 = true ∧ Q (m (281 + 1) (ix v1)) m)) ∧ (¬ v1 < (m 281 0) → E 2 m))))) :
    VI (D + 1) 141 [vR 10 (0), vI v1] m Q E := by
  refine V_of (VL_at (al := [(0, vR 10 (0)), (1, vI v1)]) (st := []) km141 k141_0 ?_)
  refine V_of ?_
  refine VL_norm km158 k158_0 (VL_at (al := [(0, vI v1), (1, vI (m 281 0))]) (st := []) km158 k158_0 ?_)
  refine And.intro (fun c2 => ?_) (fun c2 => ?_)
  · refine VL_norm km158 k158_2 (VL_at (al := []) (st := []) km158 k158_2 ?_)
    exact (h.1 c2)
  · refine VL_norm km158 k158_1 (VL_at (al := [(0, vI v1), (1, vI (m 281 0))]) (st := []) km158 k158_1 ?_)
    refine And.intro (fun c1 => ?_) (fun c1 => ?_)
    · refine VL_norm km158 k158_3 (VL_at (al := []) (st := []) km158 k158_3 ?_)
      refine And.intro ((h.2 c2).1 c1).1 ?_
      exact ((h.2 c2).1 c1).2
    · refine VL_norm km158 k158_2 (VL_at (al := []) (st := []) km158 k158_2 ?_)
      exact ((h.2 c2).2 c1)
theorem w152_0 {D : Nat}  {m : XM} {Q : Int32 → XM → Prop} {E : Nat → XM → Prop}
    (h : Q (m 74 1) m) :
    VI D 152 [vR 10 (0)] m Q E := by
  refine V_of (VL_at (al := [(0, vR 10 (0))]) (st := []) km152 k152_0 ?_)
  exact h
theorem w174_0 {D : Nat}  {m : XM} {Q : Int32 → XM → Prop} {E : Nat → XM → Prop}
    (h : Q (m 283 0) m) :
    VI D 174 [vR 11 (283)] m Q E := by
  refine V_of (VL_at (al := [(0, vR 11 (283))]) (st := []) km174 k174_0 ?_)
  exact h
theorem w181_0 {D : Nat}  {m : XM} {Q : Int32 → XM → Prop} {E : Nat → XM → Prop}
    (h : Q ((um m (283) 0 (n32 0)) 283 10) (um m (283) 0 (n32 0))) :
    VI D 181 [vR 11 (283)] m Q E := by
  refine V_of (VL_at (al := [(0, vR 11 (283))]) (st := []) km181 k181_0 ?_)
  exact h
theorem w182_0 {D : Nat}  {m : XM} {Q : Int32 → XM → Prop} {E : Nat → XM → Prop}
    (h : Q ((um m (283) 0 (n32 0)) 283 11) (um m (283) 0 (n32 0))) :
    VI D 182 [vR 11 (283)] m Q E := by
  refine V_of (VL_at (al := [(0, vR 11 (283))]) (st := []) km182 k182_0 ?_)
  exact h
theorem w183_0 {D : Nat}  {m : XM} {Q : Int32 → XM → Prop} {E : Nat → XM → Prop}
    (h : Q ((um m (283) 0 (n32 0)) 283 9) (um m (283) 0 (n32 0))) :
    VI D 183 [vR 11 (283)] m Q E := by
  refine V_of (VL_at (al := [(0, vR 11 (283))]) (st := []) km183 k183_0 ?_)
  exact h
theorem w320_0 {D : Nat}  {m : XM} {Q : Int32 → XM → Prop} {E : Nat → XM → Prop}
    (h : Q ((um m (283) 0 (n32 0)) 283 7) (um m (283) 0 (n32 0))) :
    VI D 320 [vR 11 (283)] m Q E := by
  refine V_of (VL_at (al := [(0, vR 11 (283))]) (st := []) km320 k320_0 ?_)
  exact h
