/-! Verification conditions (written by program: wip/whole/mkw.py). -/
/-- BannerParadeModel.undo, label 0 -/
theorem w319_0 {D : Nat}  {m : XM} {Q : Int32 → XM → Prop} {E : Nat → XM → Prop}
    (h : (((m 283 7) ≤ (n32 0) → VI D 176 [vR 11 (283), vI (n32 0), vI (n32 1), vI (n32 1)] m (fun x1 m1 => ((x1 = (n32 0) → Q (n32 0) m1) ∧ (¬ x1 = (n32 0) → VU D 178 [vR 201944 (286), vI (((um m1 (283) 7 ((m1 283 7) - (n32 1))) 283 7) * (n32 243)), vR 200243 (284), vI (n32 0)] (um m1 (283) 7 ((m1 283 7) - (n32 1))) (fun m2 => Q (m2 283 7) m2) E))) E) ∧ (¬ (m 283 7) ≤ (n32 0) → VI D 176 [vR 11 (283), vI (n32 1), vI (n32 1), vI (n32 1)] m (fun x4 m4 => ((x4 = (n32 0) → Q (n32 0) m4) ∧ (¬ x4 = (n32 0) → VU D 178 [vR 201944 (286), vI (((um m4 (283) 7 ((m4 283 7) - (n32 1))) 283 7) * (n32 243)), vR 200243 (284), vI (n32 0)] (um m4 (283) 7 ((m4 283 7) - (n32 1))) (fun m5 => Q (m5 283 7) m5) E))) E))) :
    VI (D + 1) 319 [vR 11 (283)] m Q E := by
  refine V_of (VL_at (al := [(0, vR 11 (283))]) (st := []) km319 k319_0 ?_)
  refine And.intro (fun c7 => ?_) (fun c7 => ?_)
  · refine VL_norm km319 k319_2 (VL_at (al := [(0, vR 11 (283))]) (st := [vR 11 (283)]) km319 k319_2 ?_)
    refine VL_norm km319 k319_3 (VL_at (al := [(0, vR 11 (283))]) (st := [vI (n32 0), vR 11 (283)]) km319 k319_3 ?_)
    refine V_mono (h.1 c7) (fun u1 m1 h1 => ?_) (fun _ _ h => h)
    refine And.intro (fun c3 => ?_) (fun c3 => ?_)
    · refine VL_norm km319 k319_4 (VL_at (al := []) (st := []) km319 k319_4 ?_)
      exact (h1.1 c3)
    · refine VL_norm km319 k319_5 (VL_at (al := [(0, vR 11 (283))]) (st := []) km319 k319_5 ?_)
      refine V_mono (h1.2 c3) (fun u2 m2 h2 => ?_) (fun _ _ h => h)
      exact h2
  · refine VL_norm km319 k319_1 (VL_at (al := [(0, vR 11 (283))]) (st := [vR 11 (283)]) km319 k319_1 ?_)
    refine VL_norm km319 k319_3 (VL_at (al := [(0, vR 11 (283))]) (st := [vI (n32 1), vR 11 (283)]) km319 k319_3 ?_)
    refine V_mono (h.2 c7) (fun u4 m4 h4 => ?_) (fun _ _ h => h)
    refine And.intro (fun c6 => ?_) (fun c6 => ?_)
    · refine VL_norm km319 k319_4 (VL_at (al := []) (st := []) km319 k319_4 ?_)
      exact (h4.1 c6)
    · refine VL_norm km319 k319_5 (VL_at (al := [(0, vR 11 (283))]) (st := []) km319 k319_5 ?_)
      refine V_mono (h4.2 c6) (fun u5 m5 h5 => ?_) (fun _ _ h => h)
      exact h5
/-- BannerParadeModel.save, label 0 -/
theorem w321_0 {D : Nat} {v1 : Int32} {m : XM} {Q : Int32 → XM → Prop} {E : Nat → XM → Prop}
    (h : ((v1 < (n32 0) → VI (D + 1) 177 [vR 11 (283), vI (m 283 6), vI (n32 0)] m (fun x1 m1 => ((x1 = (n32 0) → Q (n32 0) m1) ∧ (¬ x1 = (n32 0) → VU (D + 1) 178 [vR 200243 (284), vI (n32 0), vR 200486 (287), vI (v1 * (n32 243))] m1 (fun m2 => (xin v1 2 = true ∧ Q ((um m2 (288) (ix v1) (n32 1)) 284 (ix (n32 9))) (um m2 (288) (ix v1) (n32 1)))) E))) E) ∧ (¬ v1 < (n32 0) → (((n32 1) < v1 → VI (D + 1) 177 [vR 11 (283), vI (m 283 6), vI (n32 0)] m (fun x4 m4 => ((x4 = (n32 0) → Q (n32 0) m4) ∧ (¬ x4 = (n32 0) → VU (D + 1) 178 [vR 200243 (284), vI (n32 0), vR 200486 (287), vI (v1 * (n32 243))] m4 (fun m5 => (xin v1 2 = true ∧ Q ((um m5 (288) (ix v1) (n32 1)) 284 (ix (n32 9))) (um m5 (288) (ix v1) (n32 1)))) E))) E) ∧ (¬ (n32 1) < v1 → VI (D + 1) 177 [vR 11 (283), vI (m 283 6), vI (n32 1)] m (fun x7 m7 => ((x7 = (n32 0) → Q (n32 0) m7) ∧ (¬ x7 = (n32 0) → VU (D + 1) 178 [vR 200243 (284), vI (n32 0), vR 200486 (287), vI (v1 * (n32 243))] m7 (fun m8 => (xin v1 2 = true ∧ Q ((um m8 (288) (ix v1) (n32 1)) 284 (ix (n32 9))) (um m8 (288) (ix v1) (n32 1)))) E))) E))))) :
    VI (D + 2) 321 [vR 11 (283), vI v1] m Q E := by
  refine V_of (VL_at (al := [(0, vR 11 (283)), (1, vI v1)]) (st := []) km321 k321_0 ?_)
  refine V_of ?_
  refine VL_norm km175 k175_0 (VL_at (al := [(0, vI v1), (1, vI (n32 0)), (2, vI (n32 1))]) (st := []) km175 k175_0 ?_)
  refine And.intro (fun c11 => ?_) (fun c11 => ?_)
  · refine VL_norm km175 k175_3 (VL_at (al := []) (st := []) km175 k175_3 ?_)
    refine VL_norm km175 k175_4 (VL_at (al := []) (st := [vI (n32 0)]) km175 k175_4 ?_)
    refine And.intro xrt20 ?_
    refine V_mono (h.1 c11) (fun u1 m1 h1 => ?_) (fun _ _ h => h)
    refine And.intro (fun c3 => ?_) (fun c3 => ?_)
    · refine VL_norm km321 k321_1 (VL_at (al := []) (st := []) km321 k321_1 ?_)
      exact (h1.1 c3)
    · refine VL_norm km321 k321_2 (VL_at (al := [(0, vR 11 (283)), (1, vI v1)]) (st := []) km321 k321_2 ?_)
      refine V_mono (h1.2 c3) (fun u2 m2 h2 => ?_) (fun _ _ h => h)
      refine And.intro h2.1 (And.intro (Or.inr rfl) ?_)
      refine And.intro (xin_k rfl) ?_
      exact h2.2
  · refine VL_norm km175 k175_1 (VL_at (al := [(0, vI v1), (2, vI (n32 1))]) (st := []) km175 k175_1 ?_)
    refine And.intro (fun c10 => ?_) (fun c10 => ?_)
    · refine VL_norm km175 k175_3 (VL_at (al := []) (st := []) km175 k175_3 ?_)
      refine VL_norm km175 k175_4 (VL_at (al := []) (st := [vI (n32 0)]) km175 k175_4 ?_)
      refine And.intro xrt20 ?_
      refine V_mono ((h.2 c11).1 c10) (fun u4 m4 h4 => ?_) (fun _ _ h => h)
      refine And.intro (fun c6 => ?_) (fun c6 => ?_)
      · refine VL_norm km321 k321_1 (VL_at (al := []) (st := []) km321 k321_1 ?_)
        exact (h4.1 c6)
      · refine VL_norm km321 k321_2 (VL_at (al := [(0, vR 11 (283)), (1, vI v1)]) (st := []) km321 k321_2 ?_)
        refine V_mono (h4.2 c6) (fun u5 m5 h5 => ?_) (fun _ _ h => h)
        refine And.intro h5.1 (And.intro (Or.inr rfl) ?_)
        refine And.intro (xin_k rfl) ?_
        exact h5.2
    · refine VL_norm km175 k175_2 (VL_at (al := []) (st := []) km175 k175_2 ?_)
      refine VL_norm km175 k175_4 (VL_at (al := []) (st := [vI (n32 1)]) km175 k175_4 ?_)
      refine And.intro xrt21 ?_
      refine V_mono ((h.2 c11).2 c10) (fun u7 m7 h7 => ?_) (fun _ _ h => h)
      refine And.intro (fun c9 => ?_) (fun c9 => ?_)
      · refine VL_norm km321 k321_1 (VL_at (al := []) (st := []) km321 k321_1 ?_)
        exact (h7.1 c9)
      · refine VL_norm km321 k321_2 (VL_at (al := [(0, vR 11 (283)), (1, vI v1)]) (st := []) km321 k321_2 ?_)
        refine V_mono (h7.2 c9) (fun u8 m8 h8 => ?_) (fun _ _ h => h)
        refine And.intro h8.1 (And.intro (Or.inr rfl) ?_)
        refine And.intro (xin_k rfl) ?_
        exact h8.2
/-- BannerParadeModel.restore, label 0 -/
theorem w322_0 {D : Nat} {v1 : Int32} {m : XM} {Q : Int32 → XM → Prop} {E : Nat → XM → Prop}
    (h : ((v1 < (n32 0) → VI (D + 1) 177 [vR 11 (283), vI (n32 0), vI (n32 0)] m (fun x1 m1 => ((x1 = (n32 0) → Q (n32 0) m1) ∧ (¬ x1 = (n32 0) → VU (D + 1) 178 [vR 200486 (287), vI (v1 * (n32 243)), vR 200243 (284), vI (n32 0)] m1 (fun m2 => Q ((um m2 (283) 7 (n32 0)) 284 (ix (n32 9))) (um m2 (283) 7 (n32 0))) E))) E) ∧ (¬ v1 < (n32 0) → (((n32 1) < v1 → VI (D + 1) 177 [vR 11 (283), vI (n32 0), vI (n32 0)] m (fun x4 m4 => ((x4 = (n32 0) → Q (n32 0) m4) ∧ (¬ x4 = (n32 0) → VU (D + 1) 178 [vR 200486 (287), vI (v1 * (n32 243)), vR 200243 (284), vI (n32 0)] m4 (fun m5 => Q ((um m5 (283) 7 (n32 0)) 284 (ix (n32 9))) (um m5 (283) 7 (n32 0))) E))) E) ∧ (¬ (n32 1) < v1 → (xin v1 2 = true ∧ (((m 288 (ix v1)) = (n32 0) → VI (D + 1) 177 [vR 11 (283), vI (n32 1), vI (n32 0)] m (fun x7 m7 => ((x7 = (n32 0) → Q (n32 0) m7) ∧ (¬ x7 = (n32 0) → VU (D + 1) 178 [vR 200486 (287), vI (v1 * (n32 243)), vR 200243 (284), vI (n32 0)] m7 (fun m8 => Q ((um m8 (283) 7 (n32 0)) 284 (ix (n32 9))) (um m8 (283) 7 (n32 0))) E))) E) ∧ (¬ (m 288 (ix v1)) = (n32 0) → VI (D + 1) 177 [vR 11 (283), vI (n32 1), vI (n32 1)] m (fun x10 m10 => ((x10 = (n32 0) → Q (n32 0) m10) ∧ (¬ x10 = (n32 0) → VU (D + 1) 178 [vR 200486 (287), vI (v1 * (n32 243)), vR 200243 (284), vI (n32 0)] m10 (fun m11 => Q ((um m11 (283) 7 (n32 0)) 284 (ix (n32 9))) (um m11 (283) 7 (n32 0))) E))) E)))))))) :
    VI (D + 2) 322 [vR 11 (283), vI v1] m Q E := by
  refine V_of (VL_at (al := [(0, vR 11 (283)), (1, vI v1)]) (st := []) km322 k322_0 ?_)
  refine V_of ?_
  refine VL_norm km175 k175_0 (VL_at (al := [(0, vI v1), (1, vI (n32 0)), (2, vI (n32 1))]) (st := []) km175 k175_0 ?_)
  refine And.intro (fun c15 => ?_) (fun c15 => ?_)
  · refine VL_norm km175 k175_3 (VL_at (al := []) (st := []) km175 k175_3 ?_)
    refine VL_norm km175 k175_4 (VL_at (al := []) (st := [vI (n32 0)]) km175 k175_4 ?_)
    refine And.intro xrt20 ?_
    refine And.intro (fun _ => ?_) (fun c => absurd (by decide) c)
    refine VL_norm km322 k322_3 (VL_at (al := [(0, vR 11 (283)), (1, vI v1)]) (st := [vI (n32 0), vR 11 (283)]) km322 k322_3 ?_)
    refine VL_norm km322 k322_4 (VL_at (al := [(0, vR 11 (283)), (1, vI v1)]) (st := [vI (n32 0), vI (n32 0), vR 11 (283)]) km322 k322_4 ?_)
    refine V_mono (h.1 c15) (fun u1 m1 h1 => ?_) (fun _ _ h => h)
    refine And.intro (fun c3 => ?_) (fun c3 => ?_)
    · refine VL_norm km322 k322_5 (VL_at (al := []) (st := []) km322 k322_5 ?_)
      exact (h1.1 c3)
    · refine VL_norm km322 k322_6 (VL_at (al := [(0, vR 11 (283)), (1, vI v1)]) (st := []) km322 k322_6 ?_)
      refine V_mono (h1.2 c3) (fun u2 m2 h2 => ?_) (fun _ _ h => h)
      refine And.intro (xin_k rfl) ?_
      exact h2
  · refine VL_norm km175 k175_1 (VL_at (al := [(0, vI v1), (2, vI (n32 1))]) (st := []) km175 k175_1 ?_)
    refine And.intro (fun c14 => ?_) (fun c14 => ?_)
    · refine VL_norm km175 k175_3 (VL_at (al := []) (st := []) km175 k175_3 ?_)
      refine VL_norm km175 k175_4 (VL_at (al := []) (st := [vI (n32 0)]) km175 k175_4 ?_)
      refine And.intro xrt20 ?_
      refine And.intro (fun _ => ?_) (fun c => absurd (by decide) c)
      refine VL_norm km322 k322_3 (VL_at (al := [(0, vR 11 (283)), (1, vI v1)]) (st := [vI (n32 0), vR 11 (283)]) km322 k322_3 ?_)
      refine VL_norm km322 k322_4 (VL_at (al := [(0, vR 11 (283)), (1, vI v1)]) (st := [vI (n32 0), vI (n32 0), vR 11 (283)]) km322 k322_4 ?_)
      refine V_mono ((h.2 c15).1 c14) (fun u4 m4 h4 => ?_) (fun _ _ h => h)
      refine And.intro (fun c6 => ?_) (fun c6 => ?_)
      · refine VL_norm km322 k322_5 (VL_at (al := []) (st := []) km322 k322_5 ?_)
        exact (h4.1 c6)
      · refine VL_norm km322 k322_6 (VL_at (al := [(0, vR 11 (283)), (1, vI v1)]) (st := []) km322 k322_6 ?_)
        refine V_mono (h4.2 c6) (fun u5 m5 h5 => ?_) (fun _ _ h => h)
        refine And.intro (xin_k rfl) ?_
        exact h5
    · refine VL_norm km175 k175_2 (VL_at (al := []) (st := []) km175 k175_2 ?_)
      refine VL_norm km175 k175_4 (VL_at (al := []) (st := [vI (n32 1)]) km175 k175_4 ?_)
      refine And.intro xrt21 ?_
      refine And.intro (fun c => absurd c (by decide)) (fun _ => ?_)
      refine VL_norm km322 k322_1 (VL_at (al := [(0, vR 11 (283)), (1, vI v1)]) (st := [vI (n32 1), vR 11 (283)]) km322 k322_1 ?_)
      refine And.intro ((h.2 c15).2 c14).1 ?_
      refine And.intro (fun c13 => ?_) (fun c13 => ?_)
      · refine VL_norm km322 k322_3 (VL_at (al := [(0, vR 11 (283)), (1, vI v1)]) (st := [vI (n32 1), vR 11 (283)]) km322 k322_3 ?_)
        refine VL_norm km322 k322_4 (VL_at (al := [(0, vR 11 (283)), (1, vI v1)]) (st := [vI (n32 0), vI (n32 1), vR 11 (283)]) km322 k322_4 ?_)
        refine V_mono (((h.2 c15).2 c14).2.1 c13) (fun u7 m7 h7 => ?_) (fun _ _ h => h)
        refine And.intro (fun c9 => ?_) (fun c9 => ?_)
        · refine VL_norm km322 k322_5 (VL_at (al := []) (st := []) km322 k322_5 ?_)
          exact (h7.1 c9)
        · refine VL_norm km322 k322_6 (VL_at (al := [(0, vR 11 (283)), (1, vI v1)]) (st := []) km322 k322_6 ?_)
          refine V_mono (h7.2 c9) (fun u8 m8 h8 => ?_) (fun _ _ h => h)
          refine And.intro (xin_k rfl) ?_
          exact h8
      · refine VL_norm km322 k322_2 (VL_at (al := [(0, vR 11 (283)), (1, vI v1)]) (st := [vI (n32 1), vR 11 (283)]) km322 k322_2 ?_)
        refine VL_norm km322 k322_4 (VL_at (al := [(0, vR 11 (283)), (1, vI v1)]) (st := [vI (n32 1), vI (n32 1), vR 11 (283)]) km322 k322_4 ?_)
        refine V_mono (((h.2 c15).2 c14).2.2 c13) (fun u10 m10 h10 => ?_) (fun _ _ h => h)
        refine And.intro (fun c12 => ?_) (fun c12 => ?_)
        · refine VL_norm km322 k322_5 (VL_at (al := []) (st := []) km322 k322_5 ?_)
          exact (h10.1 c12)
        · refine VL_norm km322 k322_6 (VL_at (al := [(0, vR 11 (283)), (1, vI v1)]) (st := []) km322 k322_6 ?_)
          refine V_mono (h10.2 c12) (fun u11 m11 h11 => ?_) (fun _ _ h => h)
          refine And.intro (xin_k rfl) ?_
          exact h11
/-- Math.abs, label 0 -/
theorem w384_0 {D : Nat} {v0 : Int32} {m : XM} {Q : Int32 → XM → Prop} {E : Nat → XM → Prop}
    (h : (((n32 0) ≤ v0 → Q v0 m) ∧ (¬ (n32 0) ≤ v0 → Q ((-v0)) m))) :
    VI D 384 [vI v0] m Q E := by
  refine V_of (VL_at (al := [(0, vI v0)]) (st := []) km384 k384_0 ?_)
  refine And.intro (fun c1 => ?_) (fun c1 => ?_)
  · refine VL_norm km384 k384_2 (VL_at (al := [(0, vI v0)]) (st := []) km384 k384_2 ?_)
    refine VL_norm km384 k384_3 (VL_at (al := []) (st := [vI v0]) km384 k384_3 ?_)
    exact (h.1 c1)
  · refine VL_norm km384 k384_1 (VL_at (al := [(0, vI v0)]) (st := []) km384 k384_1 ?_)
    refine VL_norm km384 k384_3 (VL_at (al := []) (st := [vI ((-v0))]) km384 k384_3 ?_)
    exact (h.2 c1)
/-- Math.max, label 0 -/
theorem w385_0 {D : Nat} {v0 : Int32} {v1 : Int32} {m : XM} {Q : Int32 → XM → Prop} {E : Nat → XM → Prop}
    (h : ((v0 < v1 → Q v1 m) ∧ (¬ v0 < v1 → Q v0 m))) :
    VI D 385 [vI v0, vI v1] m Q E := by
  refine V_of (VL_at (al := [(0, vI v0), (1, vI v1)]) (st := []) km385 k385_0 ?_)
  refine And.intro (fun c1 => ?_) (fun c1 => ?_)
  · refine VL_norm km385 k385_2 (VL_at (al := [(1, vI v1)]) (st := []) km385 k385_2 ?_)
    refine VL_norm km385 k385_3 (VL_at (al := []) (st := [vI v1]) km385 k385_3 ?_)
    exact (h.1 c1)
  · refine VL_norm km385 k385_1 (VL_at (al := [(0, vI v0)]) (st := []) km385 k385_1 ?_)
    refine VL_norm km385 k385_3 (VL_at (al := []) (st := [vI v0]) km385 k385_3 ?_)
    exact (h.2 c1)
/-- Math.min, label 0 -/
theorem w386_0 {D : Nat} {v0 : Int32} {v1 : Int32} {m : XM} {Q : Int32 → XM → Prop} {E : Nat → XM → Prop}
    (h : ((v1 < v0 → Q v1 m) ∧ (¬ v1 < v0 → Q v0 m))) :
    VI D 386 [vI v0, vI v1] m Q E := by
  refine V_of (VL_at (al := [(0, vI v0), (1, vI v1)]) (st := []) km386 k386_0 ?_)
  refine And.intro (fun c1 => ?_) (fun c1 => ?_)
  · refine VL_norm km386 k386_2 (VL_at (al := [(1, vI v1)]) (st := []) km386 k386_2 ?_)
    refine VL_norm km386 k386_3 (VL_at (al := []) (st := [vI v1]) km386 k386_3 ?_)
    exact (h.1 c1)
  · refine VL_norm km386 k386_1 (VL_at (al := [(0, vI v0)]) (st := []) km386 k386_1 ?_)
    refine VL_norm km386 k386_3 (VL_at (al := []) (st := [vI v0]) km386 k386_3 ?_)
    exact (h.2 c1)
/-- String.length, label 0 -/
theorem w391s1_0 {D : Nat}  {m : XM} {Q : Int32 → XM → Prop} {E : Nat → XM → Prop}
    (h : Q ((n32 6) >>> (0 &&& 31)) m) :
    VI (D + 1) 391 [vR 30 (1000011)] m Q E := by
  refine V_of (VL_at (al := [(0, vR 30 (1000011))]) (st := []) km391 k391_0 ?_)
  refine V_of ?_
  refine VL_norm km393 k393_0 (VL_at (al := [(0, vR 30 (1000011))]) (st := []) km393 k393_0 ?_)
  refine And.intro (fun c => absurd c (by decide)) (fun _ => ?_)
  refine VL_norm km393 k393_1 (VL_at (al := [(0, vR 30 (1000011))]) (st := []) km393 k393_1 ?_)
  refine VL_norm km393 k393_3 (VL_at (al := []) (st := [vI 0]) km393 k393_3 ?_)
  refine And.intro rfl ?_
  exact h
/-- String.charAt, label 0 -/
theorem w392s1_0 {D : Nat} {v1 : Int32} {m : XM} {Q : Int32 → XM → Prop} {E : Nat → XM → Prop}
    (h : ((v1 < (n32 0) → False) ∧ (¬ v1 < (n32 0) → ((v1 < (n32 6) → (xin v1 6 = true ∧ (xrt 4 (((((([112, 97, 114, 97, 100, 101] : List Int32).getD (ix v1) 0) &&& (n32 255))).toUInt32 % 65536).toInt32) = true ∧ (xrt 4 (((((([112, 97, 114, 97, 100, 101] : List Int32).getD (ix v1) 0) &&& (n32 255))).toUInt32 % 65536).toInt32) = true ∧ Q (((((([112, 97, 114, 97, 100, 101] : List Int32).getD (ix v1) 0) &&& (n32 255))).toUInt32 % 65536).toInt32) m)))) ∧ (¬ v1 < (n32 6) → False))))) :
    VI (D + 3) 392 [vR 30 (1000011), vI v1] m Q E := by
  refine V_of (VL_at (al := [(0, vR 30 (1000011)), (1, vI v1)]) (st := []) km392 k392_0 ?_)
  refine V_of ?_
  refine VL_norm km394 k394_0 (VL_at (al := [(0, vR 30 (1000011))]) (st := []) km394 k394_0 ?_)
  refine And.intro (fun c => absurd c (by decide)) (fun _ => ?_)
  refine VL_norm km394 k394_1 (VL_at (al := [(0, vR 30 (1000011))]) (st := []) km394 k394_1 ?_)
  refine And.intro (fun _ => ?_) (fun c => absurd (by decide) c)
  refine VL_norm km394 k394_2 (VL_at (al := []) (st := []) km394 k394_2 ?_)
  refine VL_norm km394 k394_4 (VL_at (al := []) (st := [vI (n32 1)]) km394 k394_4 ?_)
  refine And.intro xrt21 ?_
  refine And.intro (fun c => absurd c (by decide)) (fun _ => ?_)
  refine VL_norm km392 k392_1 (VL_at (al := [(0, vR 30 (1000011)), (1, vI v1)]) (st := []) km392 k392_1 ?_)
  refine V_of ?_
  refine VL_norm km396 k396_0 (VL_at (al := [(0, vR 31 (1000011 + 30)), (1, vI v1)]) (st := []) km396 k396_0 ?_)
  refine V_of ?_
  refine VL_norm km395 k395_0 (VL_at (al := [(0, vI v1), (1, vI (n32 6))]) (st := []) km395 k395_0 ?_)
  refine V_of ?_
  refine VL_norm km397 k397_0 (VL_at (al := [(0, vI v1), (1, vI (n32 6)), (2, Sum.inl (Value.retAddr 0))]) (st := []) km397 k397_0 ?_)
  refine And.intro (fun c2 => ?_) (fun c2 => ?_)
  · refine VL_norm km397 k397_2 (VL_at (al := [(0, vI v1), (1, vI (n32 6)), (2, Sum.inl (Value.retAddr 0))]) (st := []) km397 k397_2 ?_)
    exact False.elim (h.1 c2)
  · refine VL_norm km397 k397_1 (VL_at (al := [(0, vI v1), (1, vI (n32 6)), (2, Sum.inl (Value.retAddr 0))]) (st := []) km397 k397_1 ?_)
    refine And.intro (fun c1 => ?_) (fun c1 => ?_)
    · refine VL_norm km397 k397_3 (VL_at (al := [(0, vI v1)]) (st := []) km397 k397_3 ?_)
      refine And.intro ((h.2 c2).1 c1).1 ?_
      refine And.intro ((h.2 c2).1 c1).2.1 ?_
      refine And.intro ((h.2 c2).1 c1).2.2.1 ?_
      exact ((h.2 c2).1 c1).2.2.2
    · refine VL_norm km397 k397_2 (VL_at (al := [(0, vI v1), (1, vI (n32 6)), (2, Sum.inl (Value.retAddr 0))]) (st := []) km397 k397_2 ?_)
      exact False.elim ((h.2 c2).2 c1)
/-- String.length, label 0 -/
theorem w391s2_0 {D : Nat}  {m : XM} {Q : Int32 → XM → Prop} {E : Nat → XM → Prop}
    (h : Q ((n32 6) >>> (0 &&& 31)) m) :
    VI (D + 1) 391 [vR 30 (1000012)] m Q E := by
  refine V_of (VL_at (al := [(0, vR 30 (1000012))]) (st := []) km391 k391_0 ?_)
  refine V_of ?_
  refine VL_norm km393 k393_0 (VL_at (al := [(0, vR 30 (1000012))]) (st := []) km393 k393_0 ?_)
  refine And.intro (fun c => absurd c (by decide)) (fun _ => ?_)
  refine VL_norm km393 k393_1 (VL_at (al := [(0, vR 30 (1000012))]) (st := []) km393 k393_1 ?_)
  refine VL_norm km393 k393_3 (VL_at (al := []) (st := [vI 0]) km393 k393_3 ?_)
  refine And.intro rfl ?_
  exact h
/-- String.charAt, label 0 -/
theorem w392s2_0 {D : Nat} {v1 : Int32} {m : XM} {Q : Int32 → XM → Prop} {E : Nat → XM → Prop}
    (h : ((v1 < (n32 0) → False) ∧ (¬ v1 < (n32 0) → ((v1 < (n32 6) → (xin v1 6 = true ∧ (xrt 4 (((((([98, 101, 97, 114, 101, 114] : List Int32).getD (ix v1) 0) &&& (n32 255))).toUInt32 % 65536).toInt32) = true ∧ (xrt 4 (((((([98, 101, 97, 114, 101, 114] : List Int32).getD (ix v1) 0) &&& (n32 255))).toUInt32 % 65536).toInt32) = true ∧ Q (((((([98, 101, 97, 114, 101, 114] : List Int32).getD (ix v1) 0) &&& (n32 255))).toUInt32 % 65536).toInt32) m)))) ∧ (¬ v1 < (n32 6) → False))))) :
    VI (D + 3) 392 [vR 30 (1000012), vI v1] m Q E := by
  refine V_of (VL_at (al := [(0, vR 30 (1000012)), (1, vI v1)]) (st := []) km392 k392_0 ?_)
  refine V_of ?_
  refine VL_norm km394 k394_0 (VL_at (al := [(0, vR 30 (1000012))]) (st := []) km394 k394_0 ?_)
  refine And.intro (fun c => absurd c (by decide)) (fun _ => ?_)
  refine VL_norm km394 k394_1 (VL_at (al := [(0, vR 30 (1000012))]) (st := []) km394 k394_1 ?_)
  refine And.intro (fun _ => ?_) (fun c => absurd (by decide) c)
  refine VL_norm km394 k394_2 (VL_at (al := []) (st := []) km394 k394_2 ?_)
  refine VL_norm km394 k394_4 (VL_at (al := []) (st := [vI (n32 1)]) km394 k394_4 ?_)
  refine And.intro xrt21 ?_
  refine And.intro (fun c => absurd c (by decide)) (fun _ => ?_)
  refine VL_norm km392 k392_1 (VL_at (al := [(0, vR 30 (1000012)), (1, vI v1)]) (st := []) km392 k392_1 ?_)
  refine V_of ?_
  refine VL_norm km396 k396_0 (VL_at (al := [(0, vR 31 (1000012 + 30)), (1, vI v1)]) (st := []) km396 k396_0 ?_)
  refine V_of ?_
  refine VL_norm km395 k395_0 (VL_at (al := [(0, vI v1), (1, vI (n32 6))]) (st := []) km395 k395_0 ?_)
  refine V_of ?_
  refine VL_norm km397 k397_0 (VL_at (al := [(0, vI v1), (1, vI (n32 6)), (2, Sum.inl (Value.retAddr 0))]) (st := []) km397 k397_0 ?_)
  refine And.intro (fun c2 => ?_) (fun c2 => ?_)
  · refine VL_norm km397 k397_2 (VL_at (al := [(0, vI v1), (1, vI (n32 6)), (2, Sum.inl (Value.retAddr 0))]) (st := []) km397 k397_2 ?_)
    exact False.elim (h.1 c2)
  · refine VL_norm km397 k397_1 (VL_at (al := [(0, vI v1), (1, vI (n32 6)), (2, Sum.inl (Value.retAddr 0))]) (st := []) km397 k397_1 ?_)
    refine And.intro (fun c1 => ?_) (fun c1 => ?_)
    · refine VL_norm km397 k397_3 (VL_at (al := [(0, vI v1)]) (st := []) km397 k397_3 ?_)
      refine And.intro ((h.2 c2).1 c1).1 ?_
      refine And.intro ((h.2 c2).1 c1).2.1 ?_
      refine And.intro ((h.2 c2).1 c1).2.2.1 ?_
      exact ((h.2 c2).1 c1).2.2.2
    · refine VL_norm km397 k397_2 (VL_at (al := [(0, vI v1), (1, vI (n32 6)), (2, Sum.inl (Value.retAddr 0))]) (st := []) km397 k397_2 ?_)
      exact False.elim ((h.2 c2).2 c1)
/-- String.length, label 0 -/
theorem w391s3_0 {D : Nat}  {m : XM} {Q : Int32 → XM → Prop} {E : Nat → XM → Prop}
    (h : Q ((n32 5) >>> (0 &&& 31)) m) :
    VI (D + 1) 391 [vR 30 (1000013)] m Q E := by
  refine V_of (VL_at (al := [(0, vR 30 (1000013))]) (st := []) km391 k391_0 ?_)
  refine V_of ?_
  refine VL_norm km393 k393_0 (VL_at (al := [(0, vR 30 (1000013))]) (st := []) km393 k393_0 ?_)
  refine And.intro (fun c => absurd c (by decide)) (fun _ => ?_)
  refine VL_norm km393 k393_1 (VL_at (al := [(0, vR 30 (1000013))]) (st := []) km393 k393_1 ?_)
  refine VL_norm km393 k393_3 (VL_at (al := []) (st := [vI 0]) km393 k393_3 ?_)
  refine And.intro rfl ?_
  exact h
/-- String.charAt, label 0 -/
theorem w392s3_0 {D : Nat} {v1 : Int32} {m : XM} {Q : Int32 → XM → Prop} {E : Nat → XM → Prop}
    (h : ((v1 < (n32 0) → False) ∧ (¬ v1 < (n32 0) → ((v1 < (n32 5) → (xin v1 5 = true ∧ (xrt 4 (((((([115, 116, 97, 110, 100] : List Int32).getD (ix v1) 0) &&& (n32 255))).toUInt32 % 65536).toInt32) = true ∧ (xrt 4 (((((([115, 116, 97, 110, 100] : List Int32).getD (ix v1) 0) &&& (n32 255))).toUInt32 % 65536).toInt32) = true ∧ Q (((((([115, 116, 97, 110, 100] : List Int32).getD (ix v1) 0) &&& (n32 255))).toUInt32 % 65536).toInt32) m)))) ∧ (¬ v1 < (n32 5) → False))))) :
    VI (D + 3) 392 [vR 30 (1000013), vI v1] m Q E := by
  refine V_of (VL_at (al := [(0, vR 30 (1000013)), (1, vI v1)]) (st := []) km392 k392_0 ?_)
  refine V_of ?_
  refine VL_norm km394 k394_0 (VL_at (al := [(0, vR 30 (1000013))]) (st := []) km394 k394_0 ?_)
  refine And.intro (fun c => absurd c (by decide)) (fun _ => ?_)
  refine VL_norm km394 k394_1 (VL_at (al := [(0, vR 30 (1000013))]) (st := []) km394 k394_1 ?_)
  refine And.intro (fun _ => ?_) (fun c => absurd (by decide) c)
  refine VL_norm km394 k394_2 (VL_at (al := []) (st := []) km394 k394_2 ?_)
  refine VL_norm km394 k394_4 (VL_at (al := []) (st := [vI (n32 1)]) km394 k394_4 ?_)
  refine And.intro xrt21 ?_
  refine And.intro (fun c => absurd c (by decide)) (fun _ => ?_)
  refine VL_norm km392 k392_1 (VL_at (al := [(0, vR 30 (1000013)), (1, vI v1)]) (st := []) km392 k392_1 ?_)
  refine V_of ?_
  refine VL_norm km396 k396_0 (VL_at (al := [(0, vR 31 (1000013 + 30)), (1, vI v1)]) (st := []) km396 k396_0 ?_)
  refine V_of ?_
  refine VL_norm km395 k395_0 (VL_at (al := [(0, vI v1), (1, vI (n32 5))]) (st := []) km395 k395_0 ?_)
  refine V_of ?_
  refine VL_norm km397 k397_0 (VL_at (al := [(0, vI v1), (1, vI (n32 5)), (2, Sum.inl (Value.retAddr 0))]) (st := []) km397 k397_0 ?_)
  refine And.intro (fun c2 => ?_) (fun c2 => ?_)
  · refine VL_norm km397 k397_2 (VL_at (al := [(0, vI v1), (1, vI (n32 5)), (2, Sum.inl (Value.retAddr 0))]) (st := []) km397 k397_2 ?_)
    exact False.elim (h.1 c2)
  · refine VL_norm km397 k397_1 (VL_at (al := [(0, vI v1), (1, vI (n32 5)), (2, Sum.inl (Value.retAddr 0))]) (st := []) km397 k397_1 ?_)
    refine And.intro (fun c1 => ?_) (fun c1 => ?_)
    · refine VL_norm km397 k397_3 (VL_at (al := [(0, vI v1)]) (st := []) km397 k397_3 ?_)
      refine And.intro ((h.2 c2).1 c1).1 ?_
      refine And.intro ((h.2 c2).1 c1).2.1 ?_
      refine And.intro ((h.2 c2).1 c1).2.2.1 ?_
      exact ((h.2 c2).1 c1).2.2.2
    · refine VL_norm km397 k397_2 (VL_at (al := [(0, vI v1), (1, vI (n32 5)), (2, Sum.inl (Value.retAddr 0))]) (st := []) km397 k397_2 ?_)
      exact False.elim ((h.2 c2).2 c1)
/-- String.length, label 0 -/
theorem w391s4_0 {D : Nat}  {m : XM} {Q : Int32 → XM → Prop} {E : Nat → XM → Prop}
    (h : Q ((n32 5) >>> (0 &&& 31)) m) :
    VI (D + 1) 391 [vR 30 (1000014)] m Q E := by
  refine V_of (VL_at (al := [(0, vR 30 (1000014))]) (st := []) km391 k391_0 ?_)
  refine V_of ?_
  refine VL_norm km393 k393_0 (VL_at (al := [(0, vR 30 (1000014))]) (st := []) km393 k393_0 ?_)
  refine And.intro (fun c => absurd c (by decide)) (fun _ => ?_)
  refine VL_norm km393 k393_1 (VL_at (al := [(0, vR 30 (1000014))]) (st := []) km393 k393_1 ?_)
  refine VL_norm km393 k393_3 (VL_at (al := []) (st := [vI 0]) km393 k393_3 ?_)
  refine And.intro rfl ?_
  exact h
/-- String.charAt, label 0 -/
theorem w392s4_0 {D : Nat} {v1 : Int32} {m : XM} {Q : Int32 → XM → Prop} {E : Nat → XM → Prop}
    (h : ((v1 < (n32 0) → False) ∧ (¬ v1 < (n32 0) → ((v1 < (n32 5) → (xin v1 5 = true ∧ (xrt 4 (((((([114, 105, 103, 104, 116] : List Int32).getD (ix v1) 0) &&& (n32 255))).toUInt32 % 65536).toInt32) = true ∧ (xrt 4 (((((([114, 105, 103, 104, 116] : List Int32).getD (ix v1) 0) &&& (n32 255))).toUInt32 % 65536).toInt32) = true ∧ Q (((((([114, 105, 103, 104, 116] : List Int32).getD (ix v1) 0) &&& (n32 255))).toUInt32 % 65536).toInt32) m)))) ∧ (¬ v1 < (n32 5) → False))))) :
    VI (D + 3) 392 [vR 30 (1000014), vI v1] m Q E := by
  refine V_of (VL_at (al := [(0, vR 30 (1000014)), (1, vI v1)]) (st := []) km392 k392_0 ?_)
  refine V_of ?_
  refine VL_norm km394 k394_0 (VL_at (al := [(0, vR 30 (1000014))]) (st := []) km394 k394_0 ?_)
  refine And.intro (fun c => absurd c (by decide)) (fun _ => ?_)
  refine VL_norm km394 k394_1 (VL_at (al := [(0, vR 30 (1000014))]) (st := []) km394 k394_1 ?_)
  refine And.intro (fun _ => ?_) (fun c => absurd (by decide) c)
  refine VL_norm km394 k394_2 (VL_at (al := []) (st := []) km394 k394_2 ?_)
  refine VL_norm km394 k394_4 (VL_at (al := []) (st := [vI (n32 1)]) km394 k394_4 ?_)
  refine And.intro xrt21 ?_
  refine And.intro (fun c => absurd c (by decide)) (fun _ => ?_)
  refine VL_norm km392 k392_1 (VL_at (al := [(0, vR 30 (1000014)), (1, vI v1)]) (st := []) km392 k392_1 ?_)
  refine V_of ?_
  refine VL_norm km396 k396_0 (VL_at (al := [(0, vR 31 (1000014 + 30)), (1, vI v1)]) (st := []) km396 k396_0 ?_)
  refine V_of ?_
  refine VL_norm km395 k395_0 (VL_at (al := [(0, vI v1), (1, vI (n32 5))]) (st := []) km395 k395_0 ?_)
  refine V_of ?_
  refine VL_norm km397 k397_0 (VL_at (al := [(0, vI v1), (1, vI (n32 5)), (2, Sum.inl (Value.retAddr 0))]) (st := []) km397 k397_0 ?_)
  refine And.intro (fun c2 => ?_) (fun c2 => ?_)
  · refine VL_norm km397 k397_2 (VL_at (al := [(0, vI v1), (1, vI (n32 5)), (2, Sum.inl (Value.retAddr 0))]) (st := []) km397 k397_2 ?_)
    exact False.elim (h.1 c2)
  · refine VL_norm km397 k397_1 (VL_at (al := [(0, vI v1), (1, vI (n32 5)), (2, Sum.inl (Value.retAddr 0))]) (st := []) km397 k397_1 ?_)
    refine And.intro (fun c1 => ?_) (fun c1 => ?_)
    · refine VL_norm km397 k397_3 (VL_at (al := [(0, vI v1)]) (st := []) km397 k397_3 ?_)
      refine And.intro ((h.2 c2).1 c1).1 ?_
      refine And.intro ((h.2 c2).1 c1).2.1 ?_
      refine And.intro ((h.2 c2).1 c1).2.2.1 ?_
      exact ((h.2 c2).1 c1).2.2.2
    · refine VL_norm km397 k397_2 (VL_at (al := [(0, vI v1), (1, vI (n32 5)), (2, Sum.inl (Value.retAddr 0))]) (st := []) km397 k397_2 ?_)
      exact False.elim ((h.2 c2).2 c1)
/-- String.length, label 0 -/
theorem w391s5_0 {D : Nat}  {m : XM} {Q : Int32 → XM → Prop} {E : Nat → XM → Prop}
    (h : Q ((n32 4) >>> (0 &&& 31)) m) :
    VI (D + 1) 391 [vR 30 (1000015)] m Q E := by
  refine V_of (VL_at (al := [(0, vR 30 (1000015))]) (st := []) km391 k391_0 ?_)
  refine V_of ?_
  refine VL_norm km393 k393_0 (VL_at (al := [(0, vR 30 (1000015))]) (st := []) km393 k393_0 ?_)
  refine And.intro (fun c => absurd c (by decide)) (fun _ => ?_)
  refine VL_norm km393 k393_1 (VL_at (al := [(0, vR 30 (1000015))]) (st := []) km393 k393_1 ?_)
  refine VL_norm km393 k393_3 (VL_at (al := []) (st := [vI 0]) km393 k393_3 ?_)
  refine And.intro rfl ?_
  exact h
/-- String.charAt, label 0 -/
theorem w392s5_0 {D : Nat} {v1 : Int32} {m : XM} {Q : Int32 → XM → Prop} {E : Nat → XM → Prop}
    (h : ((v1 < (n32 0) → False) ∧ (¬ v1 < (n32 0) → ((v1 < (n32 4) → (xin v1 4 = true ∧ (xrt 4 (((((([108, 101, 102, 116] : List Int32).getD (ix v1) 0) &&& (n32 255))).toUInt32 % 65536).toInt32) = true ∧ (xrt 4 (((((([108, 101, 102, 116] : List Int32).getD (ix v1) 0) &&& (n32 255))).toUInt32 % 65536).toInt32) = true ∧ Q (((((([108, 101, 102, 116] : List Int32).getD (ix v1) 0) &&& (n32 255))).toUInt32 % 65536).toInt32) m)))) ∧ (¬ v1 < (n32 4) → False))))) :
    VI (D + 3) 392 [vR 30 (1000015), vI v1] m Q E := by
  refine V_of (VL_at (al := [(0, vR 30 (1000015)), (1, vI v1)]) (st := []) km392 k392_0 ?_)
  refine V_of ?_
  refine VL_norm km394 k394_0 (VL_at (al := [(0, vR 30 (1000015))]) (st := []) km394 k394_0 ?_)
  refine And.intro (fun c => absurd c (by decide)) (fun _ => ?_)
  refine VL_norm km394 k394_1 (VL_at (al := [(0, vR 30 (1000015))]) (st := []) km394 k394_1 ?_)
  refine And.intro (fun _ => ?_) (fun c => absurd (by decide) c)
  refine VL_norm km394 k394_2 (VL_at (al := []) (st := []) km394 k394_2 ?_)
  refine VL_norm km394 k394_4 (VL_at (al := []) (st := [vI (n32 1)]) km394 k394_4 ?_)
  refine And.intro xrt21 ?_
  refine And.intro (fun c => absurd c (by decide)) (fun _ => ?_)
  refine VL_norm km392 k392_1 (VL_at (al := [(0, vR 30 (1000015)), (1, vI v1)]) (st := []) km392 k392_1 ?_)
  refine V_of ?_
  refine VL_norm km396 k396_0 (VL_at (al := [(0, vR 31 (1000015 + 30)), (1, vI v1)]) (st := []) km396 k396_0 ?_)
  refine V_of ?_
  refine VL_norm km395 k395_0 (VL_at (al := [(0, vI v1), (1, vI (n32 4))]) (st := []) km395 k395_0 ?_)
  refine V_of ?_
  refine VL_norm km397 k397_0 (VL_at (al := [(0, vI v1), (1, vI (n32 4)), (2, Sum.inl (Value.retAddr 0))]) (st := []) km397 k397_0 ?_)
  refine And.intro (fun c2 => ?_) (fun c2 => ?_)
  · refine VL_norm km397 k397_2 (VL_at (al := [(0, vI v1), (1, vI (n32 4)), (2, Sum.inl (Value.retAddr 0))]) (st := []) km397 k397_2 ?_)
    exact False.elim (h.1 c2)
  · refine VL_norm km397 k397_1 (VL_at (al := [(0, vI v1), (1, vI (n32 4)), (2, Sum.inl (Value.retAddr 0))]) (st := []) km397 k397_1 ?_)
    refine And.intro (fun c1 => ?_) (fun c1 => ?_)
    · refine VL_norm km397 k397_3 (VL_at (al := [(0, vI v1)]) (st := []) km397 k397_3 ?_)
      refine And.intro ((h.2 c2).1 c1).1 ?_
      refine And.intro ((h.2 c2).1 c1).2.1 ?_
      refine And.intro ((h.2 c2).1 c1).2.2.1 ?_
      exact ((h.2 c2).1 c1).2.2.2
    · refine VL_norm km397 k397_2 (VL_at (al := [(0, vI v1), (1, vI (n32 4)), (2, Sum.inl (Value.retAddr 0))]) (st := []) km397 k397_2 ?_)
      exact False.elim ((h.2 c2).2 c1)
/-- String.length, label 0 -/
theorem w391s6_0 {D : Nat}  {m : XM} {Q : Int32 → XM → Prop} {E : Nat → XM → Prop}
    (h : Q ((n32 4) >>> (0 &&& 31)) m) :
    VI (D + 1) 391 [vR 30 (1000016)] m Q E := by
  refine V_of (VL_at (al := [(0, vR 30 (1000016))]) (st := []) km391 k391_0 ?_)
  refine V_of ?_
  refine VL_norm km393 k393_0 (VL_at (al := [(0, vR 30 (1000016))]) (st := []) km393 k393_0 ?_)
  refine And.intro (fun c => absurd c (by decide)) (fun _ => ?_)
  refine VL_norm km393 k393_1 (VL_at (al := [(0, vR 30 (1000016))]) (st := []) km393 k393_1 ?_)
  refine VL_norm km393 k393_3 (VL_at (al := []) (st := [vI 0]) km393 k393_3 ?_)
  refine And.intro rfl ?_
  exact h
/-- String.charAt, label 0 -/
theorem w392s6_0 {D : Nat} {v1 : Int32} {m : XM} {Q : Int32 → XM → Prop} {E : Nat → XM → Prop}
    (h : ((v1 < (n32 0) → False) ∧ (¬ v1 < (n32 0) → ((v1 < (n32 4) → (xin v1 4 = true ∧ (xrt 4 (((((([112, 108, 97, 110] : List Int32).getD (ix v1) 0) &&& (n32 255))).toUInt32 % 65536).toInt32) = true ∧ (xrt 4 (((((([112, 108, 97, 110] : List Int32).getD (ix v1) 0) &&& (n32 255))).toUInt32 % 65536).toInt32) = true ∧ Q (((((([112, 108, 97, 110] : List Int32).getD (ix v1) 0) &&& (n32 255))).toUInt32 % 65536).toInt32) m)))) ∧ (¬ v1 < (n32 4) → False))))) :
    VI (D + 3) 392 [vR 30 (1000016), vI v1] m Q E := by
  refine V_of (VL_at (al := [(0, vR 30 (1000016)), (1, vI v1)]) (st := []) km392 k392_0 ?_)
  refine V_of ?_
  refine VL_norm km394 k394_0 (VL_at (al := [(0, vR 30 (1000016))]) (st := []) km394 k394_0 ?_)
  refine And.intro (fun c => absurd c (by decide)) (fun _ => ?_)
  refine VL_norm km394 k394_1 (VL_at (al := [(0, vR 30 (1000016))]) (st := []) km394 k394_1 ?_)
  refine And.intro (fun _ => ?_) (fun c => absurd (by decide) c)
  refine VL_norm km394 k394_2 (VL_at (al := []) (st := []) km394 k394_2 ?_)
  refine VL_norm km394 k394_4 (VL_at (al := []) (st := [vI (n32 1)]) km394 k394_4 ?_)
  refine And.intro xrt21 ?_
  refine And.intro (fun c => absurd c (by decide)) (fun _ => ?_)
  refine VL_norm km392 k392_1 (VL_at (al := [(0, vR 30 (1000016)), (1, vI v1)]) (st := []) km392 k392_1 ?_)
  refine V_of ?_
  refine VL_norm km396 k396_0 (VL_at (al := [(0, vR 31 (1000016 + 30)), (1, vI v1)]) (st := []) km396 k396_0 ?_)
  refine V_of ?_
  refine VL_norm km395 k395_0 (VL_at (al := [(0, vI v1), (1, vI (n32 4))]) (st := []) km395 k395_0 ?_)
  refine V_of ?_
  refine VL_norm km397 k397_0 (VL_at (al := [(0, vI v1), (1, vI (n32 4)), (2, Sum.inl (Value.retAddr 0))]) (st := []) km397 k397_0 ?_)
  refine And.intro (fun c2 => ?_) (fun c2 => ?_)
  · refine VL_norm km397 k397_2 (VL_at (al := [(0, vI v1), (1, vI (n32 4)), (2, Sum.inl (Value.retAddr 0))]) (st := []) km397 k397_2 ?_)
    exact False.elim (h.1 c2)
  · refine VL_norm km397 k397_1 (VL_at (al := [(0, vI v1), (1, vI (n32 4)), (2, Sum.inl (Value.retAddr 0))]) (st := []) km397 k397_1 ?_)
    refine And.intro (fun c1 => ?_) (fun c1 => ?_)
    · refine VL_norm km397 k397_3 (VL_at (al := [(0, vI v1)]) (st := []) km397 k397_3 ?_)
      refine And.intro ((h.2 c2).1 c1).1 ?_
      refine And.intro ((h.2 c2).1 c1).2.1 ?_
      refine And.intro ((h.2 c2).1 c1).2.2.1 ?_
      exact ((h.2 c2).1 c1).2.2.2
    · refine VL_norm km397 k397_2 (VL_at (al := [(0, vI v1), (1, vI (n32 4)), (2, Sum.inl (Value.retAddr 0))]) (st := []) km397 k397_2 ?_)
      exact False.elim ((h.2 c2).2 c1)
/-- String.length, label 0 -/
theorem w391s12_0 {D : Nat}  {m : XM} {Q : Int32 → XM → Prop} {E : Nat → XM → Prop}
    (h : Q ((n32 6) >>> (0 &&& 31)) m) :
    VI (D + 1) 391 [vR 30 (1000022)] m Q E := by
  refine V_of (VL_at (al := [(0, vR 30 (1000022))]) (st := []) km391 k391_0 ?_)
  refine V_of ?_
  refine VL_norm km393 k393_0 (VL_at (al := [(0, vR 30 (1000022))]) (st := []) km393 k393_0 ?_)
  refine And.intro (fun c => absurd c (by decide)) (fun _ => ?_)
  refine VL_norm km393 k393_1 (VL_at (al := [(0, vR 30 (1000022))]) (st := []) km393 k393_1 ?_)
  refine VL_norm km393 k393_3 (VL_at (al := []) (st := [vI 0]) km393 k393_3 ?_)
  refine And.intro rfl ?_
  exact h
/-- String.charAt, label 0 -/
theorem w392s12_0 {D : Nat} {v1 : Int32} {m : XM} {Q : Int32 → XM → Prop} {E : Nat → XM → Prop}
    (h : ((v1 < (n32 0) → False) ∧ (¬ v1 < (n32 0) → ((v1 < (n32 6) → (xin v1 6 = true ∧ (xrt 4 (((((([112, 97, 114, 97, 100, 101] : List Int32).getD (ix v1) 0) &&& (n32 255))).toUInt32 % 65536).toInt32) = true ∧ (xrt 4 (((((([112, 97, 114, 97, 100, 101] : List Int32).getD (ix v1) 0) &&& (n32 255))).toUInt32 % 65536).toInt32) = true ∧ Q (((((([112, 97, 114, 97, 100, 101] : List Int32).getD (ix v1) 0) &&& (n32 255))).toUInt32 % 65536).toInt32) m)))) ∧ (¬ v1 < (n32 6) → False))))) :
    VI (D + 3) 392 [vR 30 (1000022), vI v1] m Q E := by
  refine V_of (VL_at (al := [(0, vR 30 (1000022)), (1, vI v1)]) (st := []) km392 k392_0 ?_)
  refine V_of ?_
  refine VL_norm km394 k394_0 (VL_at (al := [(0, vR 30 (1000022))]) (st := []) km394 k394_0 ?_)
  refine And.intro (fun c => absurd c (by decide)) (fun _ => ?_)
  refine VL_norm km394 k394_1 (VL_at (al := [(0, vR 30 (1000022))]) (st := []) km394 k394_1 ?_)
  refine And.intro (fun _ => ?_) (fun c => absurd (by decide) c)
  refine VL_norm km394 k394_2 (VL_at (al := []) (st := []) km394 k394_2 ?_)
  refine VL_norm km394 k394_4 (VL_at (al := []) (st := [vI (n32 1)]) km394 k394_4 ?_)
  refine And.intro xrt21 ?_
  refine And.intro (fun c => absurd c (by decide)) (fun _ => ?_)
  refine VL_norm km392 k392_1 (VL_at (al := [(0, vR 30 (1000022)), (1, vI v1)]) (st := []) km392 k392_1 ?_)
  refine V_of ?_
  refine VL_norm km396 k396_0 (VL_at (al := [(0, vR 31 (1000022 + 30)), (1, vI v1)]) (st := []) km396 k396_0 ?_)
  refine V_of ?_
  refine VL_norm km395 k395_0 (VL_at (al := [(0, vI v1), (1, vI (n32 6))]) (st := []) km395 k395_0 ?_)
  refine V_of ?_
  refine VL_norm km397 k397_0 (VL_at (al := [(0, vI v1), (1, vI (n32 6)), (2, Sum.inl (Value.retAddr 0))]) (st := []) km397 k397_0 ?_)
  refine And.intro (fun c2 => ?_) (fun c2 => ?_)
  · refine VL_norm km397 k397_2 (VL_at (al := [(0, vI v1), (1, vI (n32 6)), (2, Sum.inl (Value.retAddr 0))]) (st := []) km397 k397_2 ?_)
    exact False.elim (h.1 c2)
  · refine VL_norm km397 k397_1 (VL_at (al := [(0, vI v1), (1, vI (n32 6)), (2, Sum.inl (Value.retAddr 0))]) (st := []) km397 k397_1 ?_)
    refine And.intro (fun c1 => ?_) (fun c1 => ?_)
    · refine VL_norm km397 k397_3 (VL_at (al := [(0, vI v1)]) (st := []) km397 k397_3 ?_)
      refine And.intro ((h.2 c2).1 c1).1 ?_
      refine And.intro ((h.2 c2).1 c1).2.1 ?_
      refine And.intro ((h.2 c2).1 c1).2.2.1 ?_
      exact ((h.2 c2).1 c1).2.2.2
    · refine VL_norm km397 k397_2 (VL_at (al := [(0, vI v1), (1, vI (n32 6)), (2, Sum.inl (Value.retAddr 0))]) (st := []) km397 k397_2 ?_)
      exact False.elim ((h.2 c2).2 c1)
/-- String.length, label 0 -/
theorem w391s13_0 {D : Nat}  {m : XM} {Q : Int32 → XM → Prop} {E : Nat → XM → Prop}
    (h : Q ((n32 6) >>> (0 &&& 31)) m) :
    VI (D + 1) 391 [vR 30 (1000023)] m Q E := by
  refine V_of (VL_at (al := [(0, vR 30 (1000023))]) (st := []) km391 k391_0 ?_)
  refine V_of ?_
  refine VL_norm km393 k393_0 (VL_at (al := [(0, vR 30 (1000023))]) (st := []) km393 k393_0 ?_)
  refine And.intro (fun c => absurd c (by decide)) (fun _ => ?_)
  refine VL_norm km393 k393_1 (VL_at (al := [(0, vR 30 (1000023))]) (st := []) km393 k393_1 ?_)
  refine VL_norm km393 k393_3 (VL_at (al := []) (st := [vI 0]) km393 k393_3 ?_)
  refine And.intro rfl ?_
  exact h
/-- String.charAt, label 0 -/
theorem w392s13_0 {D : Nat} {v1 : Int32} {m : XM} {Q : Int32 → XM → Prop} {E : Nat → XM → Prop}
    (h : ((v1 < (n32 0) → False) ∧ (¬ v1 < (n32 0) → ((v1 < (n32 6) → (xin v1 6 = true ∧ (xrt 4 (((((([98, 101, 97, 114, 101, 114] : List Int32).getD (ix v1) 0) &&& (n32 255))).toUInt32 % 65536).toInt32) = true ∧ (xrt 4 (((((([98, 101, 97, 114, 101, 114] : List Int32).getD (ix v1) 0) &&& (n32 255))).toUInt32 % 65536).toInt32) = true ∧ Q (((((([98, 101, 97, 114, 101, 114] : List Int32).getD (ix v1) 0) &&& (n32 255))).toUInt32 % 65536).toInt32) m)))) ∧ (¬ v1 < (n32 6) → False))))) :
    VI (D + 3) 392 [vR 30 (1000023), vI v1] m Q E := by
  refine V_of (VL_at (al := [(0, vR 30 (1000023)), (1, vI v1)]) (st := []) km392 k392_0 ?_)
  refine V_of ?_
  refine VL_norm km394 k394_0 (VL_at (al := [(0, vR 30 (1000023))]) (st := []) km394 k394_0 ?_)
  refine And.intro (fun c => absurd c (by decide)) (fun _ => ?_)
  refine VL_norm km394 k394_1 (VL_at (al := [(0, vR 30 (1000023))]) (st := []) km394 k394_1 ?_)
  refine And.intro (fun _ => ?_) (fun c => absurd (by decide) c)
  refine VL_norm km394 k394_2 (VL_at (al := []) (st := []) km394 k394_2 ?_)
  refine VL_norm km394 k394_4 (VL_at (al := []) (st := [vI (n32 1)]) km394 k394_4 ?_)
  refine And.intro xrt21 ?_
  refine And.intro (fun c => absurd c (by decide)) (fun _ => ?_)
  refine VL_norm km392 k392_1 (VL_at (al := [(0, vR 30 (1000023)), (1, vI v1)]) (st := []) km392 k392_1 ?_)
  refine V_of ?_
  refine VL_norm km396 k396_0 (VL_at (al := [(0, vR 31 (1000023 + 30)), (1, vI v1)]) (st := []) km396 k396_0 ?_)
  refine V_of ?_
  refine VL_norm km395 k395_0 (VL_at (al := [(0, vI v1), (1, vI (n32 6))]) (st := []) km395 k395_0 ?_)
  refine V_of ?_
  refine VL_norm km397 k397_0 (VL_at (al := [(0, vI v1), (1, vI (n32 6)), (2, Sum.inl (Value.retAddr 0))]) (st := []) km397 k397_0 ?_)
  refine And.intro (fun c2 => ?_) (fun c2 => ?_)
  · refine VL_norm km397 k397_2 (VL_at (al := [(0, vI v1), (1, vI (n32 6)), (2, Sum.inl (Value.retAddr 0))]) (st := []) km397 k397_2 ?_)
    exact False.elim (h.1 c2)
  · refine VL_norm km397 k397_1 (VL_at (al := [(0, vI v1), (1, vI (n32 6)), (2, Sum.inl (Value.retAddr 0))]) (st := []) km397 k397_1 ?_)
    refine And.intro (fun c1 => ?_) (fun c1 => ?_)
    · refine VL_norm km397 k397_3 (VL_at (al := [(0, vI v1)]) (st := []) km397 k397_3 ?_)
      refine And.intro ((h.2 c2).1 c1).1 ?_
      refine And.intro ((h.2 c2).1 c1).2.1 ?_
      refine And.intro ((h.2 c2).1 c1).2.2.1 ?_
      exact ((h.2 c2).1 c1).2.2.2
    · refine VL_norm km397 k397_2 (VL_at (al := [(0, vI v1), (1, vI (n32 6)), (2, Sum.inl (Value.retAddr 0))]) (st := []) km397 k397_2 ?_)
      exact False.elim ((h.2 c2).2 c1)
/-- String.length, label 0 -/
theorem w391s14_0 {D : Nat}  {m : XM} {Q : Int32 → XM → Prop} {E : Nat → XM → Prop}
    (h : Q ((n32 5) >>> (0 &&& 31)) m) :
    VI (D + 1) 391 [vR 30 (1000024)] m Q E := by
  refine V_of (VL_at (al := [(0, vR 30 (1000024))]) (st := []) km391 k391_0 ?_)
  refine V_of ?_
  refine VL_norm km393 k393_0 (VL_at (al := [(0, vR 30 (1000024))]) (st := []) km393 k393_0 ?_)
  refine And.intro (fun c => absurd c (by decide)) (fun _ => ?_)
  refine VL_norm km393 k393_1 (VL_at (al := [(0, vR 30 (1000024))]) (st := []) km393 k393_1 ?_)
  refine VL_norm km393 k393_3 (VL_at (al := []) (st := [vI 0]) km393 k393_3 ?_)
  refine And.intro rfl ?_
  exact h
/-- String.charAt, label 0 -/
theorem w392s14_0 {D : Nat} {v1 : Int32} {m : XM} {Q : Int32 → XM → Prop} {E : Nat → XM → Prop}
    (h : ((v1 < (n32 0) → False) ∧ (¬ v1 < (n32 0) → ((v1 < (n32 5) → (xin v1 5 = true ∧ (xrt 4 (((((([115, 116, 97, 110, 100] : List Int32).getD (ix v1) 0) &&& (n32 255))).toUInt32 % 65536).toInt32) = true ∧ (xrt 4 (((((([115, 116, 97, 110, 100] : List Int32).getD (ix v1) 0) &&& (n32 255))).toUInt32 % 65536).toInt32) = true ∧ Q (((((([115, 116, 97, 110, 100] : List Int32).getD (ix v1) 0) &&& (n32 255))).toUInt32 % 65536).toInt32) m)))) ∧ (¬ v1 < (n32 5) → False))))) :
    VI (D + 3) 392 [vR 30 (1000024), vI v1] m Q E := by
  refine V_of (VL_at (al := [(0, vR 30 (1000024)), (1, vI v1)]) (st := []) km392 k392_0 ?_)
  refine V_of ?_
  refine VL_norm km394 k394_0 (VL_at (al := [(0, vR 30 (1000024))]) (st := []) km394 k394_0 ?_)
  refine And.intro (fun c => absurd c (by decide)) (fun _ => ?_)
  refine VL_norm km394 k394_1 (VL_at (al := [(0, vR 30 (1000024))]) (st := []) km394 k394_1 ?_)
  refine And.intro (fun _ => ?_) (fun c => absurd (by decide) c)
  refine VL_norm km394 k394_2 (VL_at (al := []) (st := []) km394 k394_2 ?_)
  refine VL_norm km394 k394_4 (VL_at (al := []) (st := [vI (n32 1)]) km394 k394_4 ?_)
  refine And.intro xrt21 ?_
  refine And.intro (fun c => absurd c (by decide)) (fun _ => ?_)
  refine VL_norm km392 k392_1 (VL_at (al := [(0, vR 30 (1000024)), (1, vI v1)]) (st := []) km392 k392_1 ?_)
  refine V_of ?_
  refine VL_norm km396 k396_0 (VL_at (al := [(0, vR 31 (1000024 + 30)), (1, vI v1)]) (st := []) km396 k396_0 ?_)
  refine V_of ?_
  refine VL_norm km395 k395_0 (VL_at (al := [(0, vI v1), (1, vI (n32 5))]) (st := []) km395 k395_0 ?_)
  refine V_of ?_
  refine VL_norm km397 k397_0 (VL_at (al := [(0, vI v1), (1, vI (n32 5)), (2, Sum.inl (Value.retAddr 0))]) (st := []) km397 k397_0 ?_)
  refine And.intro (fun c2 => ?_) (fun c2 => ?_)
  · refine VL_norm km397 k397_2 (VL_at (al := [(0, vI v1), (1, vI (n32 5)), (2, Sum.inl (Value.retAddr 0))]) (st := []) km397 k397_2 ?_)
    exact False.elim (h.1 c2)
  · refine VL_norm km397 k397_1 (VL_at (al := [(0, vI v1), (1, vI (n32 5)), (2, Sum.inl (Value.retAddr 0))]) (st := []) km397 k397_1 ?_)
    refine And.intro (fun c1 => ?_) (fun c1 => ?_)
    · refine VL_norm km397 k397_3 (VL_at (al := [(0, vI v1)]) (st := []) km397 k397_3 ?_)
      refine And.intro ((h.2 c2).1 c1).1 ?_
      refine And.intro ((h.2 c2).1 c1).2.1 ?_
      refine And.intro ((h.2 c2).1 c1).2.2.1 ?_
      exact ((h.2 c2).1 c1).2.2.2
    · refine VL_norm km397 k397_2 (VL_at (al := [(0, vI v1), (1, vI (n32 5)), (2, Sum.inl (Value.retAddr 0))]) (st := []) km397 k397_2 ?_)
      exact False.elim ((h.2 c2).2 c1)
/-- String.length, label 0 -/
theorem w391s15_0 {D : Nat}  {m : XM} {Q : Int32 → XM → Prop} {E : Nat → XM → Prop}
    (h : Q ((n32 5) >>> (0 &&& 31)) m) :
    VI (D + 1) 391 [vR 30 (1000025)] m Q E := by
  refine V_of (VL_at (al := [(0, vR 30 (1000025))]) (st := []) km391 k391_0 ?_)
  refine V_of ?_
  refine VL_norm km393 k393_0 (VL_at (al := [(0, vR 30 (1000025))]) (st := []) km393 k393_0 ?_)
  refine And.intro (fun c => absurd c (by decide)) (fun _ => ?_)
  refine VL_norm km393 k393_1 (VL_at (al := [(0, vR 30 (1000025))]) (st := []) km393 k393_1 ?_)
  refine VL_norm km393 k393_3 (VL_at (al := []) (st := [vI 0]) km393 k393_3 ?_)
  refine And.intro rfl ?_
  exact h
/-- String.charAt, label 0 -/
theorem w392s15_0 {D : Nat} {v1 : Int32} {m : XM} {Q : Int32 → XM → Prop} {E : Nat → XM → Prop}
    (h : ((v1 < (n32 0) → False) ∧ (¬ v1 < (n32 0) → ((v1 < (n32 5) → (xin v1 5 = true ∧ (xrt 4 (((((([114, 105, 103, 104, 116] : List Int32).getD (ix v1) 0) &&& (n32 255))).toUInt32 % 65536).toInt32) = true ∧ (xrt 4 (((((([114, 105, 103, 104, 116] : List Int32).getD (ix v1) 0) &&& (n32 255))).toUInt32 % 65536).toInt32) = true ∧ Q (((((([114, 105, 103, 104, 116] : List Int32).getD (ix v1) 0) &&& (n32 255))).toUInt32 % 65536).toInt32) m)))) ∧ (¬ v1 < (n32 5) → False))))) :
    VI (D + 3) 392 [vR 30 (1000025), vI v1] m Q E := by
  refine V_of (VL_at (al := [(0, vR 30 (1000025)), (1, vI v1)]) (st := []) km392 k392_0 ?_)
  refine V_of ?_
  refine VL_norm km394 k394_0 (VL_at (al := [(0, vR 30 (1000025))]) (st := []) km394 k394_0 ?_)
  refine And.intro (fun c => absurd c (by decide)) (fun _ => ?_)
  refine VL_norm km394 k394_1 (VL_at (al := [(0, vR 30 (1000025))]) (st := []) km394 k394_1 ?_)
  refine And.intro (fun _ => ?_) (fun c => absurd (by decide) c)
  refine VL_norm km394 k394_2 (VL_at (al := []) (st := []) km394 k394_2 ?_)
  refine VL_norm km394 k394_4 (VL_at (al := []) (st := [vI (n32 1)]) km394 k394_4 ?_)
  refine And.intro xrt21 ?_
  refine And.intro (fun c => absurd c (by decide)) (fun _ => ?_)
  refine VL_norm km392 k392_1 (VL_at (al := [(0, vR 30 (1000025)), (1, vI v1)]) (st := []) km392 k392_1 ?_)
  refine V_of ?_
  refine VL_norm km396 k396_0 (VL_at (al := [(0, vR 31 (1000025 + 30)), (1, vI v1)]) (st := []) km396 k396_0 ?_)
  refine V_of ?_
  refine VL_norm km395 k395_0 (VL_at (al := [(0, vI v1), (1, vI (n32 5))]) (st := []) km395 k395_0 ?_)
  refine V_of ?_
  refine VL_norm km397 k397_0 (VL_at (al := [(0, vI v1), (1, vI (n32 5)), (2, Sum.inl (Value.retAddr 0))]) (st := []) km397 k397_0 ?_)
  refine And.intro (fun c2 => ?_) (fun c2 => ?_)
  · refine VL_norm km397 k397_2 (VL_at (al := [(0, vI v1), (1, vI (n32 5)), (2, Sum.inl (Value.retAddr 0))]) (st := []) km397 k397_2 ?_)
    exact False.elim (h.1 c2)
  · refine VL_norm km397 k397_1 (VL_at (al := [(0, vI v1), (1, vI (n32 5)), (2, Sum.inl (Value.retAddr 0))]) (st := []) km397 k397_1 ?_)
    refine And.intro (fun c1 => ?_) (fun c1 => ?_)
    · refine VL_norm km397 k397_3 (VL_at (al := [(0, vI v1)]) (st := []) km397 k397_3 ?_)
      refine And.intro ((h.2 c2).1 c1).1 ?_
      refine And.intro ((h.2 c2).1 c1).2.1 ?_
      refine And.intro ((h.2 c2).1 c1).2.2.1 ?_
      exact ((h.2 c2).1 c1).2.2.2
    · refine VL_norm km397 k397_2 (VL_at (al := [(0, vI v1), (1, vI (n32 5)), (2, Sum.inl (Value.retAddr 0))]) (st := []) km397 k397_2 ?_)
      exact False.elim ((h.2 c2).2 c1)
/-- String.length, label 0 -/
theorem w391s16_0 {D : Nat}  {m : XM} {Q : Int32 → XM → Prop} {E : Nat → XM → Prop}
    (h : Q ((n32 4) >>> (0 &&& 31)) m) :
    VI (D + 1) 391 [vR 30 (1000026)] m Q E := by
  refine V_of (VL_at (al := [(0, vR 30 (1000026))]) (st := []) km391 k391_0 ?_)
  refine V_of ?_
  refine VL_norm km393 k393_0 (VL_at (al := [(0, vR 30 (1000026))]) (st := []) km393 k393_0 ?_)
  refine And.intro (fun c => absurd c (by decide)) (fun _ => ?_)
  refine VL_norm km393 k393_1 (VL_at (al := [(0, vR 30 (1000026))]) (st := []) km393 k393_1 ?_)
  refine VL_norm km393 k393_3 (VL_at (al := []) (st := [vI 0]) km393 k393_3 ?_)
  refine And.intro rfl ?_
  exact h
/-- String.charAt, label 0 -/
theorem w392s16_0 {D : Nat} {v1 : Int32} {m : XM} {Q : Int32 → XM → Prop} {E : Nat → XM → Prop}
    (h : ((v1 < (n32 0) → False) ∧ (¬ v1 < (n32 0) → ((v1 < (n32 4) → (xin v1 4 = true ∧ (xrt 4 (((((([108, 101, 102, 116] : List Int32).getD (ix v1) 0) &&& (n32 255))).toUInt32 % 65536).toInt32) = true ∧ (xrt 4 (((((([108, 101, 102, 116] : List Int32).getD (ix v1) 0) &&& (n32 255))).toUInt32 % 65536).toInt32) = true ∧ Q (((((([108, 101, 102, 116] : List Int32).getD (ix v1) 0) &&& (n32 255))).toUInt32 % 65536).toInt32) m)))) ∧ (¬ v1 < (n32 4) → False))))) :
    VI (D + 3) 392 [vR 30 (1000026), vI v1] m Q E := by
  refine V_of (VL_at (al := [(0, vR 30 (1000026)), (1, vI v1)]) (st := []) km392 k392_0 ?_)
  refine V_of ?_
  refine VL_norm km394 k394_0 (VL_at (al := [(0, vR 30 (1000026))]) (st := []) km394 k394_0 ?_)
  refine And.intro (fun c => absurd c (by decide)) (fun _ => ?_)
  refine VL_norm km394 k394_1 (VL_at (al := [(0, vR 30 (1000026))]) (st := []) km394 k394_1 ?_)
  refine And.intro (fun _ => ?_) (fun c => absurd (by decide) c)
  refine VL_norm km394 k394_2 (VL_at (al := []) (st := []) km394 k394_2 ?_)
  refine VL_norm km394 k394_4 (VL_at (al := []) (st := [vI (n32 1)]) km394 k394_4 ?_)
  refine And.intro xrt21 ?_
  refine And.intro (fun c => absurd c (by decide)) (fun _ => ?_)
  refine VL_norm km392 k392_1 (VL_at (al := [(0, vR 30 (1000026)), (1, vI v1)]) (st := []) km392 k392_1 ?_)
  refine V_of ?_
  refine VL_norm km396 k396_0 (VL_at (al := [(0, vR 31 (1000026 + 30)), (1, vI v1)]) (st := []) km396 k396_0 ?_)
  refine V_of ?_
  refine VL_norm km395 k395_0 (VL_at (al := [(0, vI v1), (1, vI (n32 4))]) (st := []) km395 k395_0 ?_)
  refine V_of ?_
  refine VL_norm km397 k397_0 (VL_at (al := [(0, vI v1), (1, vI (n32 4)), (2, Sum.inl (Value.retAddr 0))]) (st := []) km397 k397_0 ?_)
  refine And.intro (fun c2 => ?_) (fun c2 => ?_)
  · refine VL_norm km397 k397_2 (VL_at (al := [(0, vI v1), (1, vI (n32 4)), (2, Sum.inl (Value.retAddr 0))]) (st := []) km397 k397_2 ?_)
    exact False.elim (h.1 c2)
  · refine VL_norm km397 k397_1 (VL_at (al := [(0, vI v1), (1, vI (n32 4)), (2, Sum.inl (Value.retAddr 0))]) (st := []) km397 k397_1 ?_)
    refine And.intro (fun c1 => ?_) (fun c1 => ?_)
    · refine VL_norm km397 k397_3 (VL_at (al := [(0, vI v1)]) (st := []) km397 k397_3 ?_)
      refine And.intro ((h.2 c2).1 c1).1 ?_
      refine And.intro ((h.2 c2).1 c1).2.1 ?_
      refine And.intro ((h.2 c2).1 c1).2.2.1 ?_
      exact ((h.2 c2).1 c1).2.2.2
    · refine VL_norm km397 k397_2 (VL_at (al := [(0, vI v1), (1, vI (n32 4)), (2, Sum.inl (Value.retAddr 0))]) (st := []) km397 k397_2 ?_)
      exact False.elim ((h.2 c2).2 c1)
/-- String.length, label 0 -/
theorem w391s17_0 {D : Nat}  {m : XM} {Q : Int32 → XM → Prop} {E : Nat → XM → Prop}
    (h : Q ((n32 4) >>> (0 &&& 31)) m) :
    VI (D + 1) 391 [vR 30 (1000027)] m Q E := by
  refine V_of (VL_at (al := [(0, vR 30 (1000027))]) (st := []) km391 k391_0 ?_)
  refine V_of ?_
  refine VL_norm km393 k393_0 (VL_at (al := [(0, vR 30 (1000027))]) (st := []) km393 k393_0 ?_)
  refine And.intro (fun c => absurd c (by decide)) (fun _ => ?_)
  refine VL_norm km393 k393_1 (VL_at (al := [(0, vR 30 (1000027))]) (st := []) km393 k393_1 ?_)
  refine VL_norm km393 k393_3 (VL_at (al := []) (st := [vI 0]) km393 k393_3 ?_)
  refine And.intro rfl ?_
  exact h
/-- String.charAt, label 0 -/
theorem w392s17_0 {D : Nat} {v1 : Int32} {m : XM} {Q : Int32 → XM → Prop} {E : Nat → XM → Prop}
    (h : ((v1 < (n32 0) → False) ∧ (¬ v1 < (n32 0) → ((v1 < (n32 4) → (xin v1 4 = true ∧ (xrt 4 (((((([112, 108, 97, 110] : List Int32).getD (ix v1) 0) &&& (n32 255))).toUInt32 % 65536).toInt32) = true ∧ (xrt 4 (((((([112, 108, 97, 110] : List Int32).getD (ix v1) 0) &&& (n32 255))).toUInt32 % 65536).toInt32) = true ∧ Q (((((([112, 108, 97, 110] : List Int32).getD (ix v1) 0) &&& (n32 255))).toUInt32 % 65536).toInt32) m)))) ∧ (¬ v1 < (n32 4) → False))))) :
    VI (D + 3) 392 [vR 30 (1000027), vI v1] m Q E := by
  refine V_of (VL_at (al := [(0, vR 30 (1000027)), (1, vI v1)]) (st := []) km392 k392_0 ?_)
  refine V_of ?_
  refine VL_norm km394 k394_0 (VL_at (al := [(0, vR 30 (1000027))]) (st := []) km394 k394_0 ?_)
  refine And.intro (fun c => absurd c (by decide)) (fun _ => ?_)
  refine VL_norm km394 k394_1 (VL_at (al := [(0, vR 30 (1000027))]) (st := []) km394 k394_1 ?_)
  refine And.intro (fun _ => ?_) (fun c => absurd (by decide) c)
  refine VL_norm km394 k394_2 (VL_at (al := []) (st := []) km394 k394_2 ?_)
  refine VL_norm km394 k394_4 (VL_at (al := []) (st := [vI (n32 1)]) km394 k394_4 ?_)
  refine And.intro xrt21 ?_
  refine And.intro (fun c => absurd c (by decide)) (fun _ => ?_)
  refine VL_norm km392 k392_1 (VL_at (al := [(0, vR 30 (1000027)), (1, vI v1)]) (st := []) km392 k392_1 ?_)
  refine V_of ?_
  refine VL_norm km396 k396_0 (VL_at (al := [(0, vR 31 (1000027 + 30)), (1, vI v1)]) (st := []) km396 k396_0 ?_)
  refine V_of ?_
  refine VL_norm km395 k395_0 (VL_at (al := [(0, vI v1), (1, vI (n32 4))]) (st := []) km395 k395_0 ?_)
  refine V_of ?_
  refine VL_norm km397 k397_0 (VL_at (al := [(0, vI v1), (1, vI (n32 4)), (2, Sum.inl (Value.retAddr 0))]) (st := []) km397 k397_0 ?_)
  refine And.intro (fun c2 => ?_) (fun c2 => ?_)
  · refine VL_norm km397 k397_2 (VL_at (al := [(0, vI v1), (1, vI (n32 4)), (2, Sum.inl (Value.retAddr 0))]) (st := []) km397 k397_2 ?_)
    exact False.elim (h.1 c2)
  · refine VL_norm km397 k397_1 (VL_at (al := [(0, vI v1), (1, vI (n32 4)), (2, Sum.inl (Value.retAddr 0))]) (st := []) km397 k397_1 ?_)
    refine And.intro (fun c1 => ?_) (fun c1 => ?_)
    · refine VL_norm km397 k397_3 (VL_at (al := [(0, vI v1)]) (st := []) km397 k397_3 ?_)
      refine And.intro ((h.2 c2).1 c1).1 ?_
      refine And.intro ((h.2 c2).1 c1).2.1 ?_
      refine And.intro ((h.2 c2).1 c1).2.2.1 ?_
      exact ((h.2 c2).1 c1).2.2.2
    · refine VL_norm km397 k397_2 (VL_at (al := [(0, vI v1), (1, vI (n32 4)), (2, Sum.inl (Value.retAddr 0))]) (st := []) km397 k397_2 ?_)
      exact False.elim ((h.2 c2).2 c1)
