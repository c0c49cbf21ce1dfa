/-! Verification conditions (written by program: wip/whole/mkw.py). -/
/-- BannerParadeModel.plan, label 0 -/
theorem w254_0 {D : Nat} {v1 : Int32} {v2 : Int32} {m : XM} {Q : Int32 → XM → Prop} {E : Nat → XM → Prop}
    (h : ((v1 < (n32 0) → ((v2 < (n32 0) → VI D 176 [vR 11 (283), vI (m 283 6), vI (n32 0), vI (n32 0)] m (fun x1 m1 => ((x1 = (n32 0) → Q (n32 0) m1) ∧ (¬ x1 = (n32 0) → (((n32 3) ≤ v2 → (xin (((n32 171) + ((n32 3) * v1)) + (n32 2)) 243 = true ∧ (((m1 284 (ix (((n32 171) + ((n32 3) * v1)) + (n32 2)))) = (n32 0) → (xin (((n32 171) + ((n32 3) * v1)) + (n32 0)) 243 = true ∧ Q ((m1 284 (ix (((n32 171) + ((n32 3) * v1)) + (n32 0)))) - (m1 284 (ix (n32 9)))) m1)) ∧ (¬ (m1 284 (ix (((n32 171) + ((n32 3) * v1)) + (n32 2)))) = (n32 0) → Q (-(n32 1)) m1)))) ∧ (¬ (n32 3) ≤ v2 → (xin (((n32 171) + ((n32 3) * v1)) + v2) 243 = true ∧ Q (m1 284 (ix (((n32 171) + ((n32 3) * v1)) + v2))) m1)))))) E) ∧ (¬ v2 < (n32 0) → (((n32 3) < v2 → VI D 176 [vR 11 (283), vI (m 283 6), vI (n32 0), vI (n32 0)] m (fun x5 m5 => ((x5 = (n32 0) → Q (n32 0) m5) ∧ (¬ x5 = (n32 0) → (((n32 3) ≤ v2 → (xin (((n32 171) + ((n32 3) * v1)) + (n32 2)) 243 = true ∧ (((m5 284 (ix (((n32 171) + ((n32 3) * v1)) + (n32 2)))) = (n32 0) → (xin (((n32 171) + ((n32 3) * v1)) + (n32 0)) 243 = true ∧ Q ((m5 284 (ix (((n32 171) + ((n32 3) * v1)) + (n32 0)))) - (m5 284 (ix (n32 9)))) m5)) ∧ (¬ (m5 284 (ix (((n32 171) + ((n32 3) * v1)) + (n32 2)))) = (n32 0) → Q (-(n32 1)) m5)))) ∧ (¬ (n32 3) ≤ v2 → (xin (((n32 171) + ((n32 3) * v1)) + v2) 243 = true ∧ Q (m5 284 (ix (((n32 171) + ((n32 3) * v1)) + v2))) m5)))))) E) ∧ (¬ (n32 3) < v2 → VI D 176 [vR 11 (283), vI (m 283 6), vI (n32 0), vI (n32 1)] m (fun x9 m9 => ((x9 = (n32 0) → Q (n32 0) m9) ∧ (¬ x9 = (n32 0) → (((n32 3) ≤ v2 → (xin (((n32 171) + ((n32 3) * v1)) + (n32 2)) 243 = true ∧ (((m9 284 (ix (((n32 171) + ((n32 3) * v1)) + (n32 2)))) = (n32 0) → (xin (((n32 171) + ((n32 3) * v1)) + (n32 0)) 243 = true ∧ Q ((m9 284 (ix (((n32 171) + ((n32 3) * v1)) + (n32 0)))) - (m9 284 (ix (n32 9)))) m9)) ∧ (¬ (m9 284 (ix (((n32 171) + ((n32 3) * v1)) + (n32 2)))) = (n32 0) → Q (-(n32 1)) m9)))) ∧ (¬ (n32 3) ≤ v2 → (xin (((n32 171) + ((n32 3) * v1)) + v2) 243 = true ∧ Q (m9 284 (ix (((n32 171) + ((n32 3) * v1)) + v2))) m9)))))) E))))) ∧ (¬ v1 < (n32 0) → ((((m 284 (ix (n32 8))) - (n32 1)) < v1 → ((v2 < (n32 0) → VI D 176 [vR 11 (283), vI (m 283 6), vI (n32 0), vI (n32 0)] m (fun x15 m15 => ((x15 = (n32 0) → Q (n32 0) m15) ∧ (¬ x15 = (n32 0) → (((n32 3) ≤ v2 → (xin (((n32 171) + ((n32 3) * v1)) + (n32 2)) 243 = true ∧ (((m15 284 (ix (((n32 171) + ((n32 3) * v1)) + (n32 2)))) = (n32 0) → (xin (((n32 171) + ((n32 3) * v1)) + (n32 0)) 243 = true ∧ Q ((m15 284 (ix (((n32 171) + ((n32 3) * v1)) + (n32 0)))) - (m15 284 (ix (n32 9)))) m15)) ∧ (¬ (m15 284 (ix (((n32 171) + ((n32 3) * v1)) + (n32 2)))) = (n32 0) → Q (-(n32 1)) m15)))) ∧ (¬ (n32 3) ≤ v2 → (xin (((n32 171) + ((n32 3) * v1)) + v2) 243 = true ∧ Q (m15 284 (ix (((n32 171) + ((n32 3) * v1)) + v2))) m15)))))) E) ∧ (¬ v2 < (n32 0) → (((n32 3) < v2 → VI D 176 [vR 11 (283), vI (m 283 6), vI (n32 0), vI (n32 0)] m (fun x19 m19 => ((x19 = (n32 0) → Q (n32 0) m19) ∧ (¬ x19 = (n32 0) → (((n32 3) ≤ v2 → (xin (((n32 171) + ((n32 3) * v1)) + (n32 2)) 243 = true ∧ (((m19 284 (ix (((n32 171) + ((n32 3) * v1)) + (n32 2)))) = (n32 0) → (xin (((n32 171) + ((n32 3) * v1)) + (n32 0)) 243 = true ∧ Q ((m19 284 (ix (((n32 171) + ((n32 3) * v1)) + (n32 0)))) - (m19 284 (ix (n32 9)))) m19)) ∧ (¬ (m19 284 (ix (((n32 171) + ((n32 3) * v1)) + (n32 2)))) = (n32 0) → Q (-(n32 1)) m19)))) ∧ (¬ (n32 3) ≤ v2 → (xin (((n32 171) + ((n32 3) * v1)) + v2) 243 = true ∧ Q (m19 284 (ix (((n32 171) + ((n32 3) * v1)) + v2))) m19)))))) E) ∧ (¬ (n32 3) < v2 → VI D 176 [vR 11 (283), vI (m 283 6), vI (n32 0), vI (n32 1)] m (fun x23 m23 => ((x23 = (n32 0) → Q (n32 0) m23) ∧ (¬ x23 = (n32 0) → (((n32 3) ≤ v2 → (xin (((n32 171) + ((n32 3) * v1)) + (n32 2)) 243 = true ∧ (((m23 284 (ix (((n32 171) + ((n32 3) * v1)) + (n32 2)))) = (n32 0) → (xin (((n32 171) + ((n32 3) * v1)) + (n32 0)) 243 = true ∧ Q ((m23 284 (ix (((n32 171) + ((n32 3) * v1)) + (n32 0)))) - (m23 284 (ix (n32 9)))) m23)) ∧ (¬ (m23 284 (ix (((n32 171) + ((n32 3) * v1)) + (n32 2)))) = (n32 0) → Q (-(n32 1)) m23)))) ∧ (¬ (n32 3) ≤ v2 → (xin (((n32 171) + ((n32 3) * v1)) + v2) 243 = true ∧ Q (m23 284 (ix (((n32 171) + ((n32 3) * v1)) + v2))) m23)))))) E))))) ∧ (¬ ((m 284 (ix (n32 8))) - (n32 1)) < v1 → ((v2 < (n32 0) → VI D 176 [vR 11 (283), vI (m 283 6), vI (n32 1), vI (n32 0)] m (fun x29 m29 => ((x29 = (n32 0) → Q (n32 0) m29) ∧ (¬ x29 = (n32 0) → (((n32 3) ≤ v2 → (xin (((n32 171) + ((n32 3) * v1)) + (n32 2)) 243 = true ∧ (((m29 284 (ix (((n32 171) + ((n32 3) * v1)) + (n32 2)))) = (n32 0) → (xin (((n32 171) + ((n32 3) * v1)) + (n32 0)) 243 = true ∧ Q ((m29 284 (ix (((n32 171) + ((n32 3) * v1)) + (n32 0)))) - (m29 284 (ix (n32 9)))) m29)) ∧ (¬ (m29 284 (ix (((n32 171) + ((n32 3) * v1)) + (n32 2)))) = (n32 0) → Q (-(n32 1)) m29)))) ∧ (¬ (n32 3) ≤ v2 → (xin (((n32 171) + ((n32 3) * v1)) + v2) 243 = true ∧ Q (m29 284 (ix (((n32 171) + ((n32 3) * v1)) + v2))) m29)))))) E) ∧ (¬ v2 < (n32 0) → (((n32 3) < v2 → VI D 176 [vR 11 (283), vI (m 283 6), vI (n32 1), vI (n32 0)] m (fun x33 m33 => ((x33 = (n32 0) → Q (n32 0) m33) ∧ (¬ x33 = (n32 0) → (((n32 3) ≤ v2 → (xin (((n32 171) + ((n32 3) * v1)) + (n32 2)) 243 = true ∧ (((m33 284 (ix (((n32 171) + ((n32 3) * v1)) + (n32 2)))) = (n32 0) → (xin (((n32 171) + ((n32 3) * v1)) + (n32 0)) 243 = true ∧ Q ((m33 284 (ix (((n32 171) + ((n32 3) * v1)) + (n32 0)))) - (m33 284 (ix (n32 9)))) m33)) ∧ (¬ (m33 284 (ix (((n32 171) + ((n32 3) * v1)) + (n32 2)))) = (n32 0) → Q (-(n32 1)) m33)))) ∧ (¬ (n32 3) ≤ v2 → (xin (((n32 171) + ((n32 3) * v1)) + v2) 243 = true ∧ Q (m33 284 (ix (((n32 171) + ((n32 3) * v1)) + v2))) m33)))))) E) ∧ (¬ (n32 3) < v2 → VI D 176 [vR 11 (283), vI (m 283 6), vI (n32 1), vI (n32 1)] m (fun x37 m37 => ((x37 = (n32 0) → Q (n32 0) m37) ∧ (¬ x37 = (n32 0) → (((n32 3) ≤ v2 → (xin (((n32 171) + ((n32 3) * v1)) + (n32 2)) 243 = true ∧ (((m37 284 (ix (((n32 171) + ((n32 3) * v1)) + (n32 2)))) = (n32 0) → (xin (((n32 171) + ((n32 3) * v1)) + (n32 0)) 243 = true ∧ Q ((m37 284 (ix (((n32 171) + ((n32 3) * v1)) + (n32 0)))) - (m37 284 (ix (n32 9)))) m37)) ∧ (¬ (m37 284 (ix (((n32 171) + ((n32 3) * v1)) + (n32 2)))) = (n32 0) → Q (-(n32 1)) m37)))) ∧ (¬ (n32 3) ≤ v2 → (xin (((n32 171) + ((n32 3) * v1)) + v2) 243 = true ∧ Q (m37 284 (ix (((n32 171) + ((n32 3) * v1)) + v2))) m37)))))) E))))))))) :
    VI (D + 1) 254 [vR 11 (283), vI v1, vI v2] m Q E := by
  refine V_of (VL_at (al := [(0, vR 11 (283)), (1, vI v1), (2, vI v2)]) (st := []) km254 k254_0 ?_)
  refine And.intro (xin_k rfl) ?_
  refine V_of ?_
  refine VL_norm km175 k175_0 (VL_at (al := [(0, vI v1), (1, vI (n32 0)), (2, vI ((m 284 (ix (n32 8))) - (n32 1)))]) (st := []) km175 k175_0 ?_)
  refine And.intro (fun c44 => ?_) (fun c44 => ?_)
  · refine VL_norm km175 k175_3 (VL_at (al := []) (st := []) km175 k175_3 ?_)
    refine VL_norm km175 k175_4 (VL_at (al := []) (st := [vI (n32 0)]) km175 k175_4 ?_)
    refine And.intro xrt20 ?_
    refine V_of ?_
    refine VL_norm km175 k175_0 (VL_at (al := [(0, vI v2), (1, vI (n32 0)), (2, vI (n32 3))]) (st := []) km175 k175_0 ?_)
    refine And.intro (fun c14 => ?_) (fun c14 => ?_)
    · refine VL_norm km175 k175_3 (VL_at (al := []) (st := []) km175 k175_3 ?_)
      refine VL_norm km175 k175_4 (VL_at (al := []) (st := [vI (n32 0)]) km175 k175_4 ?_)
      refine And.intro xrt20 ?_
      refine V_mono ((h.1 c44).1 c14) (fun u1 m1 h1 => ?_) (fun _ _ h => h)
      refine And.intro (fun c4 => ?_) (fun c4 => ?_)
      · refine VL_norm km254 k254_1 (VL_at (al := []) (st := []) km254 k254_1 ?_)
        exact (h1.1 c4)
      · refine VL_norm km254 k254_2 (VL_at (al := [(0, vR 11 (283)), (1, vI v1), (2, vI v2)]) (st := []) km254 k254_2 ?_)
        refine And.intro (fun c3 => ?_) (fun c3 => ?_)
        · refine VL_norm km254 k254_4 (VL_at (al := [(0, vR 11 (283)), (1, vI v1)]) (st := []) km254 k254_4 ?_)
          refine V_of ?_
          refine VL_norm km206 k206_0 (VL_at (al := [(0, vR 11 (283)), (1, vI v1), (2, vI (n32 2))]) (st := []) km206 k206_0 ?_)
          refine And.intro ((h1.2 c4).1 c3).1 ?_
          refine And.intro (fun c2 => ?_) (fun c2 => ?_)
          · refine VL_norm km254 k254_5 (VL_at (al := [(0, vR 11 (283)), (1, vI v1)]) (st := []) km254 k254_5 ?_)
            refine V_of ?_
            refine VL_norm km206 k206_0 (VL_at (al := [(0, vR 11 (283)), (1, vI v1), (2, vI (n32 0))]) (st := []) km206 k206_0 ?_)
            refine And.intro (((h1.2 c4).1 c3).2.1 c2).1 ?_
            refine And.intro (xin_k rfl) ?_
            refine VL_norm km254 k254_7 (VL_at (al := []) (st := [vI ((m1 284 (ix (((n32 171) + ((n32 3) * v1)) + (n32 0)))) - (m1 284 (ix (n32 9))))]) km254 k254_7 ?_)
            exact (((h1.2 c4).1 c3).2.1 c2).2
          · refine VL_norm km254 k254_6 (VL_at (al := []) (st := []) km254 k254_6 ?_)
            refine VL_norm km254 k254_7 (VL_at (al := []) (st := [vI (-(n32 1))]) km254 k254_7 ?_)
            exact (((h1.2 c4).1 c3).2.2 c2)
        · refine VL_norm km254 k254_3 (VL_at (al := [(0, vR 11 (283)), (1, vI v1), (2, vI v2)]) (st := []) km254 k254_3 ?_)
          refine V_of ?_
          refine VL_norm km206 k206_0 (VL_at (al := [(0, vR 11 (283)), (1, vI v1), (2, vI v2)]) (st := []) km206 k206_0 ?_)
          refine And.intro ((h1.2 c4).2 c3).1 ?_
          exact ((h1.2 c4).2 c3).2
    · refine VL_norm km175 k175_1 (VL_at (al := [(0, vI v2), (2, vI (n32 3))]) (st := []) km175 k175_1 ?_)
      refine And.intro (fun c13 => ?_) (fun c13 => ?_)
      · refine VL_norm km175 k175_3 (VL_at (al := []) (st := []) km175 k175_3 ?_)
        refine VL_norm km175 k175_4 (VL_at (al := []) (st := [vI (n32 0)]) km175 k175_4 ?_)
        refine And.intro xrt20 ?_
        refine V_mono (((h.1 c44).2 c14).1 c13) (fun u5 m5 h5 => ?_) (fun _ _ h => h)
        refine And.intro (fun c8 => ?_) (fun c8 => ?_)
        · refine VL_norm km254 k254_1 (VL_at (al := []) (st := []) km254 k254_1 ?_)
          exact (h5.1 c8)
        · refine VL_norm km254 k254_2 (VL_at (al := [(0, vR 11 (283)), (1, vI v1), (2, vI v2)]) (st := []) km254 k254_2 ?_)
          refine And.intro (fun c7 => ?_) (fun c7 => ?_)
          · refine VL_norm km254 k254_4 (VL_at (al := [(0, vR 11 (283)), (1, vI v1)]) (st := []) km254 k254_4 ?_)
            refine V_of ?_
            refine VL_norm km206 k206_0 (VL_at (al := [(0, vR 11 (283)), (1, vI v1), (2, vI (n32 2))]) (st := []) km206 k206_0 ?_)
            refine And.intro ((h5.2 c8).1 c7).1 ?_
            refine And.intro (fun c6 => ?_) (fun c6 => ?_)
            · refine VL_norm km254 k254_5 (VL_at (al := [(0, vR 11 (283)), (1, vI v1)]) (st := []) km254 k254_5 ?_)
              refine V_of ?_
              refine VL_norm km206 k206_0 (VL_at (al := [(0, vR 11 (283)), (1, vI v1), (2, vI (n32 0))]) (st := []) km206 k206_0 ?_)
              refine And.intro (((h5.2 c8).1 c7).2.1 c6).1 ?_
              refine And.intro (xin_k rfl) ?_
              refine VL_norm km254 k254_7 (VL_at (al := []) (st := [vI ((m5 284 (ix (((n32 171) + ((n32 3) * v1)) + (n32 0)))) - (m5 284 (ix (n32 9))))]) km254 k254_7 ?_)
              exact (((h5.2 c8).1 c7).2.1 c6).2
            · refine VL_norm km254 k254_6 (VL_at (al := []) (st := []) km254 k254_6 ?_)
              refine VL_norm km254 k254_7 (VL_at (al := []) (st := [vI (-(n32 1))]) km254 k254_7 ?_)
              exact (((h5.2 c8).1 c7).2.2 c6)
          · refine VL_norm km254 k254_3 (VL_at (al := [(0, vR 11 (283)), (1, vI v1), (2, vI v2)]) (st := []) km254 k254_3 ?_)
            refine V_of ?_
            refine VL_norm km206 k206_0 (VL_at (al := [(0, vR 11 (283)), (1, vI v1), (2, vI v2)]) (st := []) km206 k206_0 ?_)
            refine And.intro ((h5.2 c8).2 c7).1 ?_
            exact ((h5.2 c8).2 c7).2
      · refine VL_norm km175 k175_2 (VL_at (al := []) (st := []) km175 k175_2 ?_)
        refine VL_norm km175 k175_4 (VL_at (al := []) (st := [vI (n32 1)]) km175 k175_4 ?_)
        refine And.intro xrt21 ?_
        refine V_mono (((h.1 c44).2 c14).2 c13) (fun u9 m9 h9 => ?_) (fun _ _ h => h)
        refine And.intro (fun c12 => ?_) (fun c12 => ?_)
        · refine VL_norm km254 k254_1 (VL_at (al := []) (st := []) km254 k254_1 ?_)
          exact (h9.1 c12)
        · refine VL_norm km254 k254_2 (VL_at (al := [(0, vR 11 (283)), (1, vI v1), (2, vI v2)]) (st := []) km254 k254_2 ?_)
          refine And.intro (fun c11 => ?_) (fun c11 => ?_)
          · refine VL_norm km254 k254_4 (VL_at (al := [(0, vR 11 (283)), (1, vI v1)]) (st := []) km254 k254_4 ?_)
            refine V_of ?_
            refine VL_norm km206 k206_0 (VL_at (al := [(0, vR 11 (283)), (1, vI v1), (2, vI (n32 2))]) (st := []) km206 k206_0 ?_)
            refine And.intro ((h9.2 c12).1 c11).1 ?_
            refine And.intro (fun c10 => ?_) (fun c10 => ?_)
            · refine VL_norm km254 k254_5 (VL_at (al := [(0, vR 11 (283)), (1, vI v1)]) (st := []) km254 k254_5 ?_)
              refine V_of ?_
              refine VL_norm km206 k206_0 (VL_at (al := [(0, vR 11 (283)), (1, vI v1), (2, vI (n32 0))]) (st := []) km206 k206_0 ?_)
              refine And.intro (((h9.2 c12).1 c11).2.1 c10).1 ?_
              refine And.intro (xin_k rfl) ?_
              refine VL_norm km254 k254_7 (VL_at (al := []) (st := [vI ((m9 284 (ix (((n32 171) + ((n32 3) * v1)) + (n32 0)))) - (m9 284 (ix (n32 9))))]) km254 k254_7 ?_)
              exact (((h9.2 c12).1 c11).2.1 c10).2
            · refine VL_norm km254 k254_6 (VL_at (al := []) (st := []) km254 k254_6 ?_)
              refine VL_norm km254 k254_7 (VL_at (al := []) (st := [vI (-(n32 1))]) km254 k254_7 ?_)
              exact (((h9.2 c12).1 c11).2.2 c10)
          · refine VL_norm km254 k254_3 (VL_at (al := [(0, vR 11 (283)), (1, vI v1), (2, vI v2)]) (st := []) km254 k254_3 ?_)
            refine V_of ?_
            refine VL_norm km206 k206_0 (VL_at (al := [(0, vR 11 (283)), (1, vI v1), (2, vI v2)]) (st := []) km206 k206_0 ?_)
            refine And.intro ((h9.2 c12).2 c11).1 ?_
            exact ((h9.2 c12).2 c11).2
  · refine VL_norm km175 k175_1 (VL_at (al := [(0, vI v1), (2, vI ((m 284 (ix (n32 8))) - (n32 1)))]) (st := []) km175 k175_1 ?_)
    refine And.intro (fun c43 => ?_) (fun c43 => ?_)
    · refine VL_norm km175 k175_3 (VL_at (al := []) (st := []) km175 k175_3 ?_)
      refine VL_norm km175 k175_4 (VL_at (al := []) (st := [vI (n32 0)]) km175 k175_4 ?_)
      refine And.intro xrt20 ?_
      refine V_of ?_
      refine VL_norm km175 k175_0 (VL_at (al := [(0, vI v2), (1, vI (n32 0)), (2, vI (n32 3))]) (st := []) km175 k175_0 ?_)
      refine And.intro (fun c28 => ?_) (fun c28 => ?_)
      · refine VL_norm km175 k175_3 (VL_at (al := []) (st := []) km175 k175_3 ?_)
        refine VL_norm km175 k175_4 (VL_at (al := []) (st := [vI (n32 0)]) km175 k175_4 ?_)
        refine And.intro xrt20 ?_
        refine V_mono (((h.2 c44).1 c43).1 c28) (fun u15 m15 h15 => ?_) (fun _ _ h => h)
        refine And.intro (fun c18 => ?_) (fun c18 => ?_)
        · refine VL_norm km254 k254_1 (VL_at (al := []) (st := []) km254 k254_1 ?_)
          exact (h15.1 c18)
        · refine VL_norm km254 k254_2 (VL_at (al := [(0, vR 11 (283)), (1, vI v1), (2, vI v2)]) (st := []) km254 k254_2 ?_)
          refine And.intro (fun c17 => ?_) (fun c17 => ?_)
          · refine VL_norm km254 k254_4 (VL_at (al := [(0, vR 11 (283)), (1, vI v1)]) (st := []) km254 k254_4 ?_)
            refine V_of ?_
            refine VL_norm km206 k206_0 (VL_at (al := [(0, vR 11 (283)), (1, vI v1), (2, vI (n32 2))]) (st := []) km206 k206_0 ?_)
            refine And.intro ((h15.2 c18).1 c17).1 ?_
            refine And.intro (fun c16 => ?_) (fun c16 => ?_)
            · refine VL_norm km254 k254_5 (VL_at (al := [(0, vR 11 (283)), (1, vI v1)]) (st := []) km254 k254_5 ?_)
              refine V_of ?_
              refine VL_norm km206 k206_0 (VL_at (al := [(0, vR 11 (283)), (1, vI v1), (2, vI (n32 0))]) (st := []) km206 k206_0 ?_)
              refine And.intro (((h15.2 c18).1 c17).2.1 c16).1 ?_
              refine And.intro (xin_k rfl) ?_
              refine VL_norm km254 k254_7 (VL_at (al := []) (st := [vI ((m15 284 (ix (((n32 171) + ((n32 3) * v1)) + (n32 0)))) - (m15 284 (ix (n32 9))))]) km254 k254_7 ?_)
              exact (((h15.2 c18).1 c17).2.1 c16).2
            · refine VL_norm km254 k254_6 (VL_at (al := []) (st := []) km254 k254_6 ?_)
              refine VL_norm km254 k254_7 (VL_at (al := []) (st := [vI (-(n32 1))]) km254 k254_7 ?_)
              exact (((h15.2 c18).1 c17).2.2 c16)
          · refine VL_norm km254 k254_3 (VL_at (al := [(0, vR 11 (283)), (1, vI v1), (2, vI v2)]) (st := []) km254 k254_3 ?_)
            refine V_of ?_
            refine VL_norm km206 k206_0 (VL_at (al := [(0, vR 11 (283)), (1, vI v1), (2, vI v2)]) (st := []) km206 k206_0 ?_)
            refine And.intro ((h15.2 c18).2 c17).1 ?_
            exact ((h15.2 c18).2 c17).2
      · refine VL_norm km175 k175_1 (VL_at (al := [(0, vI v2), (2, vI (n32 3))]) (st := []) km175 k175_1 ?_)
        refine And.intro (fun c27 => ?_) (fun c27 => ?_)
        · refine VL_norm km175 k175_3 (VL_at (al := []) (st := []) km175 k175_3 ?_)
          refine VL_norm km175 k175_4 (VL_at (al := []) (st := [vI (n32 0)]) km175 k175_4 ?_)
          refine And.intro xrt20 ?_
          refine V_mono ((((h.2 c44).1 c43).2 c28).1 c27) (fun u19 m19 h19 => ?_) (fun _ _ h => h)
          refine And.intro (fun c22 => ?_) (fun c22 => ?_)
          · refine VL_norm km254 k254_1 (VL_at (al := []) (st := []) km254 k254_1 ?_)
            exact (h19.1 c22)
          · refine VL_norm km254 k254_2 (VL_at (al := [(0, vR 11 (283)), (1, vI v1), (2, vI v2)]) (st := []) km254 k254_2 ?_)
            refine And.intro (fun c21 => ?_) (fun c21 => ?_)
            · refine VL_norm km254 k254_4 (VL_at (al := [(0, vR 11 (283)), (1, vI v1)]) (st := []) km254 k254_4 ?_)
              refine V_of ?_
              refine VL_norm km206 k206_0 (VL_at (al := [(0, vR 11 (283)), (1, vI v1), (2, vI (n32 2))]) (st := []) km206 k206_0 ?_)
              refine And.intro ((h19.2 c22).1 c21).1 ?_
              refine And.intro (fun c20 => ?_) (fun c20 => ?_)
              · refine VL_norm km254 k254_5 (VL_at (al := [(0, vR 11 (283)), (1, vI v1)]) (st := []) km254 k254_5 ?_)
                refine V_of ?_
                refine VL_norm km206 k206_0 (VL_at (al := [(0, vR 11 (283)), (1, vI v1), (2, vI (n32 0))]) (st := []) km206 k206_0 ?_)
                refine And.intro (((h19.2 c22).1 c21).2.1 c20).1 ?_
                refine And.intro (xin_k rfl) ?_
                refine VL_norm km254 k254_7 (VL_at (al := []) (st := [vI ((m19 284 (ix (((n32 171) + ((n32 3) * v1)) + (n32 0)))) - (m19 284 (ix (n32 9))))]) km254 k254_7 ?_)
                exact (((h19.2 c22).1 c21).2.1 c20).2
              · refine VL_norm km254 k254_6 (VL_at (al := []) (st := []) km254 k254_6 ?_)
                refine VL_norm km254 k254_7 (VL_at (al := []) (st := [vI (-(n32 1))]) km254 k254_7 ?_)
                exact (((h19.2 c22).1 c21).2.2 c20)
            · refine VL_norm km254 k254_3 (VL_at (al := [(0, vR 11 (283)), (1, vI v1), (2, vI v2)]) (st := []) km254 k254_3 ?_)
              refine V_of ?_
              refine VL_norm km206 k206_0 (VL_at (al := [(0, vR 11 (283)), (1, vI v1), (2, vI v2)]) (st := []) km206 k206_0 ?_)
              refine And.intro ((h19.2 c22).2 c21).1 ?_
              exact ((h19.2 c22).2 c21).2
        · refine VL_norm km175 k175_2 (VL_at (al := []) (st := []) km175 k175_2 ?_)
          refine VL_norm km175 k175_4 (VL_at (al := []) (st := [vI (n32 1)]) km175 k175_4 ?_)
          refine And.intro xrt21 ?_
          refine V_mono ((((h.2 c44).1 c43).2 c28).2 c27) (fun u23 m23 h23 => ?_) (fun _ _ h => h)
          refine And.intro (fun c26 => ?_) (fun c26 => ?_)
          · refine VL_norm km254 k254_1 (VL_at (al := []) (st := []) km254 k254_1 ?_)
            exact (h23.1 c26)
          · refine VL_norm km254 k254_2 (VL_at (al := [(0, vR 11 (283)), (1, vI v1), (2, vI v2)]) (st := []) km254 k254_2 ?_)
            refine And.intro (fun c25 => ?_) (fun c25 => ?_)
            · refine VL_norm km254 k254_4 (VL_at (al := [(0, vR 11 (283)), (1, vI v1)]) (st := []) km254 k254_4 ?_)
              refine V_of ?_
              refine VL_norm km206 k206_0 (VL_at (al := [(0, vR 11 (283)), (1, vI v1), (2, vI (n32 2))]) (st := []) km206 k206_0 ?_)
              refine And.intro ((h23.2 c26).1 c25).1 ?_
              refine And.intro (fun c24 => ?_) (fun c24 => ?_)
              · refine VL_norm km254 k254_5 (VL_at (al := [(0, vR 11 (283)), (1, vI v1)]) (st := []) km254 k254_5 ?_)
                refine V_of ?_
                refine VL_norm km206 k206_0 (VL_at (al := [(0, vR 11 (283)), (1, vI v1), (2, vI (n32 0))]) (st := []) km206 k206_0 ?_)
                refine And.intro (((h23.2 c26).1 c25).2.1 c24).1 ?_
                refine And.intro (xin_k rfl) ?_
                refine VL_norm km254 k254_7 (VL_at (al := []) (st := [vI ((m23 284 (ix (((n32 171) + ((n32 3) * v1)) + (n32 0)))) - (m23 284 (ix (n32 9))))]) km254 k254_7 ?_)
                exact (((h23.2 c26).1 c25).2.1 c24).2
              · refine VL_norm km254 k254_6 (VL_at (al := []) (st := []) km254 k254_6 ?_)
                refine VL_norm km254 k254_7 (VL_at (al := []) (st := [vI (-(n32 1))]) km254 k254_7 ?_)
                exact (((h23.2 c26).1 c25).2.2 c24)
            · refine VL_norm km254 k254_3 (VL_at (al := [(0, vR 11 (283)), (1, vI v1), (2, vI v2)]) (st := []) km254 k254_3 ?_)
              refine V_of ?_
              refine VL_norm km206 k206_0 (VL_at (al := [(0, vR 11 (283)), (1, vI v1), (2, vI v2)]) (st := []) km206 k206_0 ?_)
              refine And.intro ((h23.2 c26).2 c25).1 ?_
              exact ((h23.2 c26).2 c25).2
    · refine VL_norm km175 k175_2 (VL_at (al := []) (st := []) km175 k175_2 ?_)
      refine VL_norm km175 k175_4 (VL_at (al := []) (st := [vI (n32 1)]) km175 k175_4 ?_)
      refine And.intro xrt21 ?_
      refine V_of ?_
      refine VL_norm km175 k175_0 (VL_at (al := [(0, vI v2), (1, vI (n32 0)), (2, vI (n32 3))]) (st := []) km175 k175_0 ?_)
      refine And.intro (fun c42 => ?_) (fun c42 => ?_)
      · refine VL_norm km175 k175_3 (VL_at (al := []) (st := []) km175 k175_3 ?_)
        refine VL_norm km175 k175_4 (VL_at (al := []) (st := [vI (n32 0)]) km175 k175_4 ?_)
        refine And.intro xrt20 ?_
        refine V_mono (((h.2 c44).2 c43).1 c42) (fun u29 m29 h29 => ?_) (fun _ _ h => h)
        refine And.intro (fun c32 => ?_) (fun c32 => ?_)
        · refine VL_norm km254 k254_1 (VL_at (al := []) (st := []) km254 k254_1 ?_)
          exact (h29.1 c32)
        · refine VL_norm km254 k254_2 (VL_at (al := [(0, vR 11 (283)), (1, vI v1), (2, vI v2)]) (st := []) km254 k254_2 ?_)
          refine And.intro (fun c31 => ?_) (fun c31 => ?_)
          · refine VL_norm km254 k254_4 (VL_at (al := [(0, vR 11 (283)), (1, vI v1)]) (st := []) km254 k254_4 ?_)
            refine V_of ?_
            refine VL_norm km206 k206_0 (VL_at (al := [(0, vR 11 (283)), (1, vI v1), (2, vI (n32 2))]) (st := []) km206 k206_0 ?_)
            refine And.intro ((h29.2 c32).1 c31).1 ?_
            refine And.intro (fun c30 => ?_) (fun c30 => ?_)
            · refine VL_norm km254 k254_5 (VL_at (al := [(0, vR 11 (283)), (1, vI v1)]) (st := []) km254 k254_5 ?_)
              refine V_of ?_
              refine VL_norm km206 k206_0 (VL_at (al := [(0, vR 11 (283)), (1, vI v1), (2, vI (n32 0))]) (st := []) km206 k206_0 ?_)
              refine And.intro (((h29.2 c32).1 c31).2.1 c30).1 ?_
              refine And.intro (xin_k rfl) ?_
              refine VL_norm km254 k254_7 (VL_at (al := []) (st := [vI ((m29 284 (ix (((n32 171) + ((n32 3) * v1)) + (n32 0)))) - (m29 284 (ix (n32 9))))]) km254 k254_7 ?_)
              exact (((h29.2 c32).1 c31).2.1 c30).2
            · refine VL_norm km254 k254_6 (VL_at (al := []) (st := []) km254 k254_6 ?_)
              refine VL_norm km254 k254_7 (VL_at (al := []) (st := [vI (-(n32 1))]) km254 k254_7 ?_)
              exact (((h29.2 c32).1 c31).2.2 c30)
          · refine VL_norm km254 k254_3 (VL_at (al := [(0, vR 11 (283)), (1, vI v1), (2, vI v2)]) (st := []) km254 k254_3 ?_)
            refine V_of ?_
            refine VL_norm km206 k206_0 (VL_at (al := [(0, vR 11 (283)), (1, vI v1), (2, vI v2)]) (st := []) km206 k206_0 ?_)
            refine And.intro ((h29.2 c32).2 c31).1 ?_
            exact ((h29.2 c32).2 c31).2
      · refine VL_norm km175 k175_1 (VL_at (al := [(0, vI v2), (2, vI (n32 3))]) (st := []) km175 k175_1 ?_)
        refine And.intro (fun c41 => ?_) (fun c41 => ?_)
        · refine VL_norm km175 k175_3 (VL_at (al := []) (st := []) km175 k175_3 ?_)
          refine VL_norm km175 k175_4 (VL_at (al := []) (st := [vI (n32 0)]) km175 k175_4 ?_)
          refine And.intro xrt20 ?_
          refine V_mono ((((h.2 c44).2 c43).2 c42).1 c41) (fun u33 m33 h33 => ?_) (fun _ _ h => h)
          refine And.intro (fun c36 => ?_) (fun c36 => ?_)
          · refine VL_norm km254 k254_1 (VL_at (al := []) (st := []) km254 k254_1 ?_)
            exact (h33.1 c36)
          · refine VL_norm km254 k254_2 (VL_at (al := [(0, vR 11 (283)), (1, vI v1), (2, vI v2)]) (st := []) km254 k254_2 ?_)
            refine And.intro (fun c35 => ?_) (fun c35 => ?_)
            · refine VL_norm km254 k254_4 (VL_at (al := [(0, vR 11 (283)), (1, vI v1)]) (st := []) km254 k254_4 ?_)
              refine V_of ?_
              refine VL_norm km206 k206_0 (VL_at (al := [(0, vR 11 (283)), (1, vI v1), (2, vI (n32 2))]) (st := []) km206 k206_0 ?_)
              refine And.intro ((h33.2 c36).1 c35).1 ?_
              refine And.intro (fun c34 => ?_) (fun c34 => ?_)
              · refine VL_norm km254 k254_5 (VL_at (al := [(0, vR 11 (283)), (1, vI v1)]) (st := []) km254 k254_5 ?_)
                refine V_of ?_
                refine VL_norm km206 k206_0 (VL_at (al := [(0, vR 11 (283)), (1, vI v1), (2, vI (n32 0))]) (st := []) km206 k206_0 ?_)
                refine And.intro (((h33.2 c36).1 c35).2.1 c34).1 ?_
                refine And.intro (xin_k rfl) ?_
                refine VL_norm km254 k254_7 (VL_at (al := []) (st := [vI ((m33 284 (ix (((n32 171) + ((n32 3) * v1)) + (n32 0)))) - (m33 284 (ix (n32 9))))]) km254 k254_7 ?_)
                exact (((h33.2 c36).1 c35).2.1 c34).2
              · refine VL_norm km254 k254_6 (VL_at (al := []) (st := []) km254 k254_6 ?_)
                refine VL_norm km254 k254_7 (VL_at (al := []) (st := [vI (-(n32 1))]) km254 k254_7 ?_)
                exact (((h33.2 c36).1 c35).2.2 c34)
            · refine VL_norm km254 k254_3 (VL_at (al := [(0, vR 11 (283)), (1, vI v1), (2, vI v2)]) (st := []) km254 k254_3 ?_)
              refine V_of ?_
              refine VL_norm km206 k206_0 (VL_at (al := [(0, vR 11 (283)), (1, vI v1), (2, vI v2)]) (st := []) km206 k206_0 ?_)
              refine And.intro ((h33.2 c36).2 c35).1 ?_
              exact ((h33.2 c36).2 c35).2
        · refine VL_norm km175 k175_2 (VL_at (al := []) (st := []) km175 k175_2 ?_)
          refine VL_norm km175 k175_4 (VL_at (al := []) (st := [vI (n32 1)]) km175 k175_4 ?_)
          refine And.intro xrt21 ?_
          refine V_mono ((((h.2 c44).2 c43).2 c42).2 c41) (fun u37 m37 h37 => ?_) (fun _ _ h => h)
          refine And.intro (fun c40 => ?_) (fun c40 => ?_)
          · refine VL_norm km254 k254_1 (VL_at (al := []) (st := []) km254 k254_1 ?_)
            exact (h37.1 c40)
          · refine VL_norm km254 k254_2 (VL_at (al := [(0, vR 11 (283)), (1, vI v1), (2, vI v2)]) (st := []) km254 k254_2 ?_)
            refine And.intro (fun c39 => ?_) (fun c39 => ?_)
            · refine VL_norm km254 k254_4 (VL_at (al := [(0, vR 11 (283)), (1, vI v1)]) (st := []) km254 k254_4 ?_)
              refine V_of ?_
              refine VL_norm km206 k206_0 (VL_at (al := [(0, vR 11 (283)), (1, vI v1), (2, vI (n32 2))]) (st := []) km206 k206_0 ?_)
              refine And.intro ((h37.2 c40).1 c39).1 ?_
              refine And.intro (fun c38 => ?_) (fun c38 => ?_)
              · refine VL_norm km254 k254_5 (VL_at (al := [(0, vR 11 (283)), (1, vI v1)]) (st := []) km254 k254_5 ?_)
                refine V_of ?_
                refine VL_norm km206 k206_0 (VL_at (al := [(0, vR 11 (283)), (1, vI v1), (2, vI (n32 0))]) (st := []) km206 k206_0 ?_)
                refine And.intro (((h37.2 c40).1 c39).2.1 c38).1 ?_
                refine And.intro (xin_k rfl) ?_
                refine VL_norm km254 k254_7 (VL_at (al := []) (st := [vI ((m37 284 (ix (((n32 171) + ((n32 3) * v1)) + (n32 0)))) - (m37 284 (ix (n32 9))))]) km254 k254_7 ?_)
                exact (((h37.2 c40).1 c39).2.1 c38).2
              · refine VL_norm km254 k254_6 (VL_at (al := []) (st := []) km254 k254_6 ?_)
                refine VL_norm km254 k254_7 (VL_at (al := []) (st := [vI (-(n32 1))]) km254 k254_7 ?_)
                exact (((h37.2 c40).1 c39).2.2 c38)
            · refine VL_norm km254 k254_3 (VL_at (al := [(0, vR 11 (283)), (1, vI v1), (2, vI v2)]) (st := []) km254 k254_3 ?_)
              refine V_of ?_
              refine VL_norm km206 k206_0 (VL_at (al := [(0, vR 11 (283)), (1, vI v1), (2, vI v2)]) (st := []) km206 k206_0 ?_)
              refine And.intro ((h37.2 c40).2 c39).1 ?_
              exact ((h37.2 c40).2 c39).2
/-- BannerParadeModel.lying, label 0 -/
theorem w255_0 {D : Nat} {v1 : Int32} {v2 : Int32} {m : XM} {Q : Int32 → XM → Prop} {E : Nat → XM → Prop}
    (h : ((v1 < (n32 0) → ((v2 < (n32 0) → VI D 176 [vR 11 (283), vI (m 283 6), vI (n32 0), vI (n32 0)] m (fun x1 m1 => ((x1 = (n32 0) → Q (n32 0) m1) ∧ (¬ x1 = (n32 0) → (xin (((n32 207) + ((n32 3) * v1)) + v2) 243 = true ∧ Q (m1 284 (ix (((n32 207) + ((n32 3) * v1)) + v2))) m1)))) E) ∧ (¬ v2 < (n32 0) → (((n32 2) < v2 → VI D 176 [vR 11 (283), vI (m 283 6), vI (n32 0), vI (n32 0)] m (fun x3 m3 => ((x3 = (n32 0) → Q (n32 0) m3) ∧ (¬ x3 = (n32 0) → (xin (((n32 207) + ((n32 3) * v1)) + v2) 243 = true ∧ Q (m3 284 (ix (((n32 207) + ((n32 3) * v1)) + v2))) m3)))) E) ∧ (¬ (n32 2) < v2 → VI D 176 [vR 11 (283), vI (m 283 6), vI (n32 0), vI (n32 1)] m (fun x5 m5 => ((x5 = (n32 0) → Q (n32 0) m5) ∧ (¬ x5 = (n32 0) → (xin (((n32 207) + ((n32 3) * v1)) + v2) 243 = true ∧ Q (m5 284 (ix (((n32 207) + ((n32 3) * v1)) + v2))) m5)))) E))))) ∧ (¬ v1 < (n32 0) → ((((m 284 (ix (n32 10))) - (n32 1)) < v1 → ((v2 < (n32 0) → VI D 176 [vR 11 (283), vI (m 283 6), vI (n32 0), vI (n32 0)] m (fun x9 m9 => ((x9 = (n32 0) → Q (n32 0) m9) ∧ (¬ x9 = (n32 0) → (xin (((n32 207) + ((n32 3) * v1)) + v2) 243 = true ∧ Q (m9 284 (ix (((n32 207) + ((n32 3) * v1)) + v2))) m9)))) E) ∧ (¬ v2 < (n32 0) → (((n32 2) < v2 → VI D 176 [vR 11 (283), vI (m 283 6), vI (n32 0), vI (n32 0)] m (fun x11 m11 => ((x11 = (n32 0) → Q (n32 0) m11) ∧ (¬ x11 = (n32 0) → (xin (((n32 207) + ((n32 3) * v1)) + v2) 243 = true ∧ Q (m11 284 (ix (((n32 207) + ((n32 3) * v1)) + v2))) m11)))) E) ∧ (¬ (n32 2) < v2 → VI D 176 [vR 11 (283), vI (m 283 6), vI (n32 0), vI (n32 1)] m (fun x13 m13 => ((x13 = (n32 0) → Q (n32 0) m13) ∧ (¬ x13 = (n32 0) → (xin (((n32 207) + ((n32 3) * v1)) + v2) 243 = true ∧ Q (m13 284 (ix (((n32 207) + ((n32 3) * v1)) + v2))) m13)))) E))))) ∧ (¬ ((m 284 (ix (n32 10))) - (n32 1)) < v1 → ((v2 < (n32 0) → VI D 176 [vR 11 (283), vI (m 283 6), vI (n32 1), vI (n32 0)] m (fun x17 m17 => ((x17 = (n32 0) → Q (n32 0) m17) ∧ (¬ x17 = (n32 0) → (xin (((n32 207) + ((n32 3) * v1)) + v2) 243 = true ∧ Q (m17 284 (ix (((n32 207) + ((n32 3) * v1)) + v2))) m17)))) E) ∧ (¬ v2 < (n32 0) → (((n32 2) < v2 → VI D 176 [vR 11 (283), vI (m 283 6), vI (n32 1), vI (n32 0)] m (fun x19 m19 => ((x19 = (n32 0) → Q (n32 0) m19) ∧ (¬ x19 = (n32 0) → (xin (((n32 207) + ((n32 3) * v1)) + v2) 243 = true ∧ Q (m19 284 (ix (((n32 207) + ((n32 3) * v1)) + v2))) m19)))) E) ∧ (¬ (n32 2) < v2 → VI D 176 [vR 11 (283), vI (m 283 6), vI (n32 1), vI (n32 1)] m (fun x21 m21 => ((x21 = (n32 0) → Q (n32 0) m21) ∧ (¬ x21 = (n32 0) → (xin (((n32 207) + ((n32 3) * v1)) + v2) 243 = true ∧ Q (m21 284 (ix (((n32 207) + ((n32 3) * v1)) + v2))) m21)))) E))))))))) :
    VI (D + 1) 255 [vR 11 (283), vI v1, vI v2] m Q E := by
  refine V_of (VL_at (al := [(0, vR 11 (283)), (1, vI v1), (2, vI v2)]) (st := []) km255 k255_0 ?_)
  refine And.intro (xin_k rfl) ?_
  refine V_of ?_
  refine VL_norm km175 k175_0 (VL_at (al := [(0, vI v1), (1, vI (n32 0)), (2, vI ((m 284 (ix (n32 10))) - (n32 1)))]) (st := []) km175 k175_0 ?_)
  refine And.intro (fun c26 => ?_) (fun c26 => ?_)
  · refine VL_norm km175 k175_3 (VL_at (al := []) (st := []) km175 k175_3 ?_)
    refine VL_norm km175 k175_4 (VL_at (al := []) (st := [vI (n32 0)]) km175 k175_4 ?_)
    refine And.intro xrt20 ?_
    refine V_of ?_
    refine VL_norm km175 k175_0 (VL_at (al := [(0, vI v2), (1, vI (n32 0)), (2, vI (n32 2))]) (st := []) km175 k175_0 ?_)
    refine And.intro (fun c8 => ?_) (fun c8 => ?_)
    · refine VL_norm km175 k175_3 (VL_at (al := []) (st := []) km175 k175_3 ?_)
      refine VL_norm km175 k175_4 (VL_at (al := []) (st := [vI (n32 0)]) km175 k175_4 ?_)
      refine And.intro xrt20 ?_
      refine V_mono ((h.1 c26).1 c8) (fun u1 m1 h1 => ?_) (fun _ _ h => h)
      refine And.intro (fun c2 => ?_) (fun c2 => ?_)
      · refine VL_norm km255 k255_2 (VL_at (al := []) (st := []) km255 k255_2 ?_)
        refine VL_norm km255 k255_3 (VL_at (al := []) (st := [vI (n32 0)]) km255 k255_3 ?_)
        exact (h1.1 c2)
      · refine VL_norm km255 k255_1 (VL_at (al := [(0, vR 11 (283)), (1, vI v1), (2, vI v2)]) (st := []) km255 k255_1 ?_)
        refine V_of ?_
        refine VL_norm km207 k207_0 (VL_at (al := [(0, vR 11 (283)), (1, vI v1), (2, vI v2)]) (st := []) km207 k207_0 ?_)
        refine And.intro (h1.2 c2).1 ?_
        refine VL_norm km255 k255_3 (VL_at (al := []) (st := [vI (m1 284 (ix (((n32 207) + ((n32 3) * v1)) + v2)))]) km255 k255_3 ?_)
        exact (h1.2 c2).2
    · refine VL_norm km175 k175_1 (VL_at (al := [(0, vI v2), (2, vI (n32 2))]) (st := []) km175 k175_1 ?_)
      refine And.intro (fun c7 => ?_) (fun c7 => ?_)
      · refine VL_norm km175 k175_3 (VL_at (al := []) (st := []) km175 k175_3 ?_)
        refine VL_norm km175 k175_4 (VL_at (al := []) (st := [vI (n32 0)]) km175 k175_4 ?_)
        refine And.intro xrt20 ?_
        refine V_mono (((h.1 c26).2 c8).1 c7) (fun u3 m3 h3 => ?_) (fun _ _ h => h)
        refine And.intro (fun c4 => ?_) (fun c4 => ?_)
        · refine VL_norm km255 k255_2 (VL_at (al := []) (st := []) km255 k255_2 ?_)
          refine VL_norm km255 k255_3 (VL_at (al := []) (st := [vI (n32 0)]) km255 k255_3 ?_)
          exact (h3.1 c4)
        · refine VL_norm km255 k255_1 (VL_at (al := [(0, vR 11 (283)), (1, vI v1), (2, vI v2)]) (st := []) km255 k255_1 ?_)
          refine V_of ?_
          refine VL_norm km207 k207_0 (VL_at (al := [(0, vR 11 (283)), (1, vI v1), (2, vI v2)]) (st := []) km207 k207_0 ?_)
          refine And.intro (h3.2 c4).1 ?_
          refine VL_norm km255 k255_3 (VL_at (al := []) (st := [vI (m3 284 (ix (((n32 207) + ((n32 3) * v1)) + v2)))]) km255 k255_3 ?_)
          exact (h3.2 c4).2
      · refine VL_norm km175 k175_2 (VL_at (al := []) (st := []) km175 k175_2 ?_)
        refine VL_norm km175 k175_4 (VL_at (al := []) (st := [vI (n32 1)]) km175 k175_4 ?_)
        refine And.intro xrt21 ?_
        refine V_mono (((h.1 c26).2 c8).2 c7) (fun u5 m5 h5 => ?_) (fun _ _ h => h)
        refine And.intro (fun c6 => ?_) (fun c6 => ?_)
        · refine VL_norm km255 k255_2 (VL_at (al := []) (st := []) km255 k255_2 ?_)
          refine VL_norm km255 k255_3 (VL_at (al := []) (st := [vI (n32 0)]) km255 k255_3 ?_)
          exact (h5.1 c6)
        · refine VL_norm km255 k255_1 (VL_at (al := [(0, vR 11 (283)), (1, vI v1), (2, vI v2)]) (st := []) km255 k255_1 ?_)
          refine V_of ?_
          refine VL_norm km207 k207_0 (VL_at (al := [(0, vR 11 (283)), (1, vI v1), (2, vI v2)]) (st := []) km207 k207_0 ?_)
          refine And.intro (h5.2 c6).1 ?_
          refine VL_norm km255 k255_3 (VL_at (al := []) (st := [vI (m5 284 (ix (((n32 207) + ((n32 3) * v1)) + v2)))]) km255 k255_3 ?_)
          exact (h5.2 c6).2
  · refine VL_norm km175 k175_1 (VL_at (al := [(0, vI v1), (2, vI ((m 284 (ix (n32 10))) - (n32 1)))]) (st := []) km175 k175_1 ?_)
    refine And.intro (fun c25 => ?_) (fun c25 => ?_)
    · refine VL_norm km175 k175_3 (VL_at (al := []) (st := []) km175 k175_3 ?_)
      refine VL_norm km175 k175_4 (VL_at (al := []) (st := [vI (n32 0)]) km175 k175_4 ?_)
      refine And.intro xrt20 ?_
      refine V_of ?_
      refine VL_norm km175 k175_0 (VL_at (al := [(0, vI v2), (1, vI (n32 0)), (2, vI (n32 2))]) (st := []) km175 k175_0 ?_)
      refine And.intro (fun c16 => ?_) (fun c16 => ?_)
      · refine VL_norm km175 k175_3 (VL_at (al := []) (st := []) km175 k175_3 ?_)
        refine VL_norm km175 k175_4 (VL_at (al := []) (st := [vI (n32 0)]) km175 k175_4 ?_)
        refine And.intro xrt20 ?_
        refine V_mono (((h.2 c26).1 c25).1 c16) (fun u9 m9 h9 => ?_) (fun _ _ h => h)
        refine And.intro (fun c10 => ?_) (fun c10 => ?_)
        · refine VL_norm km255 k255_2 (VL_at (al := []) (st := []) km255 k255_2 ?_)
          refine VL_norm km255 k255_3 (VL_at (al := []) (st := [vI (n32 0)]) km255 k255_3 ?_)
          exact (h9.1 c10)
        · refine VL_norm km255 k255_1 (VL_at (al := [(0, vR 11 (283)), (1, vI v1), (2, vI v2)]) (st := []) km255 k255_1 ?_)
          refine V_of ?_
          refine VL_norm km207 k207_0 (VL_at (al := [(0, vR 11 (283)), (1, vI v1), (2, vI v2)]) (st := []) km207 k207_0 ?_)
          refine And.intro (h9.2 c10).1 ?_
          refine VL_norm km255 k255_3 (VL_at (al := []) (st := [vI (m9 284 (ix (((n32 207) + ((n32 3) * v1)) + v2)))]) km255 k255_3 ?_)
          exact (h9.2 c10).2
      · refine VL_norm km175 k175_1 (VL_at (al := [(0, vI v2), (2, vI (n32 2))]) (st := []) km175 k175_1 ?_)
        refine And.intro (fun c15 => ?_) (fun c15 => ?_)
        · refine VL_norm km175 k175_3 (VL_at (al := []) (st := []) km175 k175_3 ?_)
          refine VL_norm km175 k175_4 (VL_at (al := []) (st := [vI (n32 0)]) km175 k175_4 ?_)
          refine And.intro xrt20 ?_
          refine V_mono ((((h.2 c26).1 c25).2 c16).1 c15) (fun u11 m11 h11 => ?_) (fun _ _ h => h)
          refine And.intro (fun c12 => ?_) (fun c12 => ?_)
          · refine VL_norm km255 k255_2 (VL_at (al := []) (st := []) km255 k255_2 ?_)
            refine VL_norm km255 k255_3 (VL_at (al := []) (st := [vI (n32 0)]) km255 k255_3 ?_)
            exact (h11.1 c12)
          · refine VL_norm km255 k255_1 (VL_at (al := [(0, vR 11 (283)), (1, vI v1), (2, vI v2)]) (st := []) km255 k255_1 ?_)
            refine V_of ?_
            refine VL_norm km207 k207_0 (VL_at (al := [(0, vR 11 (283)), (1, vI v1), (2, vI v2)]) (st := []) km207 k207_0 ?_)
            refine And.intro (h11.2 c12).1 ?_
            refine VL_norm km255 k255_3 (VL_at (al := []) (st := [vI (m11 284 (ix (((n32 207) + ((n32 3) * v1)) + v2)))]) km255 k255_3 ?_)
            exact (h11.2 c12).2
        · refine VL_norm km175 k175_2 (VL_at (al := []) (st := []) km175 k175_2 ?_)
          refine VL_norm km175 k175_4 (VL_at (al := []) (st := [vI (n32 1)]) km175 k175_4 ?_)
          refine And.intro xrt21 ?_
          refine V_mono ((((h.2 c26).1 c25).2 c16).2 c15) (fun u13 m13 h13 => ?_) (fun _ _ h => h)
          refine And.intro (fun c14 => ?_) (fun c14 => ?_)
          · refine VL_norm km255 k255_2 (VL_at (al := []) (st := []) km255 k255_2 ?_)
            refine VL_norm km255 k255_3 (VL_at (al := []) (st := [vI (n32 0)]) km255 k255_3 ?_)
            exact (h13.1 c14)
          · refine VL_norm km255 k255_1 (VL_at (al := [(0, vR 11 (283)), (1, vI v1), (2, vI v2)]) (st := []) km255 k255_1 ?_)
            refine V_of ?_
            refine VL_norm km207 k207_0 (VL_at (al := [(0, vR 11 (283)), (1, vI v1), (2, vI v2)]) (st := []) km207 k207_0 ?_)
            refine And.intro (h13.2 c14).1 ?_
            refine VL_norm km255 k255_3 (VL_at (al := []) (st := [vI (m13 284 (ix (((n32 207) + ((n32 3) * v1)) + v2)))]) km255 k255_3 ?_)
            exact (h13.2 c14).2
    · refine VL_norm km175 k175_2 (VL_at (al := []) (st := []) km175 k175_2 ?_)
      refine VL_norm km175 k175_4 (VL_at (al := []) (st := [vI (n32 1)]) km175 k175_4 ?_)
      refine And.intro xrt21 ?_
      refine V_of ?_
      refine VL_norm km175 k175_0 (VL_at (al := [(0, vI v2), (1, vI (n32 0)), (2, vI (n32 2))]) (st := []) km175 k175_0 ?_)
      refine And.intro (fun c24 => ?_) (fun c24 => ?_)
      · refine VL_norm km175 k175_3 (VL_at (al := []) (st := []) km175 k175_3 ?_)
        refine VL_norm km175 k175_4 (VL_at (al := []) (st := [vI (n32 0)]) km175 k175_4 ?_)
        refine And.intro xrt20 ?_
        refine V_mono (((h.2 c26).2 c25).1 c24) (fun u17 m17 h17 => ?_) (fun _ _ h => h)
        refine And.intro (fun c18 => ?_) (fun c18 => ?_)
        · refine VL_norm km255 k255_2 (VL_at (al := []) (st := []) km255 k255_2 ?_)
          refine VL_norm km255 k255_3 (VL_at (al := []) (st := [vI (n32 0)]) km255 k255_3 ?_)
          exact (h17.1 c18)
        · refine VL_norm km255 k255_1 (VL_at (al := [(0, vR 11 (283)), (1, vI v1), (2, vI v2)]) (st := []) km255 k255_1 ?_)
          refine V_of ?_
          refine VL_norm km207 k207_0 (VL_at (al := [(0, vR 11 (283)), (1, vI v1), (2, vI v2)]) (st := []) km207 k207_0 ?_)
          refine And.intro (h17.2 c18).1 ?_
          refine VL_norm km255 k255_3 (VL_at (al := []) (st := [vI (m17 284 (ix (((n32 207) + ((n32 3) * v1)) + v2)))]) km255 k255_3 ?_)
          exact (h17.2 c18).2
      · refine VL_norm km175 k175_1 (VL_at (al := [(0, vI v2), (2, vI (n32 2))]) (st := []) km175 k175_1 ?_)
        refine And.intro (fun c23 => ?_) (fun c23 => ?_)
        · refine VL_norm km175 k175_3 (VL_at (al := []) (st := []) km175 k175_3 ?_)
          refine VL_norm km175 k175_4 (VL_at (al := []) (st := [vI (n32 0)]) km175 k175_4 ?_)
          refine And.intro xrt20 ?_
          refine V_mono ((((h.2 c26).2 c25).2 c24).1 c23) (fun u19 m19 h19 => ?_) (fun _ _ h => h)
          refine And.intro (fun c20 => ?_) (fun c20 => ?_)
          · refine VL_norm km255 k255_2 (VL_at (al := []) (st := []) km255 k255_2 ?_)
            refine VL_norm km255 k255_3 (VL_at (al := []) (st := [vI (n32 0)]) km255 k255_3 ?_)
            exact (h19.1 c20)
          · refine VL_norm km255 k255_1 (VL_at (al := [(0, vR 11 (283)), (1, vI v1), (2, vI v2)]) (st := []) km255 k255_1 ?_)
            refine V_of ?_
            refine VL_norm km207 k207_0 (VL_at (al := [(0, vR 11 (283)), (1, vI v1), (2, vI v2)]) (st := []) km207 k207_0 ?_)
            refine And.intro (h19.2 c20).1 ?_
            refine VL_norm km255 k255_3 (VL_at (al := []) (st := [vI (m19 284 (ix (((n32 207) + ((n32 3) * v1)) + v2)))]) km255 k255_3 ?_)
            exact (h19.2 c20).2
        · refine VL_norm km175 k175_2 (VL_at (al := []) (st := []) km175 k175_2 ?_)
          refine VL_norm km175 k175_4 (VL_at (al := []) (st := [vI (n32 1)]) km175 k175_4 ?_)
          refine And.intro xrt21 ?_
          refine V_mono ((((h.2 c26).2 c25).2 c24).2 c23) (fun u21 m21 h21 => ?_) (fun _ _ h => h)
          refine And.intro (fun c22 => ?_) (fun c22 => ?_)
          · refine VL_norm km255 k255_2 (VL_at (al := []) (st := []) km255 k255_2 ?_)
            refine VL_norm km255 k255_3 (VL_at (al := []) (st := [vI (n32 0)]) km255 k255_3 ?_)
            exact (h21.1 c22)
          · refine VL_norm km255 k255_1 (VL_at (al := [(0, vR 11 (283)), (1, vI v1), (2, vI v2)]) (st := []) km255 k255_1 ?_)
            refine V_of ?_
            refine VL_norm km207 k207_0 (VL_at (al := [(0, vR 11 (283)), (1, vI v1), (2, vI v2)]) (st := []) km207 k207_0 ?_)
            refine And.intro (h21.2 c22).1 ?_
            refine VL_norm km255 k255_3 (VL_at (al := []) (st := [vI (m21 284 (ix (((n32 207) + ((n32 3) * v1)) + v2)))]) km255 k255_3 ?_)
            exact (h21.2 c22).2
/-- BannerParadeModel.wordByte, label 0 -/
theorem w256_0 {D : Nat} {v1 : Int32} {v2 : Int32} {m : XM} {Q : Int32 → XM → Prop} {E : Nat → XM → Prop}
    (h : VI (D + 2) 242 [vR 11 (283), vI v1] m (fun x1 m1 => ((x1 = (n32 0) → Q (n32 0) m1) ∧ (¬ x1 = (n32 0) → (xin (((n32 99) + ((n32 12) * v1)) + (n32 2)) 243 = true ∧ ((v2 < (n32 0) → Q (-(n32 1)) m1) ∧ (¬ v2 < (n32 0) → ((((m1 284 (ix (((n32 99) + ((n32 12) * v1)) + (n32 2)))) - (n32 1)) < v2 → Q (-(n32 1)) m1) ∧ (¬ ((m1 284 (ix (((n32 99) + ((n32 12) * v1)) + (n32 2)))) - (n32 1)) < v2 → (xin (((n32 99) + ((n32 12) * v1)) + ((n32 4) + v2)) 243 = true ∧ Q (m1 284 (ix (((n32 99) + ((n32 12) * v1)) + ((n32 4) + v2)))) m1))))))))) E) :
    VI (D + 3) 256 [vR 11 (283), vI v1, vI v2] m Q E := by
  refine V_of (VL_at (al := [(0, vR 11 (283)), (1, vI v1), (2, vI v2)]) (st := []) km256 k256_0 ?_)
  refine V_mono h (fun u1 m1 h1 => ?_) (fun _ _ h => h)
  refine And.intro (fun c4 => ?_) (fun c4 => ?_)
  · refine VL_norm km256 k256_1 (VL_at (al := []) (st := []) km256 k256_1 ?_)
    exact (h1.1 c4)
  · refine VL_norm km256 k256_2 (VL_at (al := [(0, vR 11 (283)), (1, vI v1), (2, vI v2)]) (st := []) km256 k256_2 ?_)
    refine V_of ?_
    refine VL_norm km204 k204_0 (VL_at (al := [(0, vR 11 (283)), (1, vI v1), (2, vI (n32 2))]) (st := []) km204 k204_0 ?_)
    refine And.intro (h1.2 c4).1 ?_
    refine V_of ?_
    refine VL_norm km175 k175_0 (VL_at (al := [(0, vI v2), (1, vI (n32 0)), (2, vI ((m1 284 (ix (((n32 99) + ((n32 12) * v1)) + (n32 2)))) - (n32 1)))]) (st := []) km175 k175_0 ?_)
    refine And.intro (fun c3 => ?_) (fun c3 => ?_)
    · refine VL_norm km175 k175_3 (VL_at (al := []) (st := []) km175 k175_3 ?_)
      refine VL_norm km175 k175_4 (VL_at (al := []) (st := [vI (n32 0)]) km175 k175_4 ?_)
      refine And.intro xrt20 ?_
      refine And.intro (fun _ => ?_) (fun c => absurd (by decide) c)
      refine VL_norm km256 k256_4 (VL_at (al := []) (st := []) km256 k256_4 ?_)
      refine VL_norm km256 k256_5 (VL_at (al := []) (st := [vI (-(n32 1))]) km256 k256_5 ?_)
      exact ((h1.2 c4).2.1 c3)
    · refine VL_norm km175 k175_1 (VL_at (al := [(0, vI v2), (2, vI ((m1 284 (ix (((n32 99) + ((n32 12) * v1)) + (n32 2)))) - (n32 1)))]) (st := []) km175 k175_1 ?_)
      refine And.intro (fun c2 => ?_) (fun c2 => ?_)
      · refine VL_norm km175 k175_3 (VL_at (al := []) (st := []) km175 k175_3 ?_)
        refine VL_norm km175 k175_4 (VL_at (al := []) (st := [vI (n32 0)]) km175 k175_4 ?_)
        refine And.intro xrt20 ?_
        refine And.intro (fun _ => ?_) (fun c => absurd (by decide) c)
        refine VL_norm km256 k256_4 (VL_at (al := []) (st := []) km256 k256_4 ?_)
        refine VL_norm km256 k256_5 (VL_at (al := []) (st := [vI (-(n32 1))]) km256 k256_5 ?_)
        exact (((h1.2 c4).2.2 c3).1 c2)
      · refine VL_norm km175 k175_2 (VL_at (al := []) (st := []) km175 k175_2 ?_)
        refine VL_norm km175 k175_4 (VL_at (al := []) (st := [vI (n32 1)]) km175 k175_4 ?_)
        refine And.intro xrt21 ?_
        refine And.intro (fun c => absurd c (by decide)) (fun _ => ?_)
        refine VL_norm km256 k256_3 (VL_at (al := [(0, vR 11 (283)), (1, vI v1), (2, vI v2)]) (st := []) km256 k256_3 ?_)
        refine V_of ?_
        refine VL_norm km204 k204_0 (VL_at (al := [(0, vR 11 (283)), (1, vI v1), (2, vI ((n32 4) + v2))]) (st := []) km204 k204_0 ?_)
        refine And.intro (((h1.2 c4).2.2 c3).2 c2).1 ?_
        refine VL_norm km256 k256_5 (VL_at (al := []) (st := [vI (m1 284 (ix (((n32 99) + ((n32 12) * v1)) + ((n32 4) + v2))))]) km256 k256_5 ?_)
        exact (((h1.2 c4).2.2 c3).2 c2).2
/-- BannerParadeModel.readByte, label 0 -/
theorem w257_0 {D : Nat} {v1 : Int32} {v2 : Int32} {m : XM} {Q : Int32 → XM → Prop} {E : Nat → XM → Prop}
    (h : VI (D + 2) 242 [vR 11 (283), vI v1] m (fun x1 m1 => ((x1 = (n32 0) → Q (n32 0) m1) ∧ (¬ x1 = (n32 0) → VU (D + 2) 220 [vR 11 (283), vI v1] m1 (fun m2 => ((v2 < (n32 0) → Q (-(n32 1)) m2) ∧ (¬ v2 < (n32 0) → ((((m2 283 18) - (n32 1)) < v2 → Q (-(n32 1)) m2) ∧ (¬ ((m2 283 18) - (n32 1)) < v2 → (xin v2 24 = true ∧ Q (m2 290 (ix v2)) m2)))))) E))) E) :
    VI (D + 3) 257 [vR 11 (283), vI v1, vI v2] m Q E := by
  refine V_of (VL_at (al := [(0, vR 11 (283)), (1, vI v1), (2, vI v2)]) (st := []) km257 k257_0 ?_)
  refine V_mono h (fun u1 m1 h1 => ?_) (fun _ _ h => h)
  refine And.intro (fun c5 => ?_) (fun c5 => ?_)
  · refine VL_norm km257 k257_1 (VL_at (al := []) (st := []) km257 k257_1 ?_)
    exact (h1.1 c5)
  · refine VL_norm km257 k257_2 (VL_at (al := [(0, vR 11 (283)), (1, vI v1), (2, vI v2)]) (st := []) km257 k257_2 ?_)
    refine V_mono (h1.2 c5) (fun u2 m2 h2 => ?_) (fun _ _ h => h)
    refine V_of ?_
    refine VL_norm km175 k175_0 (VL_at (al := [(0, vI v2), (1, vI (n32 0)), (2, vI ((m2 283 18) - (n32 1)))]) (st := []) km175 k175_0 ?_)
    refine And.intro (fun c4 => ?_) (fun c4 => ?_)
    · refine VL_norm km175 k175_3 (VL_at (al := []) (st := []) km175 k175_3 ?_)
      refine VL_norm km175 k175_4 (VL_at (al := []) (st := [vI (n32 0)]) km175 k175_4 ?_)
      refine And.intro xrt20 ?_
      refine And.intro (fun _ => ?_) (fun c => absurd (by decide) c)
      refine VL_norm km257 k257_4 (VL_at (al := []) (st := []) km257 k257_4 ?_)
      refine VL_norm km257 k257_5 (VL_at (al := []) (st := [vI (-(n32 1))]) km257 k257_5 ?_)
      exact (h2.1 c4)
    · refine VL_norm km175 k175_1 (VL_at (al := [(0, vI v2), (2, vI ((m2 283 18) - (n32 1)))]) (st := []) km175 k175_1 ?_)
      refine And.intro (fun c3 => ?_) (fun c3 => ?_)
      · refine VL_norm km175 k175_3 (VL_at (al := []) (st := []) km175 k175_3 ?_)
        refine VL_norm km175 k175_4 (VL_at (al := []) (st := [vI (n32 0)]) km175 k175_4 ?_)
        refine And.intro xrt20 ?_
        refine And.intro (fun _ => ?_) (fun c => absurd (by decide) c)
        refine VL_norm km257 k257_4 (VL_at (al := []) (st := []) km257 k257_4 ?_)
        refine VL_norm km257 k257_5 (VL_at (al := []) (st := [vI (-(n32 1))]) km257 k257_5 ?_)
        exact ((h2.2 c4).1 c3)
      · refine VL_norm km175 k175_2 (VL_at (al := []) (st := []) km175 k175_2 ?_)
        refine VL_norm km175 k175_4 (VL_at (al := []) (st := [vI (n32 1)]) km175 k175_4 ?_)
        refine And.intro xrt21 ?_
        refine And.intro (fun c => absurd c (by decide)) (fun _ => ?_)
        refine VL_norm km257 k257_3 (VL_at (al := [(0, vR 11 (283)), (2, vI v2)]) (st := []) km257 k257_3 ?_)
        refine And.intro ((h2.2 c4).2 c3).1 ?_
        refine VL_norm km257 k257_5 (VL_at (al := []) (st := [vI (m2 290 (ix v2))]) km257 k257_5 ?_)
        exact ((h2.2 c4).2 c3).2
/-- BannerParadeModel.seen, label 0 -/
theorem w258_0 {D : Nat} {v1 : Int32} {m : XM} {Q : Int32 → XM → Prop} {E : Nat → XM → Prop}
    (h : VI (D + 2) 242 [vR 11 (283), vI v1] m (fun x1 m1 => ((x1 = (n32 0) → Q (n32 0) m1) ∧ (¬ x1 = (n32 0) → VI (D + 2) 247 [vR 11 (283), vI v1] m1 (fun x2 m2 => Q x2 m2) E))) E) :
    VI (D + 3) 258 [vR 11 (283), vI v1] m Q E := by
  refine V_of (VL_at (al := [(0, vR 11 (283)), (1, vI v1)]) (st := []) km258 k258_0 ?_)
  refine V_mono h (fun u1 m1 h1 => ?_) (fun _ _ h => h)
  refine And.intro (fun c3 => ?_) (fun c3 => ?_)
  · refine VL_norm km258 k258_2 (VL_at (al := []) (st := []) km258 k258_2 ?_)
    refine VL_norm km258 k258_3 (VL_at (al := []) (st := [vI (n32 0)]) km258 k258_3 ?_)
    exact (h1.1 c3)
  · refine VL_norm km258 k258_1 (VL_at (al := [(0, vR 11 (283)), (1, vI v1)]) (st := []) km258 k258_1 ?_)
    refine V_mono (h1.2 c3) (fun u2 m2 h2 => ?_) (fun _ _ h => h)
    refine VL_norm km258 k258_3 (VL_at (al := []) (st := [vI (xti u2)]) km258 k258_3 ?_)
    exact h2
/-- BannerParadeModel.matches, label 0 -/
theorem w259_0 {D : Nat} {v1 : Int32} {m : XM} {Q : Int32 → XM → Prop} {E : Nat → XM → Prop}
    (h : VI (D + 3) 242 [vR 11 (283), vI v1] m (fun x1 m1 => ((x1 = (n32 0) → Q (n32 0) m1) ∧ (¬ x1 = (n32 0) → VI (D + 3) 222 [vR 11 (283), vI v1] m1 (fun x2 m2 => Q x2 m2) E))) E) :
    VI (D + 4) 259 [vR 11 (283), vI v1] m Q E := by
  refine V_of (VL_at (al := [(0, vR 11 (283)), (1, vI v1)]) (st := []) km259 k259_0 ?_)
  refine V_mono h (fun u1 m1 h1 => ?_) (fun _ _ h => h)
  refine And.intro (fun c3 => ?_) (fun c3 => ?_)
  · refine VL_norm km259 k259_2 (VL_at (al := []) (st := []) km259 k259_2 ?_)
    refine VL_norm km259 k259_3 (VL_at (al := []) (st := [vI (n32 0)]) km259 k259_3 ?_)
    exact (h1.1 c3)
  · refine VL_norm km259 k259_1 (VL_at (al := [(0, vR 11 (283)), (1, vI v1)]) (st := []) km259 k259_1 ?_)
    refine V_mono (h1.2 c3) (fun u2 m2 h2 => ?_) (fun _ _ h => h)
    refine VL_norm km259 k259_3 (VL_at (al := []) (st := [vI (xti u2)]) km259 k259_3 ?_)
    exact h2
/-- BannerParadeModel.isRead, label 0 -/
theorem w260_0 {D : Nat} {v1 : Int32} {m : XM} {Q : Int32 → XM → Prop} {E : Nat → XM → Prop}
    (h : VI (D + 4) 242 [vR 11 (283), vI v1] m (fun x1 m1 => ((x1 = (n32 0) → Q (n32 0) m1) ∧ (¬ x1 = (n32 0) → VI (D + 4) 223 [vR 11 (283), vI v1] m1 (fun x2 m2 => ((x2 = (n32 0) → Q (n32 0) m2) ∧ (¬ x2 = (n32 0) → Q (n32 1) m2))) E))) E) :
    VI (D + 5) 260 [vR 11 (283), vI v1] m Q E := by
  refine V_of (VL_at (al := [(0, vR 11 (283)), (1, vI v1)]) (st := []) km260 k260_0 ?_)
  refine V_mono h (fun u1 m1 h1 => ?_) (fun _ _ h => h)
  refine And.intro (fun c4 => ?_) (fun c4 => ?_)
  · refine VL_norm km260 k260_3 (VL_at (al := []) (st := []) km260 k260_3 ?_)
    refine VL_norm km260 k260_4 (VL_at (al := []) (st := [vI (n32 0)]) km260 k260_4 ?_)
    refine And.intro xrt20 ?_
    exact (h1.1 c4)
  · refine VL_norm km260 k260_1 (VL_at (al := [(0, vR 11 (283)), (1, vI v1)]) (st := []) km260 k260_1 ?_)
    refine V_mono (h1.2 c4) (fun u2 m2 h2 => ?_) (fun _ _ h => h)
    refine And.intro (fun c3 => ?_) (fun c3 => ?_)
    · refine VL_norm km260 k260_3 (VL_at (al := []) (st := []) km260 k260_3 ?_)
      refine VL_norm km260 k260_4 (VL_at (al := []) (st := [vI (n32 0)]) km260 k260_4 ?_)
      refine And.intro xrt20 ?_
      exact (h2.1 c3)
    · refine VL_norm km260 k260_2 (VL_at (al := []) (st := []) km260 k260_2 ?_)
      refine VL_norm km260 k260_4 (VL_at (al := []) (st := [vI (n32 1)]) km260 k260_4 ?_)
      refine And.intro xrt21 ?_
      exact (h2.2 c3)
/-- BannerParadeModel.seenOne, label 0 -/
theorem w261_0 {D : Nat} {v1 : Int32} {v2 : Int32} {m : XM} {Q : Int32 → XM → Prop} {E : Nat → XM → Prop}
    (h : VLI (D + 2) 261 1 [(0, vR 11 (283)), (1, vI v1), (3, vI v2), (4, vI (n32 0))] [] m Q E) :
    VI (D + 2) 261 [vR 11 (283), vI v1, vI v2] m Q E := by
  refine V_of (VL_at (al := [(0, vR 11 (283)), (1, vI v1), (2, vI v2)]) (st := []) km261 k261_0 ?_)
  exact VL_norm km261 k261_1 h
/-- BannerParadeModel.seenOne, label 1 -/
theorem w261_1 {D : Nat} {v1 : Int32} {v3 : Int32} {v4 : Int32} {m : XM} {Q : Int32 → XM → Prop} {E : Nat → XM → Prop}
    (h : (((m 284 (ix (n32 6))) ≤ v4 → Q (-(n32 1)) m) ∧ (¬ (m 284 (ix (n32 6))) ≤ v4 → (xin (((n32 99) + ((n32 12) * v1)) + (n32 0)) 243 = true ∧ (((m 284 (ix (((n32 99) + ((n32 12) * v1)) + (n32 0)))) = (n32 0) → VI (D + 1) 219 [vR 11 (283), vI v1, vI v4] m (fun x1 m1 => ((x1 = (n32 0) → VLI (D + 2) 261 1 [(0, vR 11 (283)), (1, vI v1), (3, vI v3), (4, vI (v4 + (n32 1)))] [] m1 Q E) ∧ (¬ x1 = (n32 0) → ((v3 = (n32 0) → Q v4 m1) ∧ (¬ v3 = (n32 0) → VLI (D + 2) 261 1 [(0, vR 11 (283)), (1, vI v1), (3, vI (v3 + (-(n32 1)))), (4, vI (v4 + (n32 1)))] [] m1 Q E))))) E) ∧ (¬ (m 284 (ix (((n32 99) + ((n32 12) * v1)) + (n32 0)))) = (n32 0) → VI (D + 1) 219 [vR 11 (283), vI v1, vI (((m 284 (ix (n32 6))) - (n32 1)) - v4)] m (fun x4 m4 => ((x4 = (n32 0) → VLI (D + 2) 261 1 [(0, vR 11 (283)), (1, vI v1), (3, vI v3), (4, vI (v4 + (n32 1)))] [] m4 Q E) ∧ (¬ x4 = (n32 0) → ((v3 = (n32 0) → Q (((m 284 (ix (n32 6))) - (n32 1)) - v4) m4) ∧ (¬ v3 = (n32 0) → VLI (D + 2) 261 1 [(0, vR 11 (283)), (1, vI v1), (3, vI (v3 + (-(n32 1)))), (4, vI (v4 + (n32 1)))] [] m4 Q E))))) E)))))) :
    VLI (D + 2) 261 1 [(0, vR 11 (283)), (1, vI v1), (3, vI v3), (4, vI v4)] [] m Q E := by
  refine VL_at (al := [(0, vR 11 (283)), (1, vI v1), (3, vI v3), (4, vI v4)]) (st := []) km261 k261_1 ?_
  refine And.intro (xin_k rfl) ?_
  refine And.intro (fun c8 => ?_) (fun c8 => ?_)
  · refine VL_norm km261 k261_11 (VL_at (al := []) (st := []) km261 k261_11 ?_)
    exact (h.1 c8)
  · refine VL_norm km261 k261_2 (VL_at (al := [(0, vR 11 (283)), (1, vI v1), (3, vI v3), (4, vI v4)]) (st := []) km261 k261_2 ?_)
    refine V_of ?_
    refine VL_norm km204 k204_0 (VL_at (al := [(0, vR 11 (283)), (1, vI v1), (2, vI (n32 0))]) (st := []) km204 k204_0 ?_)
    refine And.intro (h.2 c8).1 ?_
    refine And.intro (fun c7 => ?_) (fun c7 => ?_)
    · refine VL_norm km261 k261_3 (VL_at (al := [(0, vR 11 (283)), (1, vI v1), (3, vI v3), (4, vI v4)]) (st := []) km261 k261_3 ?_)
      refine VL_norm km261 k261_5 (VL_at (al := [(0, vR 11 (283)), (1, vI v1), (3, vI v3), (4, vI v4)]) (st := [vI v4]) km261 k261_5 ?_)
      refine V_mono ((h.2 c8).2.1 c7) (fun u1 m1 h1 => ?_) (fun _ _ h => h)
      refine And.intro (fun c3 => ?_) (fun c3 => ?_)
      · refine VL_norm km261 k261_6 (VL_at (al := [(0, vR 11 (283)), (1, vI v1), (3, vI v3), (4, vI v4)]) (st := []) km261 k261_6 ?_)
        refine VL_norm km261 k261_10 (VL_at (al := [(0, vR 11 (283)), (1, vI v1), (3, vI v3), (4, vI v4)]) (st := []) km261 k261_10 ?_)
        exact VL_norm km261 k261_1 (h1.1 c3)
      · refine VL_norm km261 k261_7 (VL_at (al := [(0, vR 11 (283)), (1, vI v1), (3, vI v3), (4, vI v4), (5, vI v4)]) (st := []) km261 k261_7 ?_)
        refine And.intro (fun c2 => ?_) (fun c2 => ?_)
        · refine VL_norm km261 k261_8 (VL_at (al := [(5, vI v4)]) (st := []) km261 k261_8 ?_)
          exact ((h1.2 c3).1 c2)
        · refine VL_norm km261 k261_9 (VL_at (al := [(0, vR 11 (283)), (1, vI v1), (3, vI v3), (4, vI v4)]) (st := []) km261 k261_9 ?_)
          refine VL_norm km261 k261_10 (VL_at (al := [(0, vR 11 (283)), (1, vI v1), (3, vI (v3 + (-(n32 1)))), (4, vI v4)]) (st := []) km261 k261_10 ?_)
          exact VL_norm km261 k261_1 ((h1.2 c3).2 c2)
    · refine VL_norm km261 k261_4 (VL_at (al := [(0, vR 11 (283)), (1, vI v1), (3, vI v3), (4, vI v4)]) (st := []) km261 k261_4 ?_)
      refine And.intro (xin_k rfl) ?_
      refine VL_norm km261 k261_5 (VL_at (al := [(0, vR 11 (283)), (1, vI v1), (3, vI v3), (4, vI v4)]) (st := [vI (((m 284 (ix (n32 6))) - (n32 1)) - v4)]) km261 k261_5 ?_)
      refine V_mono ((h.2 c8).2.2 c7) (fun u4 m4 h4 => ?_) (fun _ _ h => h)
      refine And.intro (fun c6 => ?_) (fun c6 => ?_)
      · refine VL_norm km261 k261_6 (VL_at (al := [(0, vR 11 (283)), (1, vI v1), (3, vI v3), (4, vI v4)]) (st := []) km261 k261_6 ?_)
        refine VL_norm km261 k261_10 (VL_at (al := [(0, vR 11 (283)), (1, vI v1), (3, vI v3), (4, vI v4)]) (st := []) km261 k261_10 ?_)
        exact VL_norm km261 k261_1 (h4.1 c6)
      · refine VL_norm km261 k261_7 (VL_at (al := [(0, vR 11 (283)), (1, vI v1), (3, vI v3), (4, vI v4), (5, vI (((m 284 (ix (n32 6))) - (n32 1)) - v4))]) (st := []) km261 k261_7 ?_)
        refine And.intro (fun c5 => ?_) (fun c5 => ?_)
        · refine VL_norm km261 k261_8 (VL_at (al := [(5, vI (((m 284 (ix (n32 6))) - (n32 1)) - v4))]) (st := []) km261 k261_8 ?_)
          exact ((h4.2 c6).1 c5)
        · refine VL_norm km261 k261_9 (VL_at (al := [(0, vR 11 (283)), (1, vI v1), (3, vI v3), (4, vI v4)]) (st := []) km261 k261_9 ?_)
          refine VL_norm km261 k261_10 (VL_at (al := [(0, vR 11 (283)), (1, vI v1), (3, vI (v3 + (-(n32 1)))), (4, vI v4)]) (st := []) km261 k261_10 ?_)
          exact VL_norm km261 k261_1 ((h4.2 c6).2 c5)
/-- BannerParadeModel.seenAt, label 0 -/
theorem w262_0 {D : Nat} {v1 : Int32} {v2 : Int32} {m : XM} {Q : Int32 → XM → Prop} {E : Nat → XM → Prop}
    (h : VI (D + 2) 242 [vR 11 (283), vI v1] m (fun x1 m1 => ((x1 = (n32 0) → Q (n32 0) m1) ∧ (¬ x1 = (n32 0) → (((n32 0) ≤ v2 → VI (D + 2) 261 [vR 11 (283), vI v1, vI v2] m1 (fun x2 m2 => Q x2 m2) E) ∧ (¬ (n32 0) ≤ v2 → Q (-(n32 1)) m1))))) E) :
    VI (D + 3) 262 [vR 11 (283), vI v1, vI v2] m Q E := by
  refine V_of (VL_at (al := [(0, vR 11 (283)), (1, vI v1), (2, vI v2)]) (st := []) km262 k262_0 ?_)
  refine V_mono h (fun u1 m1 h1 => ?_) (fun _ _ h => h)
  refine And.intro (fun c4 => ?_) (fun c4 => ?_)
  · refine VL_norm km262 k262_1 (VL_at (al := []) (st := []) km262 k262_1 ?_)
    exact (h1.1 c4)
  · refine VL_norm km262 k262_2 (VL_at (al := [(0, vR 11 (283)), (1, vI v1), (2, vI v2)]) (st := []) km262 k262_2 ?_)
    refine And.intro (fun c3 => ?_) (fun c3 => ?_)
    · refine VL_norm km262 k262_4 (VL_at (al := [(0, vR 11 (283)), (1, vI v1), (2, vI v2)]) (st := []) km262 k262_4 ?_)
      refine V_mono ((h1.2 c4).1 c3) (fun u2 m2 h2 => ?_) (fun _ _ h => h)
      refine VL_norm km262 k262_5 (VL_at (al := []) (st := [vI (xti u2)]) km262 k262_5 ?_)
      exact h2
    · refine VL_norm km262 k262_3 (VL_at (al := []) (st := []) km262 k262_3 ?_)
      refine VL_norm km262 k262_5 (VL_at (al := []) (st := [vI (-(n32 1))]) km262 k262_5 ?_)
      exact ((h1.2 c4).2 c3)
/-- BannerParadeModel.blanks, label 0 -/
theorem w263_0 {D : Nat} {v1 : Int32} {m : XM} {Q : Int32 → XM → Prop} {E : Nat → XM → Prop}
    (h : VI (D + 2) 242 [vR 11 (283), vI v1] m (fun x1 m1 => ((x1 = (n32 0) → Q (n32 0) m1) ∧ (¬ x1 = (n32 0) → VU (D + 2) 220 [vR 11 (283), vI v1] m1 (fun m2 => VLI (D + 3) 263 3 [(0, vR 11 (283)), (2, vI (n32 0)), (3, vI (n32 0))] [] m2 Q E) E))) E) :
    VI (D + 3) 263 [vR 11 (283), vI v1] m Q E := by
  refine V_of (VL_at (al := [(0, vR 11 (283)), (1, vI v1)]) (st := []) km263 k263_0 ?_)
  refine V_mono h (fun u1 m1 h1 => ?_) (fun _ _ h => h)
  refine And.intro (fun c3 => ?_) (fun c3 => ?_)
  · refine VL_norm km263 k263_1 (VL_at (al := []) (st := []) km263 k263_1 ?_)
    exact (h1.1 c3)
  · refine VL_norm km263 k263_2 (VL_at (al := [(0, vR 11 (283)), (1, vI v1)]) (st := []) km263 k263_2 ?_)
    refine V_mono (h1.2 c3) (fun u2 m2 h2 => ?_) (fun _ _ h => h)
    exact VL_norm km263 k263_3 h2
/-- BannerParadeModel.blanks, label 3 -/
theorem w263_3 {D : Nat} {v2 : Int32} {v3 : Int32} {m : XM} {Q : Int32 → XM → Prop} {E : Nat → XM → Prop}
    (h : (((m 283 18) ≤ v3 → Q v2 m) ∧ (¬ (m 283 18) ≤ v3 → (xin v3 24 = true ∧ (((m 290 (ix v3)) = (n32 32) → VLI (D + 3) 263 3 [(0, vR 11 (283)), (2, vI (v2 + (n32 1))), (3, vI (v3 + (n32 1)))] [] m Q E) ∧ (¬ (m 290 (ix v3)) = (n32 32) → VLI (D + 3) 263 3 [(0, vR 11 (283)), (2, vI (v2 + (n32 0))), (3, vI (v3 + (n32 1)))] [] m Q E)))))) :
    VLI (D + 3) 263 3 [(0, vR 11 (283)), (2, vI v2), (3, vI v3)] [] m Q E := by
  refine VL_at (al := [(0, vR 11 (283)), (2, vI v2), (3, vI v3)]) (st := []) km263 k263_3 ?_
  refine And.intro (fun c2 => ?_) (fun c2 => ?_)
  · refine VL_norm km263 k263_8 (VL_at (al := [(2, vI v2)]) (st := []) km263 k263_8 ?_)
    exact (h.1 c2)
  · refine VL_norm km263 k263_4 (VL_at (al := [(0, vR 11 (283)), (2, vI v2), (3, vI v3)]) (st := []) km263 k263_4 ?_)
    refine And.intro (h.2 c2).1 ?_
    refine And.intro (fun c1 => ?_) (fun c1 => ?_)
    · refine VL_norm km263 k263_5 (VL_at (al := [(0, vR 11 (283)), (3, vI v3)]) (st := [vI v2]) km263 k263_5 ?_)
      refine VL_norm km263 k263_7 (VL_at (al := [(0, vR 11 (283)), (3, vI v3)]) (st := [vI (n32 1), vI v2]) km263 k263_7 ?_)
      exact VL_norm km263 k263_3 ((h.2 c2).2.1 c1)
    · refine VL_norm km263 k263_6 (VL_at (al := [(0, vR 11 (283)), (3, vI v3)]) (st := [vI v2]) km263 k263_6 ?_)
      refine VL_norm km263 k263_7 (VL_at (al := [(0, vR 11 (283)), (3, vI v3)]) (st := [vI (n32 0), vI v2]) km263 k263_7 ?_)
      exact VL_norm km263 k263_3 ((h.2 c2).2.2 c1)
/-- BannerParadeModel.pre-fix, label 0 -/
theorem w264_0 {D : Nat} {v1 : Int32} {m : XM} {Q : Int32 → XM → Prop} {E : Nat → XM → Prop}
    (h : VI (D + 2) 242 [vR 11 (283), vI v1] m (fun x1 m1 => ((x1 = (n32 0) → Q (n32 0) m1) ∧ (¬ x1 = (n32 0) → VU (D + 2) 220 [vR 11 (283), vI v1] m1 (fun m2 => VLI (D + 3) 264 3 [(0, vR 11 (283)), (1, vI v1), (2, vI (n32 0))] [] m2 Q E) E))) E) :
    VI (D + 3) 264 [vR 11 (283), vI v1] m Q E := by
  refine V_of (VL_at (al := [(0, vR 11 (283)), (1, vI v1)]) (st := []) km264 k264_0 ?_)
  refine V_mono h (fun u1 m1 h1 => ?_) (fun _ _ h => h)
  refine And.intro (fun c3 => ?_) (fun c3 => ?_)
  · refine VL_norm km264 k264_1 (VL_at (al := []) (st := []) km264 k264_1 ?_)
    exact (h1.1 c3)
  · refine VL_norm km264 k264_2 (VL_at (al := [(0, vR 11 (283)), (1, vI v1)]) (st := []) km264 k264_2 ?_)
    refine V_mono (h1.2 c3) (fun u2 m2 h2 => ?_) (fun _ _ h => h)
    exact VL_norm km264 k264_3 h2
/-- BannerParadeModel.pre-fix, label 3 -/
theorem w264_3 {D : Nat} {v1 : Int32} {v2 : Int32} {m : XM} {Q : Int32 → XM → Prop} {E : Nat → XM → Prop}
    (h : (((m 283 18) ≤ v2 → Q v2 m) ∧ (¬ (m 283 18) ≤ v2 → (xin (((n32 99) + ((n32 12) * v1)) + (n32 2)) 243 = true ∧ (((m 284 (ix (((n32 99) + ((n32 12) * v1)) + (n32 2)))) ≤ v2 → Q v2 m) ∧ (¬ (m 284 (ix (((n32 99) + ((n32 12) * v1)) + (n32 2)))) ≤ v2 → (xin v2 24 = true ∧ (xin (((n32 99) + ((n32 12) * v1)) + ((n32 4) + v2)) 243 = true ∧ (((m 290 (ix v2)) = (m 284 (ix (((n32 99) + ((n32 12) * v1)) + ((n32 4) + v2)))) → VLI (D + 3) 264 3 [(0, vR 11 (283)), (1, vI v1), (2, vI (v2 + (n32 1)))] [] m Q E) ∧ (¬ (m 290 (ix v2)) = (m 284 (ix (((n32 99) + ((n32 12) * v1)) + ((n32 4) + v2)))) → Q v2 m)))))))))) :
    VLI (D + 3) 264 3 [(0, vR 11 (283)), (1, vI v1), (2, vI v2)] [] m Q E := by
  refine VL_at (al := [(0, vR 11 (283)), (1, vI v1), (2, vI v2)]) (st := []) km264 k264_3 ?_
  refine And.intro (fun c3 => ?_) (fun c3 => ?_)
  · refine VL_norm km264 k264_7 (VL_at (al := [(2, vI v2)]) (st := []) km264 k264_7 ?_)
    exact (h.1 c3)
  · refine VL_norm km264 k264_4 (VL_at (al := [(0, vR 11 (283)), (1, vI v1), (2, vI v2)]) (st := []) km264 k264_4 ?_)
    refine V_of ?_
    refine VL_norm km204 k204_0 (VL_at (al := [(0, vR 11 (283)), (1, vI v1), (2, vI (n32 2))]) (st := []) km204 k204_0 ?_)
    refine And.intro (h.2 c3).1 ?_
    refine And.intro (fun c2 => ?_) (fun c2 => ?_)
    · refine VL_norm km264 k264_7 (VL_at (al := [(2, vI v2)]) (st := []) km264 k264_7 ?_)
      exact ((h.2 c3).2.1 c2)
    · refine VL_norm km264 k264_5 (VL_at (al := [(0, vR 11 (283)), (1, vI v1), (2, vI v2)]) (st := []) km264 k264_5 ?_)
      refine And.intro ((h.2 c3).2.2 c2).1 ?_
      refine V_of ?_
      refine VL_norm km204 k204_0 (VL_at (al := [(0, vR 11 (283)), (1, vI v1), (2, vI ((n32 4) + v2))]) (st := []) km204 k204_0 ?_)
      refine And.intro ((h.2 c3).2.2 c2).2.1 ?_
      refine And.intro (fun c1 => ?_) (fun c1 => ?_)
      · refine VL_norm km264 k264_6 (VL_at (al := [(0, vR 11 (283)), (1, vI v1), (2, vI v2)]) (st := []) km264 k264_6 ?_)
        exact VL_norm km264 k264_3 (((h.2 c3).2.2 c2).2.2.1 c1)
      · refine VL_norm km264 k264_7 (VL_at (al := [(2, vI v2)]) (st := []) km264 k264_7 ?_)
        exact (((h.2 c3).2.2 c2).2.2.2 c1)
/-- BannerParadeModel.mayLetter, label 0 -/
theorem w265_0 {D : Nat} {v1 : Int32} {m : XM} {Q : Int32 → XM → Prop} {E : Nat → XM → Prop}
    (h : ((v1 < (n32 1) → VI (D + 1) 177 [vR 11 (283), vI (m 283 6), vI (n32 0)] m (fun x1 m1 => (xrt 2 x1 = true ∧ Q x1 m1)) E) ∧ (¬ v1 < (n32 1) → (((n32 26) < v1 → VI (D + 1) 177 [vR 11 (283), vI (m 283 6), vI (n32 0)] m (fun x2 m2 => (xrt 2 x2 = true ∧ Q x2 m2)) E) ∧ (¬ (n32 26) < v1 → VI (D + 1) 177 [vR 11 (283), vI (m 283 6), vI (n32 1)] m (fun x3 m3 => (xrt 2 x3 = true ∧ Q x3 m3)) E))))) :
    VI (D + 2) 265 [vR 11 (283), vI v1] m Q E := by
  refine V_of (VL_at (al := [(0, vR 11 (283)), (1, vI v1)]) (st := []) km265 k265_0 ?_)
  refine V_of ?_
  refine VL_norm km175 k175_0 (VL_at (al := [(0, vI v1), (1, vI (n32 1)), (2, vI (n32 26))]) (st := []) km175 k175_0 ?_)
  refine And.intro (fun c5 => ?_) (fun c5 => ?_)
  · refine VL_norm km175 k175_3 (VL_at (al := []) (st := []) km175 k175_3 ?_)
    refine VL_norm km175 k175_4 (VL_at (al := []) (st := [vI (n32 0)]) km175 k175_4 ?_)
    refine And.intro xrt20 ?_
    refine V_mono (h.1 c5) (fun u1 m1 h1 => ?_) (fun _ _ h => h)
    refine And.intro h1.1 ?_
    exact h1.2
  · refine VL_norm km175 k175_1 (VL_at (al := [(0, vI v1), (2, vI (n32 26))]) (st := []) km175 k175_1 ?_)
    refine And.intro (fun c4 => ?_) (fun c4 => ?_)
    · refine VL_norm km175 k175_3 (VL_at (al := []) (st := []) km175 k175_3 ?_)
      refine VL_norm km175 k175_4 (VL_at (al := []) (st := [vI (n32 0)]) km175 k175_4 ?_)
      refine And.intro xrt20 ?_
      refine V_mono ((h.2 c5).1 c4) (fun u2 m2 h2 => ?_) (fun _ _ h => h)
      refine And.intro h2.1 ?_
      exact h2.2
    · refine VL_norm km175 k175_2 (VL_at (al := []) (st := []) km175 k175_2 ?_)
      refine VL_norm km175 k175_4 (VL_at (al := []) (st := [vI (n32 1)]) km175 k175_4 ?_)
      refine And.intro xrt21 ?_
      refine V_mono ((h.2 c5).2 c4) (fun u3 m3 h3 => ?_) (fun _ _ h => h)
      refine And.intro h3.1 ?_
      exact h3.2
/-- BannerParadeModel.holder, label 0 -/
theorem w266_0 {D : Nat} {v1 : Int32} {m : XM} {Q : Int32 → XM → Prop} {E : Nat → XM → Prop}
    (h : VI (D + 2) 265 [vR 11 (283), vI v1] m (fun x1 m1 => ((x1 = (n32 0) → Q (n32 0) m1) ∧ (¬ x1 = (n32 0) → VLI (D + 3) 266 3 [(0, vR 11 (283)), (1, vI v1), (2, vI (n32 0))] [] m1 Q E))) E) :
    VI (D + 3) 266 [vR 11 (283), vI v1] m Q E := by
  refine V_of (VL_at (al := [(0, vR 11 (283)), (1, vI v1)]) (st := []) km266 k266_0 ?_)
  refine V_mono h (fun u1 m1 h1 => ?_) (fun _ _ h => h)
  refine And.intro (fun c2 => ?_) (fun c2 => ?_)
  · refine VL_norm km266 k266_1 (VL_at (al := []) (st := []) km266 k266_1 ?_)
    exact (h1.1 c2)
  · refine VL_norm km266 k266_2 (VL_at (al := [(0, vR 11 (283)), (1, vI v1)]) (st := []) km266 k266_2 ?_)
    exact VL_norm km266 k266_3 (h1.2 c2)
/-- BannerParadeModel.holder, label 3 -/
theorem w266_3 {D : Nat} {v1 : Int32} {v2 : Int32} {m : XM} {Q : Int32 → XM → Prop} {E : Nat → XM → Prop}
    (h : (((m 284 (ix (n32 6))) ≤ v2 → Q (-(n32 1)) m) ∧ (¬ (m 284 (ix (n32 6))) ≤ v2 → (xin (((n32 15) + ((n32 7) * v2)) + (n32 0)) 243 = true ∧ (((m 284 (ix (((n32 15) + ((n32 7) * v2)) + (n32 0)))) = v1 → Q v2 m) ∧ (¬ (m 284 (ix (((n32 15) + ((n32 7) * v2)) + (n32 0)))) = v1 → VLI (D + 3) 266 3 [(0, vR 11 (283)), (1, vI v1), (2, vI (v2 + (n32 1)))] [] m Q E)))))) :
    VLI (D + 3) 266 3 [(0, vR 11 (283)), (1, vI v1), (2, vI v2)] [] m Q E := by
  refine VL_at (al := [(0, vR 11 (283)), (1, vI v1), (2, vI v2)]) (st := []) km266 k266_3 ?_
  refine And.intro (xin_k rfl) ?_
  refine And.intro (fun c2 => ?_) (fun c2 => ?_)
  · refine VL_norm km266 k266_7 (VL_at (al := []) (st := []) km266 k266_7 ?_)
    exact (h.1 c2)
  · refine VL_norm km266 k266_4 (VL_at (al := [(0, vR 11 (283)), (1, vI v1), (2, vI v2)]) (st := []) km266 k266_4 ?_)
    refine V_of ?_
    refine VL_norm km202 k202_0 (VL_at (al := [(0, vR 11 (283)), (1, vI v2), (2, vI (n32 0))]) (st := []) km202 k202_0 ?_)
    refine And.intro (h.2 c2).1 ?_
    refine And.intro (fun c1 => ?_) (fun c1 => ?_)
    · refine VL_norm km266 k266_5 (VL_at (al := [(2, vI v2)]) (st := []) km266 k266_5 ?_)
      exact ((h.2 c2).2.1 c1)
    · refine VL_norm km266 k266_6 (VL_at (al := [(0, vR 11 (283)), (1, vI v1), (2, vI v2)]) (st := []) km266 k266_6 ?_)
      exact VL_norm km266 k266_3 ((h.2 c2).2.2 c1)
/-- BannerParadeModel.copies, label 0 -/
theorem w267_0 {D : Nat} {v1 : Int32} {m : XM} {Q : Int32 → XM → Prop} {E : Nat → XM → Prop}
    (h : VI (D + 2) 265 [vR 11 (283), vI v1] m (fun x1 m1 => ((x1 = (n32 0) → Q (n32 0) m1) ∧ (¬ x1 = (n32 0) → VLI (D + 3) 267 3 [(0, vR 11 (283)), (1, vI v1), (2, vI (n32 0)), (3, vI (n32 0))] [] m1 Q E))) E) :
    VI (D + 3) 267 [vR 11 (283), vI v1] m Q E := by
  refine V_of (VL_at (al := [(0, vR 11 (283)), (1, vI v1)]) (st := []) km267 k267_0 ?_)
  refine V_mono h (fun u1 m1 h1 => ?_) (fun _ _ h => h)
  refine And.intro (fun c2 => ?_) (fun c2 => ?_)
  · refine VL_norm km267 k267_1 (VL_at (al := []) (st := []) km267 k267_1 ?_)
    exact (h1.1 c2)
  · refine VL_norm km267 k267_2 (VL_at (al := [(0, vR 11 (283)), (1, vI v1)]) (st := []) km267 k267_2 ?_)
    exact VL_norm km267 k267_3 (h1.2 c2)
/-- BannerParadeModel.copies, label 3 -/
theorem w267_3 {D : Nat} {v1 : Int32} {v2 : Int32} {v3 : Int32} {m : XM} {Q : Int32 → XM → Prop} {E : Nat → XM → Prop}
    (h : (((m 284 (ix (n32 6))) ≤ v3 → VLI (D + 3) 267 9 [(0, vR 11 (283)), (1, vI v1), (2, vI v2), (3, vI (n32 0))] [] m Q E) ∧ (¬ (m 284 (ix (n32 6))) ≤ v3 → (xin (((n32 15) + ((n32 7) * v3)) + (n32 0)) 243 = true ∧ (((m 284 (ix (((n32 15) + ((n32 7) * v3)) + (n32 0)))) = v1 → VLI (D + 3) 267 3 [(0, vR 11 (283)), (1, vI v1), (2, vI (v2 + (n32 1))), (3, vI (v3 + (n32 1)))] [] m Q E) ∧ (¬ (m 284 (ix (((n32 15) + ((n32 7) * v3)) + (n32 0)))) = v1 → VLI (D + 3) 267 3 [(0, vR 11 (283)), (1, vI v1), (2, vI (v2 + (n32 0))), (3, vI (v3 + (n32 1)))] [] m Q E)))))) :
    VLI (D + 3) 267 3 [(0, vR 11 (283)), (1, vI v1), (2, vI v2), (3, vI v3)] [] m Q E := by
  refine VL_at (al := [(0, vR 11 (283)), (1, vI v1), (2, vI v2), (3, vI v3)]) (st := []) km267 k267_3 ?_
  refine And.intro (xin_k rfl) ?_
  refine And.intro (fun c2 => ?_) (fun c2 => ?_)
  · refine VL_norm km267 k267_8 (VL_at (al := [(0, vR 11 (283)), (1, vI v1), (2, vI v2)]) (st := []) km267 k267_8 ?_)
    exact VL_norm km267 k267_9 (h.1 c2)
  · refine VL_norm km267 k267_4 (VL_at (al := [(0, vR 11 (283)), (1, vI v1), (2, vI v2), (3, vI v3)]) (st := []) km267 k267_4 ?_)
    refine V_of ?_
    refine VL_norm km202 k202_0 (VL_at (al := [(0, vR 11 (283)), (1, vI v3), (2, vI (n32 0))]) (st := []) km202 k202_0 ?_)
    refine And.intro (h.2 c2).1 ?_
    refine And.intro (fun c1 => ?_) (fun c1 => ?_)
    · refine VL_norm km267 k267_5 (VL_at (al := [(0, vR 11 (283)), (1, vI v1), (3, vI v3)]) (st := [vI v2]) km267 k267_5 ?_)
      refine VL_norm km267 k267_7 (VL_at (al := [(0, vR 11 (283)), (1, vI v1), (3, vI v3)]) (st := [vI (n32 1), vI v2]) km267 k267_7 ?_)
      exact VL_norm km267 k267_3 ((h.2 c2).2.1 c1)
    · refine VL_norm km267 k267_6 (VL_at (al := [(0, vR 11 (283)), (1, vI v1), (3, vI v3)]) (st := [vI v2]) km267 k267_6 ?_)
      refine VL_norm km267 k267_7 (VL_at (al := [(0, vR 11 (283)), (1, vI v1), (3, vI v3)]) (st := [vI (n32 0), vI v2]) km267 k267_7 ?_)
      exact VL_norm km267 k267_3 ((h.2 c2).2.2 c1)
/-- BannerParadeModel.copies, label 9 -/
theorem w267_9 {D : Nat} {v1 : Int32} {v2 : Int32} {v3 : Int32} {m : XM} {Q : Int32 → XM → Prop} {E : Nat → XM → Prop}
    (h : (((m 284 (ix (n32 10))) ≤ v3 → Q v2 m) ∧ (¬ (m 284 (ix (n32 10))) ≤ v3 → (xin (((n32 207) + ((n32 3) * v3)) + (n32 0)) 243 = true ∧ (((m 284 (ix (((n32 207) + ((n32 3) * v3)) + (n32 0)))) = v1 → VLI (D + 3) 267 9 [(0, vR 11 (283)), (1, vI v1), (2, vI (v2 + (n32 1))), (3, vI (v3 + (n32 1)))] [] m Q E) ∧ (¬ (m 284 (ix (((n32 207) + ((n32 3) * v3)) + (n32 0)))) = v1 → VLI (D + 3) 267 9 [(0, vR 11 (283)), (1, vI v1), (2, vI (v2 + (n32 0))), (3, vI (v3 + (n32 1)))] [] m Q E)))))) :
    VLI (D + 3) 267 9 [(0, vR 11 (283)), (1, vI v1), (2, vI v2), (3, vI v3)] [] m Q E := by
  refine VL_at (al := [(0, vR 11 (283)), (1, vI v1), (2, vI v2), (3, vI v3)]) (st := []) km267 k267_9 ?_
  refine And.intro (xin_k rfl) ?_
  refine And.intro (fun c2 => ?_) (fun c2 => ?_)
  · refine VL_norm km267 k267_14 (VL_at (al := [(2, vI v2)]) (st := []) km267 k267_14 ?_)
    exact (h.1 c2)
  · refine VL_norm km267 k267_10 (VL_at (al := [(0, vR 11 (283)), (1, vI v1), (2, vI v2), (3, vI v3)]) (st := []) km267 k267_10 ?_)
    refine V_of ?_
    refine VL_norm km207 k207_0 (VL_at (al := [(0, vR 11 (283)), (1, vI v3), (2, vI (n32 0))]) (st := []) km207 k207_0 ?_)
    refine And.intro (h.2 c2).1 ?_
    refine And.intro (fun c1 => ?_) (fun c1 => ?_)
    · refine VL_norm km267 k267_11 (VL_at (al := [(0, vR 11 (283)), (1, vI v1), (3, vI v3)]) (st := [vI v2]) km267 k267_11 ?_)
      refine VL_norm km267 k267_13 (VL_at (al := [(0, vR 11 (283)), (1, vI v1), (3, vI v3)]) (st := [vI (n32 1), vI v2]) km267 k267_13 ?_)
      exact VL_norm km267 k267_9 ((h.2 c2).2.1 c1)
    · refine VL_norm km267 k267_12 (VL_at (al := [(0, vR 11 (283)), (1, vI v1), (3, vI v3)]) (st := [vI v2]) km267 k267_12 ?_)
      refine VL_norm km267 k267_13 (VL_at (al := [(0, vR 11 (283)), (1, vI v1), (3, vI v3)]) (st := [vI (n32 0), vI v2]) km267 k267_13 ?_)
      exact VL_norm km267 k267_9 ((h.2 c2).2.2 c1)
/-- BannerParadeModel.tired, label 0 -/
theorem w268_0 {D : Nat} {v1 : Int32} {m : XM} {Q : Int32 → XM → Prop} {E : Nat → XM → Prop}
    (h : ((v1 < (n32 0) → VI (D + 1) 177 [vR 11 (283), vI (m 283 6), vI (n32 0)] m (fun x1 m1 => ((x1 = (n32 0) → Q (n32 0) m1) ∧ (¬ x1 = (n32 0) → VLI (D + 2) 268 3 [(0, vR 11 (283)), (1, vI v1), (2, vI (n32 0)), (3, vI (n32 0))] [] m1 Q E))) E) ∧ (¬ v1 < (n32 0) → (((n32 100) < v1 → VI (D + 1) 177 [vR 11 (283), vI (m 283 6), vI (n32 0)] m (fun x3 m3 => ((x3 = (n32 0) → Q (n32 0) m3) ∧ (¬ x3 = (n32 0) → VLI (D + 2) 268 3 [(0, vR 11 (283)), (1, vI v1), (2, vI (n32 0)), (3, vI (n32 0))] [] m3 Q E))) E) ∧ (¬ (n32 100) < v1 → VI (D + 1) 177 [vR 11 (283), vI (m 283 6), vI (n32 1)] m (fun x5 m5 => ((x5 = (n32 0) → Q (n32 0) m5) ∧ (¬ x5 = (n32 0) → VLI (D + 2) 268 3 [(0, vR 11 (283)), (1, vI v1), (2, vI (n32 0)), (3, vI (n32 0))] [] m5 Q E))) E))))) :
    VI (D + 2) 268 [vR 11 (283), vI v1] m Q E := by
  refine V_of (VL_at (al := [(0, vR 11 (283)), (1, vI v1)]) (st := []) km268 k268_0 ?_)
  refine V_of ?_
  refine VL_norm km175 k175_0 (VL_at (al := [(0, vI v1), (1, vI (n32 0)), (2, vI (n32 100))]) (st := []) km175 k175_0 ?_)
  refine And.intro (fun c8 => ?_) (fun c8 => ?_)
  · refine VL_norm km175 k175_3 (VL_at (al := []) (st := []) km175 k175_3 ?_)
    refine VL_norm km175 k175_4 (VL_at (al := []) (st := [vI (n32 0)]) km175 k175_4 ?_)
    refine And.intro xrt20 ?_
    refine V_mono (h.1 c8) (fun u1 m1 h1 => ?_) (fun _ _ h => h)
    refine And.intro (fun c2 => ?_) (fun c2 => ?_)
    · refine VL_norm km268 k268_1 (VL_at (al := []) (st := []) km268 k268_1 ?_)
      exact (h1.1 c2)
    · refine VL_norm km268 k268_2 (VL_at (al := [(0, vR 11 (283)), (1, vI v1)]) (st := []) km268 k268_2 ?_)
      exact VL_norm km268 k268_3 (h1.2 c2)
  · refine VL_norm km175 k175_1 (VL_at (al := [(0, vI v1), (2, vI (n32 100))]) (st := []) km175 k175_1 ?_)
    refine And.intro (fun c7 => ?_) (fun c7 => ?_)
    · refine VL_norm km175 k175_3 (VL_at (al := []) (st := []) km175 k175_3 ?_)
      refine VL_norm km175 k175_4 (VL_at (al := []) (st := [vI (n32 0)]) km175 k175_4 ?_)
      refine And.intro xrt20 ?_
      refine V_mono ((h.2 c8).1 c7) (fun u3 m3 h3 => ?_) (fun _ _ h => h)
      refine And.intro (fun c4 => ?_) (fun c4 => ?_)
      · refine VL_norm km268 k268_1 (VL_at (al := []) (st := []) km268 k268_1 ?_)
        exact (h3.1 c4)
      · refine VL_norm km268 k268_2 (VL_at (al := [(0, vR 11 (283)), (1, vI v1)]) (st := []) km268 k268_2 ?_)
        exact VL_norm km268 k268_3 (h3.2 c4)
    · refine VL_norm km175 k175_2 (VL_at (al := []) (st := []) km175 k175_2 ?_)
      refine VL_norm km175 k175_4 (VL_at (al := []) (st := [vI (n32 1)]) km175 k175_4 ?_)
      refine And.intro xrt21 ?_
      refine V_mono ((h.2 c8).2 c7) (fun u5 m5 h5 => ?_) (fun _ _ h => h)
      refine And.intro (fun c6 => ?_) (fun c6 => ?_)
      · refine VL_norm km268 k268_1 (VL_at (al := []) (st := []) km268 k268_1 ?_)
        exact (h5.1 c6)
      · refine VL_norm km268 k268_2 (VL_at (al := [(0, vR 11 (283)), (1, vI v1)]) (st := []) km268 k268_2 ?_)
        exact VL_norm km268 k268_3 (h5.2 c6)
/-- BannerParadeModel.tired, label 3 -/
theorem w268_3 {D : Nat} {v1 : Int32} {v2 : Int32} {v3 : Int32} {m : XM} {Q : Int32 → XM → Prop} {E : Nat → XM → Prop}
    (h : (((m 284 (ix (n32 6))) ≤ v3 → Q v2 m) ∧ (¬ (m 284 (ix (n32 6))) ≤ v3 → (xin (((n32 15) + ((n32 7) * v3)) + (n32 4)) 243 = true ∧ ((v1 < (m 284 (ix (((n32 15) + ((n32 7) * v3)) + (n32 4)))) → VLI (D + 2) 268 3 [(0, vR 11 (283)), (1, vI v1), (2, vI (v2 ||| (n32 0))), (3, vI (v3 + (n32 1)))] [] m Q E) ∧ (¬ v1 < (m 284 (ix (((n32 15) + ((n32 7) * v3)) + (n32 4)))) → VLI (D + 2) 268 3 [(0, vR 11 (283)), (1, vI v1), (2, vI (v2 ||| ((n32 1) <<< (v3 &&& 31)))), (3, vI (v3 + (n32 1)))] [] m Q E)))))) :
    VLI (D + 2) 268 3 [(0, vR 11 (283)), (1, vI v1), (2, vI v2), (3, vI v3)] [] m Q E := by
  refine VL_at (al := [(0, vR 11 (283)), (1, vI v1), (2, vI v2), (3, vI v3)]) (st := []) km268 k268_3 ?_
  refine And.intro (xin_k rfl) ?_
  refine And.intro (fun c2 => ?_) (fun c2 => ?_)
  · refine VL_norm km268 k268_8 (VL_at (al := [(2, vI v2)]) (st := []) km268 k268_8 ?_)
    exact (h.1 c2)
  · refine VL_norm km268 k268_4 (VL_at (al := [(0, vR 11 (283)), (1, vI v1), (2, vI v2), (3, vI v3)]) (st := []) km268 k268_4 ?_)
    refine V_of ?_
    refine VL_norm km202 k202_0 (VL_at (al := [(0, vR 11 (283)), (1, vI v3), (2, vI (n32 4))]) (st := []) km202 k202_0 ?_)
    refine And.intro (h.2 c2).1 ?_
    refine And.intro (fun c1 => ?_) (fun c1 => ?_)
    · refine VL_norm km268 k268_6 (VL_at (al := [(0, vR 11 (283)), (1, vI v1), (3, vI v3)]) (st := [vI v2]) km268 k268_6 ?_)
      refine VL_norm km268 k268_7 (VL_at (al := [(0, vR 11 (283)), (1, vI v1), (3, vI v3)]) (st := [vI (n32 0), vI v2]) km268 k268_7 ?_)
      exact VL_norm km268 k268_3 ((h.2 c2).2.1 c1)
    · refine VL_norm km268 k268_5 (VL_at (al := [(0, vR 11 (283)), (1, vI v1), (3, vI v3)]) (st := [vI v2]) km268 k268_5 ?_)
      refine VL_norm km268 k268_7 (VL_at (al := [(0, vR 11 (283)), (1, vI v1), (3, vI v3)]) (st := [vI ((n32 1) <<< (v3 &&& 31)), vI v2]) km268 k268_7 ?_)
      exact VL_norm km268 k268_3 ((h.2 c2).2.2 c1)
/-- BannerParadeModel.swappers, label 0 -/
theorem w269_0 {D : Nat}  {m : XM} {Q : Int32 → XM → Prop} {E : Nat → XM → Prop}
    (h : VI (D + 2) 275 [vR 11 (283)] m (fun x1 m1 => ((x1 = (n32 0) → Q (n32 0) m1) ∧ (¬ x1 = (n32 0) → VLI (D + 3) 269 3 [(0, vR 11 (283)), (1, vI (n32 0)), (2, vI (n32 0))] [] m1 Q E))) E) :
    VI (D + 3) 269 [vR 11 (283)] m Q E := by
  refine V_of (VL_at (al := [(0, vR 11 (283))]) (st := []) km269 k269_0 ?_)
  refine V_mono h (fun u1 m1 h1 => ?_) (fun _ _ h => h)
  refine And.intro (fun c2 => ?_) (fun c2 => ?_)
  · refine VL_norm km269 k269_1 (VL_at (al := []) (st := []) km269 k269_1 ?_)
    exact (h1.1 c2)
  · refine VL_norm km269 k269_2 (VL_at (al := [(0, vR 11 (283))]) (st := []) km269 k269_2 ?_)
    exact VL_norm km269 k269_3 (h1.2 c2)
/-- BannerParadeModel.swappers, label 3 -/
theorem w269_3 {D : Nat} {v1 : Int32} {v2 : Int32} {m : XM} {Q : Int32 → XM → Prop} {E : Nat → XM → Prop}
    (h : (((m 284 (ix (n32 6))) ≤ v2 → Q v1 m) ∧ (¬ (m 284 (ix (n32 6))) ≤ v2 → VI (D + 2) 216 [vR 11 (283), vI v2] m (fun x1 m1 => ((x1 = (n32 0) → VLI (D + 3) 269 3 [(0, vR 11 (283)), (1, vI (v1 ||| (n32 0))), (2, vI (v2 + (n32 1)))] [] m1 Q E) ∧ (¬ x1 = (n32 0) → VLI (D + 3) 269 3 [(0, vR 11 (283)), (1, vI (v1 ||| ((n32 1) <<< (v2 &&& 31)))), (2, vI (v2 + (n32 1)))] [] m1 Q E))) E))) :
    VLI (D + 3) 269 3 [(0, vR 11 (283)), (1, vI v1), (2, vI v2)] [] m Q E := by
  refine VL_at (al := [(0, vR 11 (283)), (1, vI v1), (2, vI v2)]) (st := []) km269 k269_3 ?_
  refine And.intro (xin_k rfl) ?_
  refine And.intro (fun c3 => ?_) (fun c3 => ?_)
  · refine VL_norm km269 k269_8 (VL_at (al := [(1, vI v1)]) (st := []) km269 k269_8 ?_)
    exact (h.1 c3)
  · refine VL_norm km269 k269_4 (VL_at (al := [(0, vR 11 (283)), (1, vI v1), (2, vI v2)]) (st := []) km269 k269_4 ?_)
    refine V_mono (h.2 c3) (fun u1 m1 h1 => ?_) (fun _ _ h => h)
    refine And.intro (fun c2 => ?_) (fun c2 => ?_)
    · refine VL_norm km269 k269_6 (VL_at (al := [(0, vR 11 (283)), (2, vI v2)]) (st := [vI v1]) km269 k269_6 ?_)
      refine VL_norm km269 k269_7 (VL_at (al := [(0, vR 11 (283)), (2, vI v2)]) (st := [vI (n32 0), vI v1]) km269 k269_7 ?_)
      exact VL_norm km269 k269_3 (h1.1 c2)
    · refine VL_norm km269 k269_5 (VL_at (al := [(0, vR 11 (283)), (2, vI v2)]) (st := [vI v1]) km269 k269_5 ?_)
      refine VL_norm km269 k269_7 (VL_at (al := [(0, vR 11 (283)), (2, vI v2)]) (st := [vI ((n32 1) <<< (v2 &&& 31)), vI v1]) km269 k269_7 ?_)
      exact VL_norm km269 k269_3 (h1.2 c2)
/-- BannerParadeModel.nextPlan, label 0 -/
theorem w270_0 {D : Nat}  {m : XM} {Q : Int32 → XM → Prop} {E : Nat → XM → Prop}
    (h : VI (D + 1) 275 [vR 11 (283)] m (fun x1 m1 => ((x1 = (n32 0) → Q (n32 0) m1) ∧ (¬ x1 = (n32 0) → VLI (D + 2) 270 3 [(0, vR 11 (283)), (1, vI (-(n32 1))), (2, vI (n32 0))] [] m1 Q E))) E) :
    VI (D + 2) 270 [vR 11 (283)] m Q E := by
  refine V_of (VL_at (al := [(0, vR 11 (283))]) (st := []) km270 k270_0 ?_)
  refine V_mono h (fun u1 m1 h1 => ?_) (fun _ _ h => h)
  refine And.intro (fun c2 => ?_) (fun c2 => ?_)
  · refine VL_norm km270 k270_1 (VL_at (al := []) (st := []) km270 k270_1 ?_)
    exact (h1.1 c2)
  · refine VL_norm km270 k270_2 (VL_at (al := [(0, vR 11 (283))]) (st := []) km270 k270_2 ?_)
    exact VL_norm km270 k270_3 (h1.2 c2)
/-- BannerParadeModel.nextPlan, label 3 -/
theorem w270_3 {D : Nat} {v1 : Int32} {v2 : Int32} {m : XM} {Q : Int32 → XM → Prop} {E : Nat → XM → Prop}
    (h : (((m 284 (ix (n32 8))) ≤ v2 → Q v1 m) ∧ (¬ (m 284 (ix (n32 8))) ≤ v2 → (xin (((n32 171) + ((n32 3) * v2)) + (n32 2)) 243 = true ∧ (((m 284 (ix (((n32 171) + ((n32 3) * v2)) + (n32 2)))) = (n32 0) → ((v1 = (-(n32 1)) → VLI (D + 2) 270 3 [(0, vR 11 (283)), (1, vI v2), (2, vI (v2 + (n32 1)))] [] m Q E) ∧ (¬ v1 = (-(n32 1)) → (xin (((n32 171) + ((n32 3) * v2)) + (n32 0)) 243 = true ∧ (xin (((n32 171) + ((n32 3) * v1)) + (n32 0)) 243 = true ∧ (((m 284 (ix (((n32 171) + ((n32 3) * v1)) + (n32 0)))) ≤ (m 284 (ix (((n32 171) + ((n32 3) * v2)) + (n32 0)))) → VLI (D + 2) 270 3 [(0, vR 11 (283)), (1, vI v1), (2, vI (v2 + (n32 1)))] [] m Q E) ∧ (¬ (m 284 (ix (((n32 171) + ((n32 3) * v1)) + (n32 0)))) ≤ (m 284 (ix (((n32 171) + ((n32 3) * v2)) + (n32 0)))) → VLI (D + 2) 270 3 [(0, vR 11 (283)), (1, vI v2), (2, vI (v2 + (n32 1)))] [] m Q E))))))) ∧ (¬ (m 284 (ix (((n32 171) + ((n32 3) * v2)) + (n32 2)))) = (n32 0) → VLI (D + 2) 270 3 [(0, vR 11 (283)), (1, vI v1), (2, vI (v2 + (n32 1)))] [] m Q E)))))) :
    VLI (D + 2) 270 3 [(0, vR 11 (283)), (1, vI v1), (2, vI v2)] [] m Q E := by
  refine VL_at (al := [(0, vR 11 (283)), (1, vI v1), (2, vI v2)]) (st := []) km270 k270_3 ?_
  refine And.intro (xin_k rfl) ?_
  refine And.intro (fun c4 => ?_) (fun c4 => ?_)
  · refine VL_norm km270 k270_9 (VL_at (al := [(1, vI v1)]) (st := []) km270 k270_9 ?_)
    exact (h.1 c4)
  · refine VL_norm km270 k270_4 (VL_at (al := [(0, vR 11 (283)), (1, vI v1), (2, vI v2)]) (st := []) km270 k270_4 ?_)
    refine V_of ?_
    refine VL_norm km206 k206_0 (VL_at (al := [(0, vR 11 (283)), (1, vI v2), (2, vI (n32 2))]) (st := []) km206 k206_0 ?_)
    refine And.intro (h.2 c4).1 ?_
    refine And.intro (fun c3 => ?_) (fun c3 => ?_)
    · refine VL_norm km270 k270_5 (VL_at (al := [(0, vR 11 (283)), (1, vI v1), (2, vI v2)]) (st := []) km270 k270_5 ?_)
      refine And.intro (fun c2 => ?_) (fun c2 => ?_)
      · refine VL_norm km270 k270_7 (VL_at (al := [(0, vR 11 (283)), (2, vI v2)]) (st := []) km270 k270_7 ?_)
        refine VL_norm km270 k270_8 (VL_at (al := [(0, vR 11 (283)), (1, vI v2), (2, vI v2)]) (st := []) km270 k270_8 ?_)
        exact VL_norm km270 k270_3 (((h.2 c4).2.1 c3).1 c2)
      · refine VL_norm km270 k270_6 (VL_at (al := [(0, vR 11 (283)), (1, vI v1), (2, vI v2)]) (st := []) km270 k270_6 ?_)
        refine V_of ?_
        refine VL_norm km206 k206_0 (VL_at (al := [(0, vR 11 (283)), (1, vI v2), (2, vI (n32 0))]) (st := []) km206 k206_0 ?_)
        refine And.intro (((h.2 c4).2.1 c3).2 c2).1 ?_
        refine V_of ?_
        refine VL_norm km206 k206_0 (VL_at (al := [(0, vR 11 (283)), (1, vI v1), (2, vI (n32 0))]) (st := []) km206 k206_0 ?_)
        refine And.intro (((h.2 c4).2.1 c3).2 c2).2.1 ?_
        refine And.intro (fun c1 => ?_) (fun c1 => ?_)
        · refine VL_norm km270 k270_8 (VL_at (al := [(0, vR 11 (283)), (1, vI v1), (2, vI v2)]) (st := []) km270 k270_8 ?_)
          exact VL_norm km270 k270_3 ((((h.2 c4).2.1 c3).2 c2).2.2.1 c1)
        · refine VL_norm km270 k270_7 (VL_at (al := [(0, vR 11 (283)), (2, vI v2)]) (st := []) km270 k270_7 ?_)
          refine VL_norm km270 k270_8 (VL_at (al := [(0, vR 11 (283)), (1, vI v2), (2, vI v2)]) (st := []) km270 k270_8 ?_)
          exact VL_norm km270 k270_3 ((((h.2 c4).2.1 c3).2 c2).2.2.2 c1)
    · refine VL_norm km270 k270_8 (VL_at (al := [(0, vR 11 (283)), (1, vI v1), (2, vI v2)]) (st := []) km270 k270_8 ?_)
      exact VL_norm km270 k270_3 ((h.2 c4).2.2 c3)
/-- BannerParadeModel.lyingFrom, label 0 -/
theorem w271_0 {D : Nat} {v1 : Int32} {v2 : Int32} {m : XM} {Q : Int32 → XM → Prop} {E : Nat → XM → Prop}
    (h : VI (D + 1) 275 [vR 11 (283)] m (fun x1 m1 => ((x1 = (n32 0) → Q (n32 0) m1) ∧ (¬ x1 = (n32 0) → VLI (D + 2) 271 3 [(0, vR 11 (283)), (1, vI v1), (2, vI v2), (3, vI (n32 0)), (4, vI (n32 0))] [] m1 Q E))) E) :
    VI (D + 2) 271 [vR 11 (283), vI v1, vI v2] m Q E := by
  refine V_of (VL_at (al := [(0, vR 11 (283)), (1, vI v1), (2, vI v2)]) (st := []) km271 k271_0 ?_)
  refine V_mono h (fun u1 m1 h1 => ?_) (fun _ _ h => h)
  refine And.intro (fun c2 => ?_) (fun c2 => ?_)
  · refine VL_norm km271 k271_1 (VL_at (al := []) (st := []) km271 k271_1 ?_)
    exact (h1.1 c2)
  · refine VL_norm km271 k271_2 (VL_at (al := [(0, vR 11 (283)), (1, vI v1), (2, vI v2)]) (st := []) km271 k271_2 ?_)
    exact VL_norm km271 k271_3 (h1.2 c2)
/-- BannerParadeModel.lyingFrom, label 3 -/
theorem w271_3 {D : Nat} {v1 : Int32} {v2 : Int32} {v3 : Int32} {v4 : Int32} {m : XM} {Q : Int32 → XM → Prop} {E : Nat → XM → Prop}
    (h : (((m 284 (ix (n32 10))) ≤ v4 → Q v3 m) ∧ (¬ (m 284 (ix (n32 10))) ≤ v4 → (xin (((n32 207) + ((n32 3) * v4)) + (n32 1)) 243 = true ∧ (((m 284 (ix (((n32 207) + ((n32 3) * v4)) + (n32 1)))) < v1 → VLI (D + 2) 271 3 [(0, vR 11 (283)), (1, vI v1), (2, vI v2), (3, vI (v3 + (n32 0))), (4, vI (v4 + (n32 1)))] [] m Q E) ∧ (¬ (m 284 (ix (((n32 207) + ((n32 3) * v4)) + (n32 1)))) < v1 → ((v2 < (m 284 (ix (((n32 207) + ((n32 3) * v4)) + (n32 1)))) → VLI (D + 2) 271 3 [(0, vR 11 (283)), (1, vI v1), (2, vI v2), (3, vI (v3 + (n32 0))), (4, vI (v4 + (n32 1)))] [] m Q E) ∧ (¬ v2 < (m 284 (ix (((n32 207) + ((n32 3) * v4)) + (n32 1)))) → VLI (D + 2) 271 3 [(0, vR 11 (283)), (1, vI v1), (2, vI v2), (3, vI (v3 + (n32 1))), (4, vI (v4 + (n32 1)))] [] m Q E)))))))) :
    VLI (D + 2) 271 3 [(0, vR 11 (283)), (1, vI v1), (2, vI v2), (3, vI v3), (4, vI v4)] [] m Q E := by
  refine VL_at (al := [(0, vR 11 (283)), (1, vI v1), (2, vI v2), (3, vI v3), (4, vI v4)]) (st := []) km271 k271_3 ?_
  refine And.intro (xin_k rfl) ?_
  refine And.intro (fun c3 => ?_) (fun c3 => ?_)
  · refine VL_norm km271 k271_8 (VL_at (al := [(3, vI v3)]) (st := []) km271 k271_8 ?_)
    exact (h.1 c3)
  · refine VL_norm km271 k271_4 (VL_at (al := [(0, vR 11 (283)), (1, vI v1), (2, vI v2), (3, vI v3), (4, vI v4)]) (st := []) km271 k271_4 ?_)
    refine V_of ?_
    refine VL_norm km207 k207_0 (VL_at (al := [(0, vR 11 (283)), (1, vI v4), (2, vI (n32 1))]) (st := []) km207 k207_0 ?_)
    refine And.intro (h.2 c3).1 ?_
    refine V_of ?_
    refine VL_norm km175 k175_0 (VL_at (al := [(0, vI (m 284 (ix (((n32 207) + ((n32 3) * v4)) + (n32 1))))), (1, vI v1), (2, vI v2)]) (st := []) km175 k175_0 ?_)
    refine And.intro (fun c2 => ?_) (fun c2 => ?_)
    · refine VL_norm km175 k175_3 (VL_at (al := []) (st := []) km175 k175_3 ?_)
      refine VL_norm km175 k175_4 (VL_at (al := []) (st := [vI (n32 0)]) km175 k175_4 ?_)
      refine And.intro xrt20 ?_
      refine And.intro (fun _ => ?_) (fun c => absurd (by decide) c)
      refine VL_norm km271 k271_6 (VL_at (al := [(0, vR 11 (283)), (1, vI v1), (2, vI v2), (4, vI v4)]) (st := [vI v3]) km271 k271_6 ?_)
      refine VL_norm km271 k271_7 (VL_at (al := [(0, vR 11 (283)), (1, vI v1), (2, vI v2), (4, vI v4)]) (st := [vI (n32 0), vI v3]) km271 k271_7 ?_)
      exact VL_norm km271 k271_3 ((h.2 c3).2.1 c2)
    · refine VL_norm km175 k175_1 (VL_at (al := [(0, vI (m 284 (ix (((n32 207) + ((n32 3) * v4)) + (n32 1))))), (2, vI v2)]) (st := []) km175 k175_1 ?_)
      refine And.intro (fun c1 => ?_) (fun c1 => ?_)
      · refine VL_norm km175 k175_3 (VL_at (al := []) (st := []) km175 k175_3 ?_)
        refine VL_norm km175 k175_4 (VL_at (al := []) (st := [vI (n32 0)]) km175 k175_4 ?_)
        refine And.intro xrt20 ?_
        refine And.intro (fun _ => ?_) (fun c => absurd (by decide) c)
        refine VL_norm km271 k271_6 (VL_at (al := [(0, vR 11 (283)), (1, vI v1), (2, vI v2), (4, vI v4)]) (st := [vI v3]) km271 k271_6 ?_)
        refine VL_norm km271 k271_7 (VL_at (al := [(0, vR 11 (283)), (1, vI v1), (2, vI v2), (4, vI v4)]) (st := [vI (n32 0), vI v3]) km271 k271_7 ?_)
        exact VL_norm km271 k271_3 (((h.2 c3).2.2 c2).1 c1)
      · refine VL_norm km175 k175_2 (VL_at (al := []) (st := []) km175 k175_2 ?_)
        refine VL_norm km175 k175_4 (VL_at (al := []) (st := [vI (n32 1)]) km175 k175_4 ?_)
        refine And.intro xrt21 ?_
        refine And.intro (fun c => absurd c (by decide)) (fun _ => ?_)
        refine VL_norm km271 k271_5 (VL_at (al := [(0, vR 11 (283)), (1, vI v1), (2, vI v2), (4, vI v4)]) (st := [vI v3]) km271 k271_5 ?_)
        refine VL_norm km271 k271_7 (VL_at (al := [(0, vR 11 (283)), (1, vI v1), (2, vI v2), (4, vI v4)]) (st := [vI (n32 1), vI v3]) km271 k271_7 ?_)
        exact VL_norm km271 k271_3 (((h.2 c3).2.2 c2).2 c1)
/-- BannerParadeModel.share, label 0 -/
theorem w272_0 {D : Nat} {v1 : Int32} {m : XM} {Q : UInt32 → XM → Prop} {E : Nat → XM → Prop}
    (h : VI (D + 4) 242 [vR 11 (283), vI v1] m (fun x1 m1 => ((x1 = (n32 0) → Q FP.fconst0 m1) ∧ (¬ x1 = (n32 0) → VF (D + 4) 224 [vR 11 (283), vI v1] m1 (fun x2 m2 => Q x2 m2) E))) E) :
    VF (D + 5) 272 [vR 11 (283), vI v1] m Q E := by
  refine V_of (VL_at (al := [(0, vR 11 (283)), (1, vI v1)]) (st := []) km272 k272_0 ?_)
  refine V_mono h (fun u1 m1 h1 => ?_) (fun _ _ h => h)
  refine And.intro (fun c3 => ?_) (fun c3 => ?_)
  · refine VL_norm km272 k272_2 (VL_at (al := []) (st := []) km272 k272_2 ?_)
    refine VL_norm km272 k272_3 (VL_at (al := []) (st := [vF FP.fconst0]) km272 k272_3 ?_)
    exact (h1.1 c3)
  · refine VL_norm km272 k272_1 (VL_at (al := [(0, vR 11 (283)), (1, vI v1)]) (st := []) km272 k272_1 ?_)
    refine V_mono (h1.2 c3) (fun u2 m2 h2 => ?_) (fun _ _ h => h)
    refine VL_norm km272 k272_3 (VL_at (al := []) (st := [vF (xtf u2)]) km272 k272_3 ?_)
    exact h2
/-- BannerParadeModel.shareBits, label 0 -/
theorem w273_0 {D : Nat} {v1 : Int32} {m : XM} {Q : Int32 → XM → Prop} {E : Nat → XM → Prop}
    (h : VI (D + 4) 242 [vR 11 (283), vI v1] m (fun x1 m1 => ((x1 = (n32 0) → Q (n32 0) m1) ∧ (¬ x1 = (n32 0) → VF (D + 4) 224 [vR 11 (283), vI v1] m1 (fun x2 m2 => (((Op.cmpValue (FP.fcmp x2 x2) .l) = (n32 0) → Q (x2).toInt32 m2) ∧ (¬ (Op.cmpValue (FP.fcmp x2 x2) .l) = (n32 0) → Q (n32 2143289344) m2))) E))) E) :
    VI (D + 5) 273 [vR 11 (283), vI v1] m Q E := by
  refine V_of (VL_at (al := [(0, vR 11 (283)), (1, vI v1)]) (st := []) km273 k273_0 ?_)
  refine V_mono h (fun u1 m1 h1 => ?_) (fun _ _ h => h)
  refine And.intro (fun c4 => ?_) (fun c4 => ?_)
  · refine VL_norm km273 k273_2 (VL_at (al := []) (st := []) km273 k273_2 ?_)
    refine VL_norm km273 k273_3 (VL_at (al := []) (st := [vI (n32 0)]) km273 k273_3 ?_)
    exact (h1.1 c4)
  · refine VL_norm km273 k273_1 (VL_at (al := [(0, vR 11 (283)), (1, vI v1)]) (st := []) km273 k273_1 ?_)
    refine V_mono (h1.2 c4) (fun u2 m2 h2 => ?_) (fun _ _ h => h)
    refine V_of ?_
    refine VL_norm km388 k388_0 (VL_at (al := [(0, vF (xtf u2))]) (st := []) km388 k388_0 ?_)
    refine V_of ?_
    refine VL_norm km387 k387_0 (VL_at (al := [(0, vF (xtf u2))]) (st := []) km387 k387_0 ?_)
    refine And.intro (fun c3 => ?_) (fun c3 => ?_)
    · refine VL_norm km387 k387_2 (VL_at (al := []) (st := []) km387 k387_2 ?_)
      refine VL_norm km387 k387_3 (VL_at (al := []) (st := [vI (n32 0)]) km387 k387_3 ?_)
      refine And.intro xrt20 ?_
      refine And.intro (fun _ => ?_) (fun c => absurd (by decide) c)
      refine VL_norm km388 k388_1 (VL_at (al := [(0, vF (xtf u2))]) (st := []) km388 k388_1 ?_)
      refine VL_norm km273 k273_3 (VL_at (al := []) (st := [vI ((xtf u2)).toInt32]) km273 k273_3 ?_)
      exact (h2.1 c3)
    · refine VL_norm km387 k387_1 (VL_at (al := []) (st := []) km387 k387_1 ?_)
      refine VL_norm km387 k387_3 (VL_at (al := []) (st := [vI (n32 1)]) km387 k387_3 ?_)
      refine And.intro xrt21 ?_
      refine And.intro (fun c => absurd c (by decide)) (fun _ => ?_)
      refine VL_norm km388 k388_2 (VL_at (al := []) (st := []) km388 k388_2 ?_)
      refine VL_norm km273 k273_3 (VL_at (al := []) (st := [vI (n32 2143289344)]) km273 k273_3 ?_)
      exact (h2.2 c3)
/-- BannerParadeModel.missing, label 0 -/
theorem w274_0 {D : Nat} {v1 : Int32} {m : XM} {Q : Int32 → XM → Prop} {E : Nat → XM → Prop}
    (h : VI (D + 2) 242 [vR 11 (283), vI v1] m (fun x1 m1 => ((x1 = (n32 0) → Q (n32 0) m1) ∧ (¬ x1 = (n32 0) → VLI (D + 3) 274 3 [(0, vR 11 (283)), (1, vI v1), (2, vI (n32 0)), (3, vI (n32 1))] [] m1 Q E))) E) :
    VI (D + 3) 274 [vR 11 (283), vI v1] m Q E := by
  refine V_of (VL_at (al := [(0, vR 11 (283)), (1, vI v1)]) (st := []) km274 k274_0 ?_)
  refine V_mono h (fun u1 m1 h1 => ?_) (fun _ _ h => h)
  refine And.intro (fun c2 => ?_) (fun c2 => ?_)
  · refine VL_norm km274 k274_1 (VL_at (al := []) (st := []) km274 k274_1 ?_)
    exact (h1.1 c2)
  · refine VL_norm km274 k274_2 (VL_at (al := [(0, vR 11 (283)), (1, vI v1)]) (st := []) km274 k274_2 ?_)
    exact VL_norm km274 k274_3 (h1.2 c2)
/-- BannerParadeModel.missing, label 3 -/
theorem w274_3 {D : Nat} {v1 : Int32} {v2 : Int32} {v3 : Int32} {m : XM} {Q : Int32 → XM → Prop} {E : Nat → XM → Prop}
    (h : (((n32 26) < v3 → Q v2 m) ∧ (¬ (n32 26) < v3 → VLI (D + 3) 274 5 [(0, vR 11 (283)), (1, vI v1), (2, vI v2), (3, vI v3), (4, vI (n32 0)), (5, vI (n32 0))] [] m Q E))) :
    VLI (D + 3) 274 3 [(0, vR 11 (283)), (1, vI v1), (2, vI v2), (3, vI v3)] [] m Q E := by
  refine VL_at (al := [(0, vR 11 (283)), (1, vI v1), (2, vI v2), (3, vI v3)]) (st := []) km274 k274_3 ?_
  refine And.intro (fun c1 => ?_) (fun c1 => ?_)
  · refine VL_norm km274 k274_17 (VL_at (al := [(2, vI v2)]) (st := []) km274 k274_17 ?_)
    exact (h.1 c1)
  · refine VL_norm km274 k274_4 (VL_at (al := [(0, vR 11 (283)), (1, vI v1), (2, vI v2), (3, vI v3)]) (st := []) km274 k274_4 ?_)
    exact VL_norm km274 k274_5 (h.2 c1)
/-- BannerParadeModel.missing, label 5 -/
theorem w274_5 {D : Nat} {v1 : Int32} {v2 : Int32} {v3 : Int32} {v4 : Int32} {v5 : Int32} {m : XM} {Q : Int32 → XM → Prop} {E : Nat → XM → Prop}
    (h : (xin (((n32 99) + ((n32 12) * v1)) + (n32 2)) 243 = true ∧ (((m 284 (ix (((n32 99) + ((n32 12) * v1)) + (n32 2)))) ≤ v5 → VLI (D + 3) 274 11 [(0, vR 11 (283)), (1, vI v1), (2, vI v2), (3, vI v3), (4, vI v4), (5, vI (n32 0))] [] m Q E) ∧ (¬ (m 284 (ix (((n32 99) + ((n32 12) * v1)) + (n32 2)))) ≤ v5 → (xin (((n32 99) + ((n32 12) * v1)) + ((n32 4) + v5)) 243 = true ∧ (((m 284 (ix (((n32 99) + ((n32 12) * v1)) + ((n32 4) + v5)))) = ((n32 96) + v3) → VLI (D + 3) 274 5 [(0, vR 11 (283)), (1, vI v1), (2, vI v2), (3, vI v3), (4, vI (v4 + (n32 1))), (5, vI (v5 + (n32 1)))] [] m Q E) ∧ (¬ (m 284 (ix (((n32 99) + ((n32 12) * v1)) + ((n32 4) + v5)))) = ((n32 96) + v3) → VLI (D + 3) 274 5 [(0, vR 11 (283)), (1, vI v1), (2, vI v2), (3, vI v3), (4, vI (v4 + (n32 0))), (5, vI (v5 + (n32 1)))] [] m Q E))))))) :
    VLI (D + 3) 274 5 [(0, vR 11 (283)), (1, vI v1), (2, vI v2), (3, vI v3), (4, vI v4), (5, vI v5)] [] m Q E := by
  refine VL_at (al := [(0, vR 11 (283)), (1, vI v1), (2, vI v2), (3, vI v3), (4, vI v4), (5, vI v5)]) (st := []) km274 k274_5 ?_
  refine V_of ?_
  refine VL_norm km204 k204_0 (VL_at (al := [(0, vR 11 (283)), (1, vI v1), (2, vI (n32 2))]) (st := []) km204 k204_0 ?_)
  refine And.intro h.1 ?_
  refine And.intro (fun c2 => ?_) (fun c2 => ?_)
  · refine VL_norm km274 k274_10 (VL_at (al := [(0, vR 11 (283)), (1, vI v1), (2, vI v2), (3, vI v3), (4, vI v4)]) (st := []) km274 k274_10 ?_)
    exact VL_norm km274 k274_11 (h.2.1 c2)
  · refine VL_norm km274 k274_6 (VL_at (al := [(0, vR 11 (283)), (1, vI v1), (2, vI v2), (3, vI v3), (4, vI v4), (5, vI v5)]) (st := []) km274 k274_6 ?_)
    refine V_of ?_
    refine VL_norm km204 k204_0 (VL_at (al := [(0, vR 11 (283)), (1, vI v1), (2, vI ((n32 4) + v5))]) (st := []) km204 k204_0 ?_)
    refine And.intro (h.2.2 c2).1 ?_
    refine And.intro (fun c1 => ?_) (fun c1 => ?_)
    · refine VL_norm km274 k274_7 (VL_at (al := [(0, vR 11 (283)), (1, vI v1), (2, vI v2), (3, vI v3), (5, vI v5)]) (st := [vI v4]) km274 k274_7 ?_)
      refine VL_norm km274 k274_9 (VL_at (al := [(0, vR 11 (283)), (1, vI v1), (2, vI v2), (3, vI v3), (5, vI v5)]) (st := [vI (n32 1), vI v4]) km274 k274_9 ?_)
      exact VL_norm km274 k274_5 ((h.2.2 c2).2.1 c1)
    · refine VL_norm km274 k274_8 (VL_at (al := [(0, vR 11 (283)), (1, vI v1), (2, vI v2), (3, vI v3), (5, vI v5)]) (st := [vI v4]) km274 k274_8 ?_)
      refine VL_norm km274 k274_9 (VL_at (al := [(0, vR 11 (283)), (1, vI v1), (2, vI v2), (3, vI v3), (5, vI v5)]) (st := [vI (n32 0), vI v4]) km274 k274_9 ?_)
      exact VL_norm km274 k274_5 ((h.2.2 c2).2.2 c1)
/-- BannerParadeModel.missing, label 11 -/
theorem w274_11 {D : Nat} {v1 : Int32} {v2 : Int32} {v3 : Int32} {v4 : Int32} {v5 : Int32} {m : XM} {Q : Int32 → XM → Prop} {E : Nat → XM → Prop}
    (h : (((m 284 (ix (n32 6))) ≤ v5 → VI (D + 2) 385 [vI (n32 0), vI v4] m (fun x1 m1 => VLI (D + 3) 274 3 [(0, vR 11 (283)), (1, vI v1), (2, vI (v2 + x1)), (3, vI (v3 + (n32 1)))] [] m1 Q E) E) ∧ (¬ (m 284 (ix (n32 6))) ≤ v5 → (xin (((n32 15) + ((n32 7) * v5)) + (n32 0)) 243 = true ∧ (((m 284 (ix (((n32 15) + ((n32 7) * v5)) + (n32 0)))) = v3 → VLI (D + 3) 274 11 [(0, vR 11 (283)), (1, vI v1), (2, vI v2), (3, vI v3), (4, vI (v4 - (n32 1))), (5, vI (v5 + (n32 1)))] [] m Q E) ∧ (¬ (m 284 (ix (((n32 15) + ((n32 7) * v5)) + (n32 0)))) = v3 → VLI (D + 3) 274 11 [(0, vR 11 (283)), (1, vI v1), (2, vI v2), (3, vI v3), (4, vI (v4 - (n32 0))), (5, vI (v5 + (n32 1)))] [] m Q E)))))) :
    VLI (D + 3) 274 11 [(0, vR 11 (283)), (1, vI v1), (2, vI v2), (3, vI v3), (4, vI v4), (5, vI v5)] [] m Q E := by
  refine VL_at (al := [(0, vR 11 (283)), (1, vI v1), (2, vI v2), (3, vI v3), (4, vI v4), (5, vI v5)]) (st := []) km274 k274_11 ?_
  refine And.intro (xin_k rfl) ?_
  refine And.intro (fun c3 => ?_) (fun c3 => ?_)
  · refine VL_norm km274 k274_16 (VL_at (al := [(0, vR 11 (283)), (1, vI v1), (2, vI v2), (3, vI v3), (4, vI v4)]) (st := []) km274 k274_16 ?_)
    refine V_mono (h.1 c3) (fun u1 m1 h1 => ?_) (fun _ _ h => h)
    exact VL_norm km274 k274_3 h1
  · refine VL_norm km274 k274_12 (VL_at (al := [(0, vR 11 (283)), (1, vI v1), (2, vI v2), (3, vI v3), (4, vI v4), (5, vI v5)]) (st := []) km274 k274_12 ?_)
    refine V_of ?_
    refine VL_norm km202 k202_0 (VL_at (al := [(0, vR 11 (283)), (1, vI v5), (2, vI (n32 0))]) (st := []) km202 k202_0 ?_)
    refine And.intro (h.2 c3).1 ?_
    refine And.intro (fun c2 => ?_) (fun c2 => ?_)
    · refine VL_norm km274 k274_13 (VL_at (al := [(0, vR 11 (283)), (1, vI v1), (2, vI v2), (3, vI v3), (5, vI v5)]) (st := [vI v4]) km274 k274_13 ?_)
      refine VL_norm km274 k274_15 (VL_at (al := [(0, vR 11 (283)), (1, vI v1), (2, vI v2), (3, vI v3), (5, vI v5)]) (st := [vI (n32 1), vI v4]) km274 k274_15 ?_)
      exact VL_norm km274 k274_11 ((h.2 c3).2.1 c2)
    · refine VL_norm km274 k274_14 (VL_at (al := [(0, vR 11 (283)), (1, vI v1), (2, vI v2), (3, vI v3), (5, vI v5)]) (st := [vI v4]) km274 k274_14 ?_)
      refine VL_norm km274 k274_15 (VL_at (al := [(0, vR 11 (283)), (1, vI v1), (2, vI v2), (3, vI v3), (5, vI v5)]) (st := [vI (n32 0), vI v4]) km274 k274_15 ?_)
      exact VL_norm km274 k274_11 ((h.2 c3).2.2 c2)
/-- BannerParadeModel.mayAsk, label 0 -/
theorem w275_0 {D : Nat}  {m : XM} {Q : Int32 → XM → Prop} {E : Nat → XM → Prop}
    (h : VI D 176 [vR 11 (283), vI (m 283 6), vI (n32 1), vI (n32 1)] m (fun x1 m1 => (xrt 2 x1 = true ∧ Q x1 m1)) E) :
    VI (D + 1) 275 [vR 11 (283)] m Q E := by
  refine V_of (VL_at (al := [(0, vR 11 (283))]) (st := []) km275 k275_0 ?_)
  refine V_mono h (fun u1 m1 h1 => ?_) (fun _ _ h => h)
  refine And.intro h1.1 ?_
  exact h1.2
/-- BannerParadeModel.bestStand, label 0 -/
theorem w276_0 {D : Nat}  {m : XM} {Q : Int32 → XM → Prop} {E : Nat → XM → Prop}
    (h : VI (D + 4) 275 [vR 11 (283)] m (fun x1 m1 => ((x1 = (n32 0) → Q (n32 0) m1) ∧ (¬ x1 = (n32 0) → VLI (D + 5) 276 3 [(0, vR 11 (283)), (1, vI (-(n32 1))), (2, vI (n32 0))] [] m1 Q E))) E) :
    VI (D + 5) 276 [vR 11 (283)] m Q E := by
  refine V_of (VL_at (al := [(0, vR 11 (283))]) (st := []) km276 k276_0 ?_)
  refine V_mono h (fun u1 m1 h1 => ?_) (fun _ _ h => h)
  refine And.intro (fun c2 => ?_) (fun c2 => ?_)
  · refine VL_norm km276 k276_1 (VL_at (al := []) (st := []) km276 k276_1 ?_)
    exact (h1.1 c2)
  · refine VL_norm km276 k276_2 (VL_at (al := [(0, vR 11 (283))]) (st := []) km276 k276_2 ?_)
    exact VL_norm km276 k276_3 (h1.2 c2)
/-- BannerParadeModel.bestStand, label 3 -/
theorem w276_3 {D : Nat} {v1 : Int32} {v2 : Int32} {m : XM} {Q : Int32 → XM → Prop} {E : Nat → XM → Prop}
    (h : (((m 284 (ix (n32 7))) ≤ v2 → Q v1 m) ∧ (¬ (m 284 (ix (n32 7))) ≤ v2 → ((v1 = (-(n32 1)) → VLI (D + 5) 276 3 [(0, vR 11 (283)), (1, vI v2), (2, vI (v2 + (n32 1)))] [] m Q E) ∧ (¬ v1 = (-(n32 1)) → VF (D + 4) 224 [vR 11 (283), vI v2] m (fun x1 m1 => VF (D + 4) 224 [vR 11 (283), vI v1] m1 (fun x2 m2 => (((Op.cmpValue (FP.fcmp x1 x2) .l) ≤ (n32 0) → VLI (D + 5) 276 3 [(0, vR 11 (283)), (1, vI v1), (2, vI (v2 + (n32 1)))] [] m2 Q E) ∧ (¬ (Op.cmpValue (FP.fcmp x1 x2) .l) ≤ (n32 0) → VLI (D + 5) 276 3 [(0, vR 11 (283)), (1, vI v2), (2, vI (v2 + (n32 1)))] [] m2 Q E))) E) E))))) :
    VLI (D + 5) 276 3 [(0, vR 11 (283)), (1, vI v1), (2, vI v2)] [] m Q E := by
  refine VL_at (al := [(0, vR 11 (283)), (1, vI v1), (2, vI v2)]) (st := []) km276 k276_3 ?_
  refine And.intro (xin_k rfl) ?_
  refine And.intro (fun c5 => ?_) (fun c5 => ?_)
  · refine VL_norm km276 k276_8 (VL_at (al := [(1, vI v1)]) (st := []) km276 k276_8 ?_)
    exact (h.1 c5)
  · refine VL_norm km276 k276_4 (VL_at (al := [(0, vR 11 (283)), (1, vI v1), (2, vI v2)]) (st := []) km276 k276_4 ?_)
    refine And.intro (fun c4 => ?_) (fun c4 => ?_)
    · refine VL_norm km276 k276_6 (VL_at (al := [(0, vR 11 (283)), (2, vI v2)]) (st := []) km276 k276_6 ?_)
      refine VL_norm km276 k276_7 (VL_at (al := [(0, vR 11 (283)), (1, vI v2), (2, vI v2)]) (st := []) km276 k276_7 ?_)
      exact VL_norm km276 k276_3 ((h.2 c5).1 c4)
    · refine VL_norm km276 k276_5 (VL_at (al := [(0, vR 11 (283)), (1, vI v1), (2, vI v2)]) (st := []) km276 k276_5 ?_)
      refine V_mono ((h.2 c5).2 c4) (fun u1 m1 h1 => ?_) (fun _ _ h => h)
      refine V_mono h1 (fun u2 m2 h2 => ?_) (fun _ _ h => h)
      refine And.intro (fun c3 => ?_) (fun c3 => ?_)
      · refine VL_norm km276 k276_7 (VL_at (al := [(0, vR 11 (283)), (1, vI v1), (2, vI v2)]) (st := []) km276 k276_7 ?_)
        exact VL_norm km276 k276_3 (h2.1 c3)
      · refine VL_norm km276 k276_6 (VL_at (al := [(0, vR 11 (283)), (2, vI v2)]) (st := []) km276 k276_6 ?_)
        refine VL_norm km276 k276_7 (VL_at (al := [(0, vR 11 (283)), (1, vI v2), (2, vI v2)]) (st := []) km276 k276_7 ?_)
        exact VL_norm km276 k276_3 (h2.2 c3)
/-- BannerParadeModel.readStands, label 0 -/
theorem w277_0 {D : Nat}  {m : XM} {Q : Int32 → XM → Prop} {E : Nat → XM → Prop}
    (h : VI (D + 1) 275 [vR 11 (283)] m (fun x1 m1 => ((x1 = (n32 0) → Q (n32 0) m1) ∧ (¬ x1 = (n32 0) → VI (D + 1) 231 [vR 11 (283)] m1 (fun x2 m2 => Q x2 m2) E))) E) :
    VI (D + 2) 277 [vR 11 (283)] m Q E := by
  refine V_of (VL_at (al := [(0, vR 11 (283))]) (st := []) km277 k277_0 ?_)
  refine V_mono h (fun u1 m1 h1 => ?_) (fun _ _ h => h)
  refine And.intro (fun c3 => ?_) (fun c3 => ?_)
  · refine VL_norm km277 k277_2 (VL_at (al := []) (st := []) km277 k277_2 ?_)
    refine VL_norm km277 k277_3 (VL_at (al := []) (st := [vI (n32 0)]) km277 k277_3 ?_)
    exact (h1.1 c3)
  · refine VL_norm km277 k277_1 (VL_at (al := [(0, vR 11 (283))]) (st := []) km277 k277_1 ?_)
    refine V_mono (h1.2 c3) (fun u2 m2 h2 => ?_) (fun _ _ h => h)
    refine VL_norm km277 k277_3 (VL_at (al := []) (st := [vI (xti u2)]) km277 k277_3 ?_)
    exact h2
/-- BannerParadeModel.weakest, label 0 -/
theorem w278_0 {D : Nat}  {m : XM} {Q : Int32 → XM → Prop} {E : Nat → XM → Prop}
    (h : VI (D + 1) 275 [vR 11 (283)] m (fun x1 m1 => ((x1 = (n32 0) → Q (n32 0) m1) ∧ (¬ x1 = (n32 0) → VLI (D + 2) 278 3 [(0, vR 11 (283)), (1, vI (-(n32 1))), (2, vI (n32 0))] [] m1 Q E))) E) :
    VI (D + 2) 278 [vR 11 (283)] m Q E := by
  refine V_of (VL_at (al := [(0, vR 11 (283))]) (st := []) km278 k278_0 ?_)
  refine V_mono h (fun u1 m1 h1 => ?_) (fun _ _ h => h)
  refine And.intro (fun c2 => ?_) (fun c2 => ?_)
  · refine VL_norm km278 k278_1 (VL_at (al := []) (st := []) km278 k278_1 ?_)
    exact (h1.1 c2)
  · refine VL_norm km278 k278_2 (VL_at (al := [(0, vR 11 (283))]) (st := []) km278 k278_2 ?_)
    exact VL_norm km278 k278_3 (h1.2 c2)
/-- BannerParadeModel.weakest, label 3 -/
theorem w278_3 {D : Nat} {v1 : Int32} {v2 : Int32} {m : XM} {Q : Int32 → XM → Prop} {E : Nat → XM → Prop}
    (h : (((m 284 (ix (n32 6))) ≤ v2 → Q v1 m) ∧ (¬ (m 284 (ix (n32 6))) ≤ v2 → ((v1 = (-(n32 1)) → VLI (D + 2) 278 3 [(0, vR 11 (283)), (1, vI v2), (2, vI (v2 + (n32 1)))] [] m Q E) ∧ (¬ v1 = (-(n32 1)) → (xin (((n32 15) + ((n32 7) * v2)) + (n32 4)) 243 = true ∧ (xin (((n32 15) + ((n32 7) * v1)) + (n32 4)) 243 = true ∧ (((m 284 (ix (((n32 15) + ((n32 7) * v1)) + (n32 4)))) ≤ (m 284 (ix (((n32 15) + ((n32 7) * v2)) + (n32 4)))) → VLI (D + 2) 278 3 [(0, vR 11 (283)), (1, vI v1), (2, vI (v2 + (n32 1)))] [] m Q E) ∧ (¬ (m 284 (ix (((n32 15) + ((n32 7) * v1)) + (n32 4)))) ≤ (m 284 (ix (((n32 15) + ((n32 7) * v2)) + (n32 4)))) → VLI (D + 2) 278 3 [(0, vR 11 (283)), (1, vI v2), (2, vI (v2 + (n32 1)))] [] m Q E))))))))) :
    VLI (D + 2) 278 3 [(0, vR 11 (283)), (1, vI v1), (2, vI v2)] [] m Q E := by
  refine VL_at (al := [(0, vR 11 (283)), (1, vI v1), (2, vI v2)]) (st := []) km278 k278_3 ?_
  refine And.intro (xin_k rfl) ?_
  refine And.intro (fun c3 => ?_) (fun c3 => ?_)
  · refine VL_norm km278 k278_8 (VL_at (al := [(1, vI v1)]) (st := []) km278 k278_8 ?_)
    exact (h.1 c3)
  · refine VL_norm km278 k278_4 (VL_at (al := [(0, vR 11 (283)), (1, vI v1), (2, vI v2)]) (st := []) km278 k278_4 ?_)
    refine And.intro (fun c2 => ?_) (fun c2 => ?_)
    · refine VL_norm km278 k278_6 (VL_at (al := [(0, vR 11 (283)), (2, vI v2)]) (st := []) km278 k278_6 ?_)
      refine VL_norm km278 k278_7 (VL_at (al := [(0, vR 11 (283)), (1, vI v2), (2, vI v2)]) (st := []) km278 k278_7 ?_)
      exact VL_norm km278 k278_3 ((h.2 c3).1 c2)
    · refine VL_norm km278 k278_5 (VL_at (al := [(0, vR 11 (283)), (1, vI v1), (2, vI v2)]) (st := []) km278 k278_5 ?_)
      refine V_of ?_
      refine VL_norm km202 k202_0 (VL_at (al := [(0, vR 11 (283)), (1, vI v2), (2, vI (n32 4))]) (st := []) km202 k202_0 ?_)
      refine And.intro ((h.2 c3).2 c2).1 ?_
      refine V_of ?_
      refine VL_norm km202 k202_0 (VL_at (al := [(0, vR 11 (283)), (1, vI v1), (2, vI (n32 4))]) (st := []) km202 k202_0 ?_)
      refine And.intro ((h.2 c3).2 c2).2.1 ?_
      refine And.intro (fun c1 => ?_) (fun c1 => ?_)
      · refine VL_norm km278 k278_7 (VL_at (al := [(0, vR 11 (283)), (1, vI v1), (2, vI v2)]) (st := []) km278 k278_7 ?_)
        exact VL_norm km278 k278_3 (((h.2 c3).2 c2).2.2.1 c1)
      · refine VL_norm km278 k278_6 (VL_at (al := [(0, vR 11 (283)), (2, vI v2)]) (st := []) km278 k278_6 ?_)
        refine VL_norm km278 k278_7 (VL_at (al := [(0, vR 11 (283)), (1, vI v2), (2, vI v2)]) (st := []) km278 k278_7 ?_)
        exact VL_norm km278 k278_3 (((h.2 c3).2 c2).2.2.2 c1)
/-- BannerParadeModel.widest, label 0 -/
theorem w279_0 {D : Nat}  {m : XM} {Q : Int32 → XM → Prop} {E : Nat → XM → Prop}
    (h : VI (D + 1) 275 [vR 11 (283)] m (fun x1 m1 => ((x1 = (n32 0) → Q (n32 0) m1) ∧ (¬ x1 = (n32 0) → VLI (D + 2) 279 3 [(0, vR 11 (283)), (1, vI (-(n32 1))), (2, vI (n32 1))] [] m1 Q E))) E) :
    VI (D + 2) 279 [vR 11 (283)] m Q E := by
  refine V_of (VL_at (al := [(0, vR 11 (283))]) (st := []) km279 k279_0 ?_)
  refine V_mono h (fun u1 m1 h1 => ?_) (fun _ _ h => h)
  refine And.intro (fun c2 => ?_) (fun c2 => ?_)
  · refine VL_norm km279 k279_1 (VL_at (al := []) (st := []) km279 k279_1 ?_)
    exact (h1.1 c2)
  · refine VL_norm km279 k279_2 (VL_at (al := [(0, vR 11 (283))]) (st := []) km279 k279_2 ?_)
    exact VL_norm km279 k279_3 (h1.2 c2)
/-- BannerParadeModel.widest, label 3 -/
theorem w279_3 {D : Nat} {v1 : Int32} {v2 : Int32} {m : XM} {Q : Int32 → XM → Prop} {E : Nat → XM → Prop}
    (h : (((m 284 (ix (n32 6))) ≤ v2 → Q v1 m) ∧ (¬ (m 284 (ix (n32 6))) ≤ v2 → ((v1 = (-(n32 1)) → VLI (D + 2) 279 3 [(0, vR 11 (283)), (1, vI v2), (2, vI (v2 + (n32 1)))] [] m Q E) ∧ (¬ v1 = (-(n32 1)) → (xin (((n32 15) + ((n32 7) * (v2 - (n32 1)))) + (n32 1)) 243 = true ∧ (xin (((n32 15) + ((n32 7) * v2)) + (n32 1)) 243 = true ∧ (xin (((n32 15) + ((n32 7) * (v1 - (n32 1)))) + (n32 1)) 243 = true ∧ (xin (((n32 15) + ((n32 7) * v1)) + (n32 1)) 243 = true ∧ ((((m 284 (ix (((n32 15) + ((n32 7) * (v2 - (n32 1)))) + (n32 1)))) - (m 284 (ix (((n32 15) + ((n32 7) * v2)) + (n32 1))))) ≤ ((m 284 (ix (((n32 15) + ((n32 7) * (v1 - (n32 1)))) + (n32 1)))) - (m 284 (ix (((n32 15) + ((n32 7) * v1)) + (n32 1))))) → VLI (D + 2) 279 3 [(0, vR 11 (283)), (1, vI v1), (2, vI (v2 + (n32 1)))] [] m Q E) ∧ (¬ ((m 284 (ix (((n32 15) + ((n32 7) * (v2 - (n32 1)))) + (n32 1)))) - (m 284 (ix (((n32 15) + ((n32 7) * v2)) + (n32 1))))) ≤ ((m 284 (ix (((n32 15) + ((n32 7) * (v1 - (n32 1)))) + (n32 1)))) - (m 284 (ix (((n32 15) + ((n32 7) * v1)) + (n32 1))))) → VLI (D + 2) 279 3 [(0, vR 11 (283)), (1, vI v2), (2, vI (v2 + (n32 1)))] [] m Q E))))))))))) :
    VLI (D + 2) 279 3 [(0, vR 11 (283)), (1, vI v1), (2, vI v2)] [] m Q E := by
  refine VL_at (al := [(0, vR 11 (283)), (1, vI v1), (2, vI v2)]) (st := []) km279 k279_3 ?_
  refine And.intro (xin_k rfl) ?_
  refine And.intro (fun c3 => ?_) (fun c3 => ?_)
  · refine VL_norm km279 k279_8 (VL_at (al := [(1, vI v1)]) (st := []) km279 k279_8 ?_)
    exact (h.1 c3)
  · refine VL_norm km279 k279_4 (VL_at (al := [(0, vR 11 (283)), (1, vI v1), (2, vI v2)]) (st := []) km279 k279_4 ?_)
    refine And.intro (fun c2 => ?_) (fun c2 => ?_)
    · refine VL_norm km279 k279_6 (VL_at (al := [(0, vR 11 (283)), (2, vI v2)]) (st := []) km279 k279_6 ?_)
      refine VL_norm km279 k279_7 (VL_at (al := [(0, vR 11 (283)), (1, vI v2), (2, vI v2)]) (st := []) km279 k279_7 ?_)
      exact VL_norm km279 k279_3 ((h.2 c3).1 c2)
    · refine VL_norm km279 k279_5 (VL_at (al := [(0, vR 11 (283)), (1, vI v1), (2, vI v2)]) (st := []) km279 k279_5 ?_)
      refine V_of ?_
      refine VL_norm km211 k211_0 (VL_at (al := [(0, vR 11 (283)), (1, vI v2)]) (st := []) km211 k211_0 ?_)
      refine V_of ?_
      refine VL_norm km202 k202_0 (VL_at (al := [(0, vR 11 (283)), (1, vI (v2 - (n32 1))), (2, vI (n32 1))]) (st := []) km202 k202_0 ?_)
      refine And.intro ((h.2 c3).2 c2).1 ?_
      refine V_of ?_
      refine VL_norm km202 k202_0 (VL_at (al := [(0, vR 11 (283)), (1, vI v2), (2, vI (n32 1))]) (st := []) km202 k202_0 ?_)
      refine And.intro ((h.2 c3).2 c2).2.1 ?_
      refine V_of ?_
      refine VL_norm km211 k211_0 (VL_at (al := [(0, vR 11 (283)), (1, vI v1)]) (st := []) km211 k211_0 ?_)
      refine V_of ?_
      refine VL_norm km202 k202_0 (VL_at (al := [(0, vR 11 (283)), (1, vI (v1 - (n32 1))), (2, vI (n32 1))]) (st := []) km202 k202_0 ?_)
      refine And.intro ((h.2 c3).2 c2).2.2.1 ?_
      refine V_of ?_
      refine VL_norm km202 k202_0 (VL_at (al := [(0, vR 11 (283)), (1, vI v1), (2, vI (n32 1))]) (st := []) km202 k202_0 ?_)
      refine And.intro ((h.2 c3).2 c2).2.2.2.1 ?_
      refine And.intro (fun c1 => ?_) (fun c1 => ?_)
      · refine VL_norm km279 k279_7 (VL_at (al := [(0, vR 11 (283)), (1, vI v1), (2, vI v2)]) (st := []) km279 k279_7 ?_)
        exact VL_norm km279 k279_3 (((h.2 c3).2 c2).2.2.2.2.1 c1)
      · refine VL_norm km279 k279_6 (VL_at (al := [(0, vR 11 (283)), (2, vI v2)]) (st := []) km279 k279_6 ?_)
        refine VL_norm km279 k279_7 (VL_at (al := [(0, vR 11 (283)), (1, vI v2), (2, vI v2)]) (st := []) km279 k279_7 ?_)
        exact VL_norm km279 k279_3 (((h.2 c3).2 c2).2.2.2.2.2 c1)
/-- BannerParadeModel.stretch, label 0 -/
theorem w280_0 {D : Nat}  {m : XM} {Q : Int32 → XM → Prop} {E : Nat → XM → Prop}
    (h : VI (D + 1) 275 [vR 11 (283)] m (fun x1 m1 => ((x1 = (n32 0) → Q (n32 0) m1) ∧ (¬ x1 = (n32 0) → (((n32 2) ≤ (m1 284 (ix (n32 6))) → (xin (((n32 15) + ((n32 7) * (n32 0))) + (n32 1)) 243 = true ∧ (xin (((n32 15) + ((n32 7) * ((m1 284 (ix (n32 6))) - (n32 1)))) + (n32 1)) 243 = true ∧ Q ((m1 284 (ix (((n32 15) + ((n32 7) * (n32 0))) + (n32 1)))) - (m1 284 (ix (((n32 15) + ((n32 7) * ((m1 284 (ix (n32 6))) - (n32 1)))) + (n32 1))))) m1))) ∧ (¬ (n32 2) ≤ (m1 284 (ix (n32 6))) → Q (n32 0) m1))))) E) :
    VI (D + 2) 280 [vR 11 (283)] m Q E := by
  refine V_of (VL_at (al := [(0, vR 11 (283))]) (st := []) km280 k280_0 ?_)
  refine V_mono h (fun u1 m1 h1 => ?_) (fun _ _ h => h)
  refine And.intro (fun c3 => ?_) (fun c3 => ?_)
  · refine VL_norm km280 k280_2 (VL_at (al := []) (st := []) km280 k280_2 ?_)
    exact (h1.1 c3)
  · refine VL_norm km280 k280_1 (VL_at (al := [(0, vR 11 (283))]) (st := []) km280 k280_1 ?_)
    refine And.intro (xin_k rfl) ?_
    refine And.intro (fun c2 => ?_) (fun c2 => ?_)
    · refine VL_norm km280 k280_3 (VL_at (al := [(0, vR 11 (283))]) (st := []) km280 k280_3 ?_)
      refine V_of ?_
      refine VL_norm km202 k202_0 (VL_at (al := [(0, vR 11 (283)), (1, vI (n32 0)), (2, vI (n32 1))]) (st := []) km202 k202_0 ?_)
      refine And.intro ((h1.2 c3).1 c2).1 ?_
      refine And.intro (xin_k rfl) ?_
      refine V_of ?_
      refine VL_norm km202 k202_0 (VL_at (al := [(0, vR 11 (283)), (1, vI ((m1 284 (ix (n32 6))) - (n32 1))), (2, vI (n32 1))]) (st := []) km202 k202_0 ?_)
      refine And.intro ((h1.2 c3).1 c2).2.1 ?_
      exact ((h1.2 c3).1 c2).2.2
    · refine VL_norm km280 k280_2 (VL_at (al := []) (st := []) km280 k280_2 ?_)
      exact ((h1.2 c3).2 c2)
/-- BannerParadeModel.meanNow, label 0 -/
theorem w281_0 {D : Nat}  {m : XM} {Q : UInt64 → XM → Prop} {E : Nat → XM → Prop}
    (h : VLD (D + 1) 281 1 [(0, vR 11 (283)), (1, vI (n32 0)), (2, vI (n32 0))] [] m Q E) :
    VD (D + 1) 281 [vR 11 (283)] m Q E := by
  refine V_of (VL_at (al := [(0, vR 11 (283))]) (st := []) km281 k281_0 ?_)
  exact VL_norm km281 k281_1 h
/-- BannerParadeModel.meanNow, label 1 -/
theorem w281_1 {D : Nat} {v1 : Int32} {v2 : Int32} {m : XM} {Q : UInt64 → XM → Prop} {E : Nat → XM → Prop}
    (h : (((m 284 (ix (n32 6))) ≤ v2 → (((m 284 (ix (n32 6))) = (n32 0) → Q FP.dconst0 m) ∧ (¬ (m 284 (ix (n32 6))) = (n32 0) → ((FP.ddiv ((FP.i2d v1)) ((FP.i2d (m 284 (ix (n32 6)))))) &&& 0x7fffffffffffffff ≤ 0x7ff0000000000000 ∧ Q (FP.ddiv ((FP.i2d v1)) ((FP.i2d (m 284 (ix (n32 6)))))) m)))) ∧ (¬ (m 284 (ix (n32 6))) ≤ v2 → (xin (((n32 15) + ((n32 7) * v2)) + (n32 4)) 243 = true ∧ VLD (D + 1) 281 1 [(0, vR 11 (283)), (1, vI (v1 + (m 284 (ix (((n32 15) + ((n32 7) * v2)) + (n32 4)))))), (2, vI (v2 + (n32 1)))] [] m Q E)))) :
    VLD (D + 1) 281 1 [(0, vR 11 (283)), (1, vI v1), (2, vI v2)] [] m Q E := by
  refine VL_at (al := [(0, vR 11 (283)), (1, vI v1), (2, vI v2)]) (st := []) km281 k281_1 ?_
  refine And.intro (xin_k rfl) ?_
  refine And.intro (fun c2 => ?_) (fun c2 => ?_)
  · refine VL_norm km281 k281_3 (VL_at (al := [(0, vR 11 (283)), (1, vI v1)]) (st := []) km281 k281_3 ?_)
    refine And.intro (xin_k rfl) ?_
    refine And.intro (fun c1 => ?_) (fun c1 => ?_)
    · refine VL_norm km281 k281_4 (VL_at (al := []) (st := []) km281 k281_4 ?_)
      refine VL_norm km281 k281_6 (VL_at (al := []) (st := [vD FP.dconst0]) km281 k281_6 ?_)
      exact ((h.1 c2).1 c1)
    · refine VL_norm km281 k281_5 (VL_at (al := [(0, vR 11 (283)), (1, vI v1)]) (st := []) km281 k281_5 ?_)
      refine And.intro (xin_k rfl) ?_
      refine And.intro ((h.1 c2).2 c1).1 ?_
      refine VL_norm km281 k281_6 (VL_at (al := []) (st := [vD (FP.ddiv ((FP.i2d v1)) ((FP.i2d (m 284 (ix (n32 6))))))]) km281 k281_6 ?_)
      exact ((h.1 c2).2 c1).2
  · refine VL_norm km281 k281_2 (VL_at (al := [(0, vR 11 (283)), (1, vI v1), (2, vI v2)]) (st := []) km281 k281_2 ?_)
    refine V_of ?_
    refine VL_norm km202 k202_0 (VL_at (al := [(0, vR 11 (283)), (1, vI v2), (2, vI (n32 4))]) (st := []) km202 k202_0 ?_)
    refine And.intro (h.2 c2).1 ?_
    exact VL_norm km281 k281_1 (h.2 c2).2
/-- BannerParadeModel.meanStrength, label 0 -/
theorem w282_0 {D : Nat}  {m : XM} {Q : UInt64 → XM → Prop} {E : Nat → XM → Prop}
    (h : VI (D + 1) 275 [vR 11 (283)] m (fun x1 m1 => ((x1 = (n32 0) → Q FP.dconst0 m1) ∧ (¬ x1 = (n32 0) → VD (D + 1) 281 [vR 11 (283)] m1 (fun x2 m2 => Q x2 m2) E))) E) :
    VD (D + 2) 282 [vR 11 (283)] m Q E := by
  refine V_of (VL_at (al := [(0, vR 11 (283))]) (st := []) km282 k282_0 ?_)
  refine V_mono h (fun u1 m1 h1 => ?_) (fun _ _ h => h)
  refine And.intro (fun c3 => ?_) (fun c3 => ?_)
  · refine VL_norm km282 k282_2 (VL_at (al := []) (st := []) km282 k282_2 ?_)
    refine VL_norm km282 k282_3 (VL_at (al := []) (st := [vD FP.dconst0]) km282 k282_3 ?_)
    exact (h1.1 c3)
  · refine VL_norm km282 k282_1 (VL_at (al := [(0, vR 11 (283))]) (st := []) km282 k282_1 ?_)
    refine V_mono (h1.2 c3) (fun u2 m2 h2 => ?_) (fun _ _ h => h)
    refine VL_norm km282 k282_3 (VL_at (al := []) (st := [vD (xtd u2)]) km282 k282_3 ?_)
    exact h2
/-- BannerParadeModel.strengthBits, label 0 -/
theorem w283_0 {D : Nat}  {m : XM} {Q : Int64 → XM → Prop} {E : Nat → XM → Prop}
    (h : VI (D + 1) 275 [vR 11 (283)] m (fun x1 m1 => ((x1 = (n32 0) → Q (Int64.ofNat 0) m1) ∧ (¬ x1 = (n32 0) → VD (D + 1) 281 [vR 11 (283)] m1 (fun x2 m2 => (((Op.cmpValue (FP.dcmp x2 x2) .l) = (n32 0) → Q (x2).toInt64 m2) ∧ (¬ (Op.cmpValue (FP.dcmp x2 x2) .l) = (n32 0) → Q (Int64.ofInt 9221120237041090560) m2))) E))) E) :
    VJ (D + 2) 283 [vR 11 (283)] m Q E := by
  refine V_of (VL_at (al := [(0, vR 11 (283))]) (st := []) km283 k283_0 ?_)
  refine V_mono h (fun u1 m1 h1 => ?_) (fun _ _ h => h)
  refine And.intro (fun c4 => ?_) (fun c4 => ?_)
  · refine VL_norm km283 k283_2 (VL_at (al := []) (st := []) km283 k283_2 ?_)
    refine VL_norm km283 k283_3 (VL_at (al := []) (st := [vJ (Int64.ofNat 0)]) km283 k283_3 ?_)
    exact (h1.1 c4)
  · refine VL_norm km283 k283_1 (VL_at (al := [(0, vR 11 (283))]) (st := []) km283 k283_1 ?_)
    refine V_mono (h1.2 c4) (fun u2 m2 h2 => ?_) (fun _ _ h => h)
    refine V_of ?_
    refine VL_norm km390 k390_0 (VL_at (al := [(0, vD (xtd u2))]) (st := []) km390 k390_0 ?_)
    refine V_of ?_
    refine VL_norm km389 k389_0 (VL_at (al := [(0, vD (xtd u2))]) (st := []) km389 k389_0 ?_)
    refine And.intro (fun c3 => ?_) (fun c3 => ?_)
    · refine VL_norm km389 k389_2 (VL_at (al := []) (st := []) km389 k389_2 ?_)
      refine VL_norm km389 k389_3 (VL_at (al := []) (st := [vI (n32 0)]) km389 k389_3 ?_)
      refine And.intro xrt20 ?_
      refine And.intro (fun _ => ?_) (fun c => absurd (by decide) c)
      refine VL_norm km390 k390_1 (VL_at (al := [(0, vD (xtd u2))]) (st := []) km390 k390_1 ?_)
      refine VL_norm km283 k283_3 (VL_at (al := []) (st := [vJ ((xtd u2)).toInt64]) km283 k283_3 ?_)
      exact (h2.1 c3)
    · refine VL_norm km389 k389_1 (VL_at (al := []) (st := []) km389 k389_1 ?_)
      refine VL_norm km389 k389_3 (VL_at (al := []) (st := [vI (n32 1)]) km389 k389_3 ?_)
      refine And.intro xrt21 ?_
      refine And.intro (fun c => absurd c (by decide)) (fun _ => ?_)
      refine VL_norm km390 k390_2 (VL_at (al := []) (st := []) km390 k390_2 ?_)
      refine VL_norm km283 k283_3 (VL_at (al := []) (st := [vJ (Int64.ofInt 9221120237041090560)]) km283 k283_3 ?_)
      exact (h2.2 c3)
/-- BannerParadeModel.thinks, label 0 -/
theorem w284_0 {D : Nat}  {m : XM} {Q : XM → Prop} {E : Nat → XM → Prop}
    (h : VU D 178 [vR 200243 (284), vI (n32 0), vR 200243 (285), vI (n32 0)] m (fun m1 => Q m1) E) :
    VU (D + 1) 284 [vR 11 (283)] m Q E := by
  refine V_of (VL_at (al := [(0, vR 11 (283))]) (st := []) km284 k284_0 ?_)
  refine V_mono h (fun u1 m1 h1 => ?_) (fun _ _ h => h)
  exact h1
/-- BannerParadeModel.back, label 0 -/
theorem w285_0 {D : Nat} {v1 : Int32} {m : XM} {Q : Int32 → XM → Prop} {E : Nat → XM → Prop}
    (h : VU D 178 [vR 200243 (285), vI (n32 0), vR 200243 (284), vI (n32 0)] m (fun m1 => Q v1 m1) E) :
    VI (D + 1) 285 [vR 11 (283), vI v1] m Q E := by
  refine V_of (VL_at (al := [(0, vR 11 (283)), (1, vI v1)]) (st := []) km285 k285_0 ?_)
  refine V_mono h (fun u1 m1 h1 => ?_) (fun _ _ h => h)
  exact h1
/-- BannerParadeModel.backFloat, label 0 -/
theorem w286_0 {D : Nat} {v1 : UInt32} {m : XM} {Q : UInt32 → XM → Prop} {E : Nat → XM → Prop}
    (h : VU D 178 [vR 200243 (285), vI (n32 0), vR 200243 (284), vI (n32 0)] m (fun m1 => Q v1 m1) E) :
    VF (D + 1) 286 [vR 11 (283), vF v1] m Q E := by
  refine V_of (VL_at (al := [(0, vR 11 (283)), (1, vF v1)]) (st := []) km286 k286_0 ?_)
  refine V_mono h (fun u1 m1 h1 => ?_) (fun _ _ h => h)
  exact h1
/-- BannerParadeModel.readsIn, label 0 -/
theorem w287_0 {D : Nat} {v1 : Int32} {m : XM} {Q : Int32 → XM → Prop} {E : Nat → XM → Prop}
    (h : VI (D + 5) 242 [vR 11 (283), vI v1] m (fun x1 m1 => ((x1 = (n32 0) → Q (n32 0) m1) ∧ (¬ x1 = (n32 0) → VU (D + 5) 284 [vR 11 (283)] m1 (fun m2 => VLI (D + 6) 287 3 [(0, vR 11 (283)), (1, vI v1), (2, vI (n32 0))] [] m2 Q E) E))) E) :
    VI (D + 6) 287 [vR 11 (283), vI v1] m Q E := by
  refine V_of (VL_at (al := [(0, vR 11 (283)), (1, vI v1)]) (st := []) km287 k287_0 ?_)
  refine V_mono h (fun u1 m1 h1 => ?_) (fun _ _ h => h)
  refine And.intro (fun c3 => ?_) (fun c3 => ?_)
  · refine VL_norm km287 k287_1 (VL_at (al := []) (st := []) km287 k287_1 ?_)
    exact (h1.1 c3)
  · refine VL_norm km287 k287_2 (VL_at (al := [(0, vR 11 (283)), (1, vI v1)]) (st := []) km287 k287_2 ?_)
    refine V_mono (h1.2 c3) (fun u2 m2 h2 => ?_) (fun _ _ h => h)
    exact VL_norm km287 k287_3 h2
/-- BannerParadeModel.readsIn, label 3 -/
theorem w287_3 {D : Nat} {v1 : Int32} {v2 : Int32} {m : XM} {Q : Int32 → XM → Prop} {E : Nat → XM → Prop}
    (h : (((n32 300) < v2 → VI (D + 5) 285 [vR 11 (283), vI (-(n32 1))] m (fun x1 m1 => Q x1 m1) E) ∧ (¬ (n32 300) < v2 → VI (D + 5) 223 [vR 11 (283), vI v1] m (fun x2 m2 => ((x2 = (n32 0) → VU (D + 5) 228 [vR 11 (283)] m2 (fun m3 => VLI (D + 6) 287 3 [(0, vR 11 (283)), (1, vI v1), (2, vI (v2 + (n32 1)))] [] m3 Q E) E) ∧ (¬ x2 = (n32 0) → VI (D + 5) 285 [vR 11 (283), vI v2] m2 (fun x4 m4 => Q x4 m4) E))) E))) :
    VLI (D + 6) 287 3 [(0, vR 11 (283)), (1, vI v1), (2, vI v2)] [] m Q E := by
  refine VL_at (al := [(0, vR 11 (283)), (1, vI v1), (2, vI v2)]) (st := []) km287 k287_3 ?_
  refine And.intro (fun c6 => ?_) (fun c6 => ?_)
  · refine VL_norm km287 k287_7 (VL_at (al := [(0, vR 11 (283))]) (st := []) km287 k287_7 ?_)
    refine V_mono (h.1 c6) (fun u1 m1 h1 => ?_) (fun _ _ h => h)
    exact h1
  · refine VL_norm km287 k287_4 (VL_at (al := [(0, vR 11 (283)), (1, vI v1), (2, vI v2)]) (st := []) km287 k287_4 ?_)
    refine V_mono (h.2 c6) (fun u2 m2 h2 => ?_) (fun _ _ h => h)
    refine And.intro (fun c5 => ?_) (fun c5 => ?_)
    · refine VL_norm km287 k287_6 (VL_at (al := [(0, vR 11 (283)), (1, vI v1), (2, vI v2)]) (st := []) km287 k287_6 ?_)
      refine V_mono (h2.1 c5) (fun u3 m3 h3 => ?_) (fun _ _ h => h)
      exact VL_norm km287 k287_3 h3
    · refine VL_norm km287 k287_5 (VL_at (al := [(0, vR 11 (283)), (2, vI v2)]) (st := []) km287 k287_5 ?_)
      refine V_mono (h2.2 c5) (fun u4 m4 h4 => ?_) (fun _ _ h => h)
      exact h4
/-- BannerParadeModel.havePassed, label 0 -/
theorem w288_0 {D : Nat} {v1 : Int32} {m : XM} {Q : Int32 → XM → Prop} {E : Nat → XM → Prop}
    (h : VLI (D + 1) 288 1 [(0, vR 11 (283)), (1, vI v1), (2, vI (n32 1)), (3, vI (n32 0))] [] m Q E) :
    VI (D + 1) 288 [vR 11 (283), vI v1] m Q E := by
  refine V_of (VL_at (al := [(0, vR 11 (283)), (1, vI v1)]) (st := []) km288 k288_0 ?_)
  exact VL_norm km288 k288_1 h
/-- BannerParadeModel.havePassed, label 1 -/
theorem w288_1 {D : Nat} {v1 : Int32} {v2 : Int32} {v3 : Int32} {m : XM} {Q : Int32 → XM → Prop} {E : Nat → XM → Prop}
    (h : (((m 284 (ix (n32 6))) ≤ v3 → (xrt 2 v2 = true ∧ Q v2 m)) ∧ (¬ (m 284 (ix (n32 6))) ≤ v3 → (xin (((n32 15) + ((n32 7) * v3)) + (n32 1)) 243 = true ∧ (xin (((n32 99) + ((n32 12) * v1)) + (n32 1)) 243 = true ∧ (((m 284 (ix (((n32 15) + ((n32 7) * v3)) + (n32 1)))) ≤ ((m 284 (ix (((n32 99) + ((n32 12) * v1)) + (n32 1)))) + (m 284 (ix (n32 1)))) → VLI (D + 1) 288 1 [(0, vR 11 (283)), (1, vI v1), (2, vI (v2 &&& (n32 0))), (3, vI (v3 + (n32 1)))] [] m Q E) ∧ (¬ (m 284 (ix (((n32 15) + ((n32 7) * v3)) + (n32 1)))) ≤ ((m 284 (ix (((n32 99) + ((n32 12) * v1)) + (n32 1)))) + (m 284 (ix (n32 1)))) → VLI (D + 1) 288 1 [(0, vR 11 (283)), (1, vI v1), (2, vI (v2 &&& (n32 1))), (3, vI (v3 + (n32 1)))] [] m Q E))))))) :
    VLI (D + 1) 288 1 [(0, vR 11 (283)), (1, vI v1), (2, vI v2), (3, vI v3)] [] m Q E := by
  refine VL_at (al := [(0, vR 11 (283)), (1, vI v1), (2, vI v2), (3, vI v3)]) (st := []) km288 k288_1 ?_
  refine And.intro (xin_k rfl) ?_
  refine And.intro (fun c2 => ?_) (fun c2 => ?_)
  · refine VL_norm km288 k288_6 (VL_at (al := [(2, vI v2)]) (st := []) km288 k288_6 ?_)
    refine And.intro (h.1 c2).1 ?_
    exact (h.1 c2).2
  · refine VL_norm km288 k288_2 (VL_at (al := [(0, vR 11 (283)), (1, vI v1), (2, vI v2), (3, vI v3)]) (st := []) km288 k288_2 ?_)
    refine V_of ?_
    refine VL_norm km202 k202_0 (VL_at (al := [(0, vR 11 (283)), (1, vI v3), (2, vI (n32 1))]) (st := []) km202 k202_0 ?_)
    refine And.intro (h.2 c2).1 ?_
    refine V_of ?_
    refine VL_norm km204 k204_0 (VL_at (al := [(0, vR 11 (283)), (1, vI v1), (2, vI (n32 1))]) (st := []) km204 k204_0 ?_)
    refine And.intro (h.2 c2).2.1 ?_
    refine And.intro (xin_k rfl) ?_
    refine And.intro (fun c1 => ?_) (fun c1 => ?_)
    · refine VL_norm km288 k288_4 (VL_at (al := [(0, vR 11 (283)), (1, vI v1), (3, vI v3)]) (st := [vI v2]) km288 k288_4 ?_)
      refine VL_norm km288 k288_5 (VL_at (al := [(0, vR 11 (283)), (1, vI v1), (3, vI v3)]) (st := [vI (n32 0), vI v2]) km288 k288_5 ?_)
      exact VL_norm km288 k288_1 ((h.2 c2).2.2.1 c1)
    · refine VL_norm km288 k288_3 (VL_at (al := [(0, vR 11 (283)), (1, vI v1), (3, vI v3)]) (st := [vI v2]) km288 k288_3 ?_)
      refine VL_norm km288 k288_5 (VL_at (al := [(0, vR 11 (283)), (1, vI v1), (3, vI v3)]) (st := [vI (n32 1), vI v2]) km288 k288_5 ?_)
      exact VL_norm km288 k288_1 ((h.2 c2).2.2.2 c1)
/-- BannerParadeModel.passedIn, label 0 -/
theorem w289_0 {D : Nat} {v1 : Int32} {m : XM} {Q : Int32 → XM → Prop} {E : Nat → XM → Prop}
    (h : VI (D + 5) 242 [vR 11 (283), vI v1] m (fun x1 m1 => ((x1 = (n32 0) → Q (n32 0) m1) ∧ (¬ x1 = (n32 0) → VU (D + 5) 284 [vR 11 (283)] m1 (fun m2 => VLI (D + 6) 289 3 [(0, vR 11 (283)), (1, vI v1), (2, vI (n32 0))] [] m2 Q E) E))) E) :
    VI (D + 6) 289 [vR 11 (283), vI v1] m Q E := by
  refine V_of (VL_at (al := [(0, vR 11 (283)), (1, vI v1)]) (st := []) km289 k289_0 ?_)
  refine V_mono h (fun u1 m1 h1 => ?_) (fun _ _ h => h)
  refine And.intro (fun c3 => ?_) (fun c3 => ?_)
  · refine VL_norm km289 k289_1 (VL_at (al := []) (st := []) km289 k289_1 ?_)
    exact (h1.1 c3)
  · refine VL_norm km289 k289_2 (VL_at (al := [(0, vR 11 (283)), (1, vI v1)]) (st := []) km289 k289_2 ?_)
    refine V_mono (h1.2 c3) (fun u2 m2 h2 => ?_) (fun _ _ h => h)
    exact VL_norm km289 k289_3 h2
/-- BannerParadeModel.passedIn, label 3 -/
theorem w289_3 {D : Nat} {v1 : Int32} {v2 : Int32} {m : XM} {Q : Int32 → XM → Prop} {E : Nat → XM → Prop}
    (h : (((n32 300) < v2 → VI (D + 5) 285 [vR 11 (283), vI (-(n32 1))] m (fun x1 m1 => Q x1 m1) E) ∧ (¬ (n32 300) < v2 → VI (D + 5) 288 [vR 11 (283), vI v1] m (fun x2 m2 => ((x2 = (n32 0) → VU (D + 5) 228 [vR 11 (283)] m2 (fun m3 => VLI (D + 6) 289 3 [(0, vR 11 (283)), (1, vI v1), (2, vI (v2 + (n32 1)))] [] m3 Q E) E) ∧ (¬ x2 = (n32 0) → VI (D + 5) 285 [vR 11 (283), vI v2] m2 (fun x4 m4 => Q x4 m4) E))) E))) :
    VLI (D + 6) 289 3 [(0, vR 11 (283)), (1, vI v1), (2, vI v2)] [] m Q E := by
  refine VL_at (al := [(0, vR 11 (283)), (1, vI v1), (2, vI v2)]) (st := []) km289 k289_3 ?_
  refine And.intro (fun c6 => ?_) (fun c6 => ?_)
  · refine VL_norm km289 k289_7 (VL_at (al := [(0, vR 11 (283))]) (st := []) km289 k289_7 ?_)
    refine V_mono (h.1 c6) (fun u1 m1 h1 => ?_) (fun _ _ h => h)
    exact h1
  · refine VL_norm km289 k289_4 (VL_at (al := [(0, vR 11 (283)), (1, vI v1), (2, vI v2)]) (st := []) km289 k289_4 ?_)
    refine V_mono (h.2 c6) (fun u2 m2 h2 => ?_) (fun _ _ h => h)
    refine And.intro (fun c5 => ?_) (fun c5 => ?_)
    · refine VL_norm km289 k289_6 (VL_at (al := [(0, vR 11 (283)), (1, vI v1), (2, vI v2)]) (st := []) km289 k289_6 ?_)
      refine V_mono (h2.1 c5) (fun u3 m3 h3 => ?_) (fun _ _ h => h)
      exact VL_norm km289 k289_3 h3
    · refine VL_norm km289 k289_5 (VL_at (al := [(0, vR 11 (283)), (2, vI v2)]) (st := []) km289 k289_5 ?_)
      refine V_mono (h2.2 c5) (fun u4 m4 h4 => ?_) (fun _ _ h => h)
      exact h4
/-- BannerParadeModel.partIn, label 0 -/
theorem w291_0 {D : Nat} {v1 : Int32} {v2 : Int32} {v3 : Int32} {m : XM} {Q : Int32 → XM → Prop} {E : Nat → XM → Prop}
    (h : ((v2 < (n32 0) → VI (D + 6) 243 [vR 11 (283), vI v1, vI (n32 0)] m (fun x1 m1 => ((x1 = (n32 0) → Q (n32 0) m1) ∧ (¬ x1 = (n32 0) → VU (D + 6) 284 [vR 11 (283)] m1 (fun m2 => VU (D + 6) 229 [vR 11 (283), vI v2] m2 (fun m3 => (xin (((n32 15) + ((n32 7) * v1)) + v3) 243 = true ∧ VI (D + 6) 285 [vR 11 (283), vI (m3 284 (ix (((n32 15) + ((n32 7) * v1)) + v3)))] m3 (fun x4 m4 => Q x4 m4) E)) E) E))) E) ∧ (¬ v2 < (n32 0) → (((n32 300) < v2 → VI (D + 6) 243 [vR 11 (283), vI v1, vI (n32 0)] m (fun x6 m6 => ((x6 = (n32 0) → Q (n32 0) m6) ∧ (¬ x6 = (n32 0) → VU (D + 6) 284 [vR 11 (283)] m6 (fun m7 => VU (D + 6) 229 [vR 11 (283), vI v2] m7 (fun m8 => (xin (((n32 15) + ((n32 7) * v1)) + v3) 243 = true ∧ VI (D + 6) 285 [vR 11 (283), vI (m8 284 (ix (((n32 15) + ((n32 7) * v1)) + v3)))] m8 (fun x9 m9 => Q x9 m9) E)) E) E))) E) ∧ (¬ (n32 300) < v2 → VI (D + 6) 243 [vR 11 (283), vI v1, vI (n32 1)] m (fun x11 m11 => ((x11 = (n32 0) → Q (n32 0) m11) ∧ (¬ x11 = (n32 0) → VU (D + 6) 284 [vR 11 (283)] m11 (fun m12 => VU (D + 6) 229 [vR 11 (283), vI v2] m12 (fun m13 => (xin (((n32 15) + ((n32 7) * v1)) + v3) 243 = true ∧ VI (D + 6) 285 [vR 11 (283), vI (m13 284 (ix (((n32 15) + ((n32 7) * v1)) + v3)))] m13 (fun x14 m14 => Q x14 m14) E)) E) E))) E))))) :
    VI (D + 7) 291 [vR 11 (283), vI v1, vI v2, vI v3] m Q E := by
  refine V_of (VL_at (al := [(0, vR 11 (283)), (1, vI v1), (2, vI v2), (3, vI v3)]) (st := []) km291 k291_0 ?_)
  refine V_of ?_
  refine VL_norm km290 k290_0 (VL_at (al := [(0, vI v2)]) (st := []) km290 k290_0 ?_)
  refine V_of ?_
  refine VL_norm km175 k175_0 (VL_at (al := [(0, vI v2), (1, vI (n32 0)), (2, vI (n32 300))]) (st := []) km175 k175_0 ?_)
  refine And.intro (fun c17 => ?_) (fun c17 => ?_)
  · refine VL_norm km175 k175_3 (VL_at (al := []) (st := []) km175 k175_3 ?_)
    refine VL_norm km175 k175_4 (VL_at (al := []) (st := [vI (n32 0)]) km175 k175_4 ?_)
    refine And.intro xrt20 ?_
    refine And.intro xrt20 ?_
    refine V_mono (h.1 c17) (fun u1 m1 h1 => ?_) (fun _ _ h => h)
    refine And.intro (fun c5 => ?_) (fun c5 => ?_)
    · refine VL_norm km291 k291_1 (VL_at (al := []) (st := []) km291 k291_1 ?_)
      exact (h1.1 c5)
    · refine VL_norm km291 k291_2 (VL_at (al := [(0, vR 11 (283)), (1, vI v1), (2, vI v2), (3, vI v3)]) (st := []) km291 k291_2 ?_)
      refine V_mono (h1.2 c5) (fun u2 m2 h2 => ?_) (fun _ _ h => h)
      refine V_mono h2 (fun u3 m3 h3 => ?_) (fun _ _ h => h)
      refine V_of ?_
      refine VL_norm km202 k202_0 (VL_at (al := [(0, vR 11 (283)), (1, vI v1), (2, vI v3)]) (st := []) km202 k202_0 ?_)
      refine And.intro h3.1 ?_
      refine V_mono h3.2 (fun u4 m4 h4 => ?_) (fun _ _ h => h)
      exact h4
  · refine VL_norm km175 k175_1 (VL_at (al := [(0, vI v2), (2, vI (n32 300))]) (st := []) km175 k175_1 ?_)
    refine And.intro (fun c16 => ?_) (fun c16 => ?_)
    · refine VL_norm km175 k175_3 (VL_at (al := []) (st := []) km175 k175_3 ?_)
      refine VL_norm km175 k175_4 (VL_at (al := []) (st := [vI (n32 0)]) km175 k175_4 ?_)
      refine And.intro xrt20 ?_
      refine And.intro xrt20 ?_
      refine V_mono ((h.2 c17).1 c16) (fun u6 m6 h6 => ?_) (fun _ _ h => h)
      refine And.intro (fun c10 => ?_) (fun c10 => ?_)
      · refine VL_norm km291 k291_1 (VL_at (al := []) (st := []) km291 k291_1 ?_)
        exact (h6.1 c10)
      · refine VL_norm km291 k291_2 (VL_at (al := [(0, vR 11 (283)), (1, vI v1), (2, vI v2), (3, vI v3)]) (st := []) km291 k291_2 ?_)
        refine V_mono (h6.2 c10) (fun u7 m7 h7 => ?_) (fun _ _ h => h)
        refine V_mono h7 (fun u8 m8 h8 => ?_) (fun _ _ h => h)
        refine V_of ?_
        refine VL_norm km202 k202_0 (VL_at (al := [(0, vR 11 (283)), (1, vI v1), (2, vI v3)]) (st := []) km202 k202_0 ?_)
        refine And.intro h8.1 ?_
        refine V_mono h8.2 (fun u9 m9 h9 => ?_) (fun _ _ h => h)
        exact h9
    · refine VL_norm km175 k175_2 (VL_at (al := []) (st := []) km175 k175_2 ?_)
      refine VL_norm km175 k175_4 (VL_at (al := []) (st := [vI (n32 1)]) km175 k175_4 ?_)
      refine And.intro xrt21 ?_
      refine And.intro xrt21 ?_
      refine V_mono ((h.2 c17).2 c16) (fun u11 m11 h11 => ?_) (fun _ _ h => h)
      refine And.intro (fun c15 => ?_) (fun c15 => ?_)
      · refine VL_norm km291 k291_1 (VL_at (al := []) (st := []) km291 k291_1 ?_)
        exact (h11.1 c15)
      · refine VL_norm km291 k291_2 (VL_at (al := [(0, vR 11 (283)), (1, vI v1), (2, vI v2), (3, vI v3)]) (st := []) km291 k291_2 ?_)
        refine V_mono (h11.2 c15) (fun u12 m12 h12 => ?_) (fun _ _ h => h)
        refine V_mono h12 (fun u13 m13 h13 => ?_) (fun _ _ h => h)
        refine V_of ?_
        refine VL_norm km202 k202_0 (VL_at (al := [(0, vR 11 (283)), (1, vI v1), (2, vI v3)]) (st := []) km202 k202_0 ?_)
        refine And.intro h13.1 ?_
        refine V_mono h13.2 (fun u14 m14 h14 => ?_) (fun _ _ h => h)
        exact h14
