/-! Verification conditions (written by program: wip/whole/mkw.py). -/
/-- BannerParadeModel.readsBearer, label 0 -/
theorem w196_0 {D : Nat}  {m : XM} {Q : XM → Prop} {E : Nat → XM → Prop}
    (h : VI (D + 3) 194 [vR 11 (283), vI (n32 6), vI (n32 12)] m (fun x1 m1 => ((x1 = (n32 0) → Q m1) ∧ (¬ x1 = (n32 0) → VI (D + 3) 195 [vR 11 (283)] m1 (fun x2 m2 => (xin (((n32 15) + ((n32 7) * (m1 284 (ix (n32 6))))) + (n32 6)) 243 = true ∧ (xin (((n32 15) + ((n32 7) * (m1 284 (ix (n32 6))))) + (n32 0)) 243 = true ∧ VI (D + 3) 191 [vR 11 (283), vI (n32 1), vI (n32 200)] (um (um m2 (284) (ix (((n32 15) + ((n32 7) * (m1 284 (ix (n32 6))))) + (n32 6))) x2) (284) (ix (((n32 15) + ((n32 7) * (m1 284 (ix (n32 6))))) + (n32 0))) x2) (fun x3 m3 => (xin (((n32 15) + ((n32 7) * (m1 284 (ix (n32 6))))) + (n32 2)) 243 = true ∧ VI (D + 3) 191 [vR 11 (283), vI (n32 0), vI (n32 20)] (um m3 (284) (ix (((n32 15) + ((n32 7) * (m1 284 (ix (n32 6))))) + (n32 2))) x3) (fun x4 m4 => (xin (((n32 15) + ((n32 7) * (m1 284 (ix (n32 6))))) + (n32 3)) 243 = true ∧ (xin (((n32 15) + ((n32 7) * (m1 284 (ix (n32 6))))) + (n32 4)) 243 = true ∧ (∀ μ5 : XM, μ5 = um (um m4 (284) (ix (((n32 15) + ((n32 7) * (m1 284 (ix (n32 6))))) + (n32 3))) x4) (284) (ix (((n32 15) + ((n32 7) * (m1 284 (ix (n32 6))))) + (n32 4))) (n32 100) → (xin (((n32 15) + ((n32 7) * (m1 284 (ix (n32 6))))) + (n32 1)) 243 = true ∧ (∀ μ6 : XM, μ6 = um (um μ5 (284) (ix (((n32 15) + ((n32 7) * (m1 284 (ix (n32 6))))) + (n32 1))) (((-(μ5 284 (ix (n32 0))))) * (m1 284 (ix (n32 6))))) (284) (ix (n32 6)) (((um μ5 (284) (ix (((n32 15) + ((n32 7) * (m1 284 (ix (n32 6))))) + (n32 1))) (((-(μ5 284 (ix (n32 0))))) * (m1 284 (ix (n32 6))))) 284 (ix (n32 6))) + (n32 1)) → Q μ6)))))) E)) E))) E))) E) :
    VU (D + 4) 196 [vR 11 (283)] m Q E := by
  refine V_of (VL_at (al := [(0, vR 11 (283))]) (st := []) km196 k196_0 ?_)
  refine V_mono h (fun u1 m1 h1 => ?_) (fun _ _ h => h)
  refine And.intro (fun c7 => ?_) (fun c7 => ?_)
  · refine VL_norm km196 k196_1 (VL_at (al := []) (st := []) km196 k196_1 ?_)
    exact (h1.1 c7)
  · refine VL_norm km196 k196_2 (VL_at (al := [(0, vR 11 (283))]) (st := []) km196 k196_2 ?_)
    refine And.intro (xin_k rfl) ?_
    refine V_mono (h1.2 c7) (fun u2 m2 h2 => ?_) (fun _ _ h => h)
    refine V_of ?_
    refine VL_norm km203 k203_0 (VL_at (al := [(0, vR 11 (283)), (1, vI (m1 284 (ix (n32 6)))), (2, vI (n32 6)), (3, vI (xti u2))]) (st := []) km203 k203_0 ?_)
    refine And.intro h2.1 ?_
    refine V_of ?_
    refine VL_norm km203 k203_0 (VL_at (al := [(0, vR 11 (283)), (1, vI (m1 284 (ix (n32 6)))), (2, vI (n32 0)), (3, vI (xti u2))]) (st := []) km203 k203_0 ?_)
    refine And.intro h2.2.1 ?_
    refine V_mono h2.2.2 (fun u3 m3 h3 => ?_) (fun _ _ h => h)
    refine V_of ?_
    refine VL_norm km203 k203_0 (VL_at (al := [(0, vR 11 (283)), (1, vI (m1 284 (ix (n32 6)))), (2, vI (n32 2)), (3, vI (xti u3))]) (st := []) km203 k203_0 ?_)
    refine And.intro h3.1 ?_
    refine V_mono h3.2 (fun u4 m4 h4 => ?_) (fun _ _ h => h)
    refine V_of ?_
    refine VL_norm km203 k203_0 (VL_at (al := [(0, vR 11 (283)), (1, vI (m1 284 (ix (n32 6)))), (2, vI (n32 3)), (3, vI (xti u4))]) (st := []) km203 k203_0 ?_)
    refine And.intro h4.1 ?_
    refine V_of ?_
    refine VL_norm km203 k203_0 (VL_at (al := [(0, vR 11 (283)), (1, vI (m1 284 (ix (n32 6)))), (2, vI (n32 4)), (3, vI (n32 100))]) (st := []) km203 k203_0 ?_)
    refine And.intro h4.2.1 ?_
    refine And.intro (xin_k rfl) ?_
    refine V_of ?_
    refine VL_norm km203 k203_0 (VL_at (al := [(0, vR 11 (283)), (1, vI (m1 284 (ix (n32 6)))), (2, vI (n32 1)), (3, vI (((-((um (um m4 (284) (ix (((n32 15) + ((n32 7) * (m1 284 (ix (n32 6))))) + (n32 3))) (xti u4)) (284) (ix (((n32 15) + ((n32 7) * (m1 284 (ix (n32 6))))) + (n32 4))) (n32 100)) 284 (ix (n32 0))))) * (m1 284 (ix (n32 6)))))]) (st := []) km203 k203_0 ?_)
    refine And.intro (h4.2.2 (um (um m4 (284) (ix (((n32 15) + ((n32 7) * (m1 284 (ix (n32 6))))) + (n32 3))) (xti u4)) (284) (ix (((n32 15) + ((n32 7) * (m1 284 (ix (n32 6))))) + (n32 4))) (n32 100)) rfl).1 ?_
    refine And.intro (xin_k rfl) ?_
    refine And.intro (xin_k rfl) ?_
    exact ((h4.2.2 (um (um m4 (284) (ix (((n32 15) + ((n32 7) * (m1 284 (ix (n32 6))))) + (n32 3))) (xti u4)) (284) (ix (((n32 15) + ((n32 7) * (m1 284 (ix (n32 6))))) + (n32 4))) (n32 100)) rfl).2 (um (um (um (um m4 (284) (ix (((n32 15) + ((n32 7) * (m1 284 (ix (n32 6))))) + (n32 3))) (xti u4)) (284) (ix (((n32 15) + ((n32 7) * (m1 284 (ix (n32 6))))) + (n32 4))) (n32 100)) (284) (ix (((n32 15) + ((n32 7) * (m1 284 (ix (n32 6))))) + (n32 1))) (((-((um (um m4 (284) (ix (((n32 15) + ((n32 7) * (m1 284 (ix (n32 6))))) + (n32 3))) (xti u4)) (284) (ix (((n32 15) + ((n32 7) * (m1 284 (ix (n32 6))))) + (n32 4))) (n32 100)) 284 (ix (n32 0))))) * (m1 284 (ix (n32 6))))) (284) (ix (n32 6)) (((um (um (um m4 (284) (ix (((n32 15) + ((n32 7) * (m1 284 (ix (n32 6))))) + (n32 3))) (xti u4)) (284) (ix (((n32 15) + ((n32 7) * (m1 284 (ix (n32 6))))) + (n32 4))) (n32 100)) (284) (ix (((n32 15) + ((n32 7) * (m1 284 (ix (n32 6))))) + (n32 1))) (((-((um (um m4 (284) (ix (((n32 15) + ((n32 7) * (m1 284 (ix (n32 6))))) + (n32 3))) (xti u4)) (284) (ix (((n32 15) + ((n32 7) * (m1 284 (ix (n32 6))))) + (n32 4))) (n32 100)) 284 (ix (n32 0))))) * (m1 284 (ix (n32 6))))) 284 (ix (n32 6))) + (n32 1))) rfl)
/-- BannerParadeModel.readsStand, label 0 -/
theorem w197_0 {D : Nat}  {m : XM} {Q : XM → Prop} {E : Nat → XM → Prop}
    (h : VI (D + 4) 194 [vR 11 (283), vI (n32 7), vI (n32 6)] m (fun x1 m1 => ((x1 = (n32 0) → Q m1) ∧ (¬ x1 = (n32 0) → VI (D + 4) 189 [vR 11 (283), vR 30 (1000025)] m1 (fun x2 m2 => ((x2 = (n32 0) → VI (D + 4) 189 [vR 11 (283), vR 30 (1000026)] m2 (fun x3 m3 => ((x3 = (n32 0) → VU (D + 4) 187 [vR 11 (283), vI (n32 1)] m3 (fun m4 => VU (D + 4) 186 [vR 11 (283)] m4 (fun m5 => (xin (((n32 99) + ((n32 12) * (m1 284 (ix (n32 7))))) + (n32 0)) 243 = true ∧ VI (D + 4) 191 [vR 11 (283), vI (n32 0), vI (n32 9999)] (um m5 (284) (ix (((n32 99) + ((n32 12) * (m1 284 (ix (n32 7))))) + (n32 0))) (n32 0)) (fun x6 m6 => (xin (((n32 99) + ((n32 12) * (m1 284 (ix (n32 7))))) + (n32 1)) 243 = true ∧ (xin (((n32 99) + ((n32 12) * (m1 284 (ix (n32 7))))) + (n32 3)) 243 = true ∧ (∀ μ7 : XM, μ7 = um (um m6 (284) (ix (((n32 99) + ((n32 12) * (m1 284 (ix (n32 7))))) + (n32 1))) x6) (284) (ix (((n32 99) + ((n32 12) * (m1 284 (ix (n32 7))))) + (n32 3))) (-(n32 1)) → (((μ7 283 10) = (n32 0) → (((μ7 283 15) = (n32 2) → (((μ7 283 10) ≤ (n32 0) → (xin (((n32 99) + ((n32 12) * (m1 284 (ix (n32 7))))) + (n32 2)) 243 = true ∧ VLU (D + 5) 197 13 [(0, vR 11 (283)), (1, vI (m1 284 (ix (n32 7)))), (3, vI ((um μ7 (284) (ix (((n32 99) + ((n32 12) * (m1 284 (ix (n32 7))))) + (n32 2))) ((μ7 283 13) - (μ7 283 14))) 283 14))] [] (um μ7 (284) (ix (((n32 99) + ((n32 12) * (m1 284 (ix (n32 7))))) + (n32 2))) ((μ7 283 13) - (μ7 283 14))) Q E)) ∧ (¬ (μ7 283 10) ≤ (n32 0) → Q μ7))) ∧ (¬ (μ7 283 15) = (n32 2) → VU (D + 4) 187 [vR 11 (283), vI (n32 1)] μ7 (fun m9 => (((m9 283 10) ≤ (n32 0) → (xin (((n32 99) + ((n32 12) * (m1 284 (ix (n32 7))))) + (n32 2)) 243 = true ∧ VLU (D + 5) 197 13 [(0, vR 11 (283)), (1, vI (m1 284 (ix (n32 7)))), (3, vI ((um m9 (284) (ix (((n32 99) + ((n32 12) * (m1 284 (ix (n32 7))))) + (n32 2))) ((m9 283 13) - (m9 283 14))) 283 14))] [] (um m9 (284) (ix (((n32 99) + ((n32 12) * (m1 284 (ix (n32 7))))) + (n32 2))) ((m9 283 13) - (m9 283 14))) Q E)) ∧ (¬ (m9 283 10) ≤ (n32 0) → Q m9))) E))) ∧ (¬ (μ7 283 10) = (n32 0) → VU (D + 4) 187 [vR 11 (283), vI (n32 1)] μ7 (fun m12 => (((m12 283 10) ≤ (n32 0) → (xin (((n32 99) + ((n32 12) * (m1 284 (ix (n32 7))))) + (n32 2)) 243 = true ∧ VLU (D + 5) 197 13 [(0, vR 11 (283)), (1, vI (m1 284 (ix (n32 7)))), (3, vI ((um m12 (284) (ix (((n32 99) + ((n32 12) * (m1 284 (ix (n32 7))))) + (n32 2))) ((m12 283 13) - (m12 283 14))) 283 14))] [] (um m12 (284) (ix (((n32 99) + ((n32 12) * (m1 284 (ix (n32 7))))) + (n32 2))) ((m12 283 13) - (m12 283 14))) Q E)) ∧ (¬ (m12 283 10) ≤ (n32 0) → Q m12))) E)))))) E)) E) E) ∧ (¬ x3 = (n32 0) → VU (D + 4) 186 [vR 11 (283)] m3 (fun m15 => (xin (((n32 99) + ((n32 12) * (m1 284 (ix (n32 7))))) + (n32 0)) 243 = true ∧ VI (D + 4) 191 [vR 11 (283), vI (n32 0), vI (n32 9999)] (um m15 (284) (ix (((n32 99) + ((n32 12) * (m1 284 (ix (n32 7))))) + (n32 0))) (n32 0)) (fun x16 m16 => (xin (((n32 99) + ((n32 12) * (m1 284 (ix (n32 7))))) + (n32 1)) 243 = true ∧ (xin (((n32 99) + ((n32 12) * (m1 284 (ix (n32 7))))) + (n32 3)) 243 = true ∧ (∀ μ17 : XM, μ17 = um (um m16 (284) (ix (((n32 99) + ((n32 12) * (m1 284 (ix (n32 7))))) + (n32 1))) x16) (284) (ix (((n32 99) + ((n32 12) * (m1 284 (ix (n32 7))))) + (n32 3))) (-(n32 1)) → (((μ17 283 10) = (n32 0) → (((μ17 283 15) = (n32 2) → (((μ17 283 10) ≤ (n32 0) → (xin (((n32 99) + ((n32 12) * (m1 284 (ix (n32 7))))) + (n32 2)) 243 = true ∧ VLU (D + 5) 197 13 [(0, vR 11 (283)), (1, vI (m1 284 (ix (n32 7)))), (3, vI ((um μ17 (284) (ix (((n32 99) + ((n32 12) * (m1 284 (ix (n32 7))))) + (n32 2))) ((μ17 283 13) - (μ17 283 14))) 283 14))] [] (um μ17 (284) (ix (((n32 99) + ((n32 12) * (m1 284 (ix (n32 7))))) + (n32 2))) ((μ17 283 13) - (μ17 283 14))) Q E)) ∧ (¬ (μ17 283 10) ≤ (n32 0) → Q μ17))) ∧ (¬ (μ17 283 15) = (n32 2) → VU (D + 4) 187 [vR 11 (283), vI (n32 1)] μ17 (fun m19 => (((m19 283 10) ≤ (n32 0) → (xin (((n32 99) + ((n32 12) * (m1 284 (ix (n32 7))))) + (n32 2)) 243 = true ∧ VLU (D + 5) 197 13 [(0, vR 11 (283)), (1, vI (m1 284 (ix (n32 7)))), (3, vI ((um m19 (284) (ix (((n32 99) + ((n32 12) * (m1 284 (ix (n32 7))))) + (n32 2))) ((m19 283 13) - (m19 283 14))) 283 14))] [] (um m19 (284) (ix (((n32 99) + ((n32 12) * (m1 284 (ix (n32 7))))) + (n32 2))) ((m19 283 13) - (m19 283 14))) Q E)) ∧ (¬ (m19 283 10) ≤ (n32 0) → Q m19))) E))) ∧ (¬ (μ17 283 10) = (n32 0) → VU (D + 4) 187 [vR 11 (283), vI (n32 1)] μ17 (fun m22 => (((m22 283 10) ≤ (n32 0) → (xin (((n32 99) + ((n32 12) * (m1 284 (ix (n32 7))))) + (n32 2)) 243 = true ∧ VLU (D + 5) 197 13 [(0, vR 11 (283)), (1, vI (m1 284 (ix (n32 7)))), (3, vI ((um m22 (284) (ix (((n32 99) + ((n32 12) * (m1 284 (ix (n32 7))))) + (n32 2))) ((m22 283 13) - (m22 283 14))) 283 14))] [] (um m22 (284) (ix (((n32 99) + ((n32 12) * (m1 284 (ix (n32 7))))) + (n32 2))) ((m22 283 13) - (m22 283 14))) Q E)) ∧ (¬ (m22 283 10) ≤ (n32 0) → Q m22))) E)))))) E)) E))) E) ∧ (¬ x2 = (n32 0) → VU (D + 4) 186 [vR 11 (283)] m2 (fun m26 => (xin (((n32 99) + ((n32 12) * (m1 284 (ix (n32 7))))) + (n32 0)) 243 = true ∧ VI (D + 4) 191 [vR 11 (283), vI (n32 0), vI (n32 9999)] (um m26 (284) (ix (((n32 99) + ((n32 12) * (m1 284 (ix (n32 7))))) + (n32 0))) (n32 1)) (fun x27 m27 => (xin (((n32 99) + ((n32 12) * (m1 284 (ix (n32 7))))) + (n32 1)) 243 = true ∧ (xin (((n32 99) + ((n32 12) * (m1 284 (ix (n32 7))))) + (n32 3)) 243 = true ∧ (∀ μ28 : XM, μ28 = um (um m27 (284) (ix (((n32 99) + ((n32 12) * (m1 284 (ix (n32 7))))) + (n32 1))) x27) (284) (ix (((n32 99) + ((n32 12) * (m1 284 (ix (n32 7))))) + (n32 3))) (-(n32 1)) → (((μ28 283 10) = (n32 0) → (((μ28 283 15) = (n32 2) → (((μ28 283 10) ≤ (n32 0) → (xin (((n32 99) + ((n32 12) * (m1 284 (ix (n32 7))))) + (n32 2)) 243 = true ∧ VLU (D + 5) 197 13 [(0, vR 11 (283)), (1, vI (m1 284 (ix (n32 7)))), (3, vI ((um μ28 (284) (ix (((n32 99) + ((n32 12) * (m1 284 (ix (n32 7))))) + (n32 2))) ((μ28 283 13) - (μ28 283 14))) 283 14))] [] (um μ28 (284) (ix (((n32 99) + ((n32 12) * (m1 284 (ix (n32 7))))) + (n32 2))) ((μ28 283 13) - (μ28 283 14))) Q E)) ∧ (¬ (μ28 283 10) ≤ (n32 0) → Q μ28))) ∧ (¬ (μ28 283 15) = (n32 2) → VU (D + 4) 187 [vR 11 (283), vI (n32 1)] μ28 (fun m30 => (((m30 283 10) ≤ (n32 0) → (xin (((n32 99) + ((n32 12) * (m1 284 (ix (n32 7))))) + (n32 2)) 243 = true ∧ VLU (D + 5) 197 13 [(0, vR 11 (283)), (1, vI (m1 284 (ix (n32 7)))), (3, vI ((um m30 (284) (ix (((n32 99) + ((n32 12) * (m1 284 (ix (n32 7))))) + (n32 2))) ((m30 283 13) - (m30 283 14))) 283 14))] [] (um m30 (284) (ix (((n32 99) + ((n32 12) * (m1 284 (ix (n32 7))))) + (n32 2))) ((m30 283 13) - (m30 283 14))) Q E)) ∧ (¬ (m30 283 10) ≤ (n32 0) → Q m30))) E))) ∧ (¬ (μ28 283 10) = (n32 0) → VU (D + 4) 187 [vR 11 (283), vI (n32 1)] μ28 (fun m33 => (((m33 283 10) ≤ (n32 0) → (xin (((n32 99) + ((n32 12) * (m1 284 (ix (n32 7))))) + (n32 2)) 243 = true ∧ VLU (D + 5) 197 13 [(0, vR 11 (283)), (1, vI (m1 284 (ix (n32 7)))), (3, vI ((um m33 (284) (ix (((n32 99) + ((n32 12) * (m1 284 (ix (n32 7))))) + (n32 2))) ((m33 283 13) - (m33 283 14))) 283 14))] [] (um m33 (284) (ix (((n32 99) + ((n32 12) * (m1 284 (ix (n32 7))))) + (n32 2))) ((m33 283 13) - (m33 283 14))) Q E)) ∧ (¬ (m33 283 10) ≤ (n32 0) → Q m33))) E)))))) E)) E))) E))) E) :
    VU (D + 5) 197 [vR 11 (283)] m Q E := by
  refine V_of (VL_at (al := [(0, vR 11 (283))]) (st := []) km197 k197_0 ?_)
  refine V_mono h (fun u1 m1 h1 => ?_) (fun _ _ h => h)
  refine And.intro (fun c37 => ?_) (fun c37 => ?_)
  · refine VL_norm km197 k197_1 (VL_at (al := []) (st := []) km197 k197_1 ?_)
    exact (h1.1 c37)
  · refine VL_norm km197 k197_2 (VL_at (al := [(0, vR 11 (283))]) (st := []) km197 k197_2 ?_)
    refine And.intro (xin_k rfl) ?_
    refine V_mono (h1.2 c37) (fun u2 m2 h2 => ?_) (fun _ _ h => h)
    refine And.intro (fun c36 => ?_) (fun c36 => ?_)
    · refine VL_norm km197 k197_3 (VL_at (al := [(0, vR 11 (283)), (1, vI (m1 284 (ix (n32 7)))), (2, vI (xti u2))]) (st := []) km197 k197_3 ?_)
      refine V_mono (h2.1 c36) (fun u3 m3 h3 => ?_) (fun _ _ h => h)
      refine And.intro (fun c25 => ?_) (fun c25 => ?_)
      · refine VL_norm km197 k197_4 (VL_at (al := [(0, vR 11 (283)), (1, vI (m1 284 (ix (n32 7)))), (2, vI (xti u2))]) (st := []) km197 k197_4 ?_)
        refine V_mono (h3.1 c25) (fun u4 m4 h4 => ?_) (fun _ _ h => h)
        refine VL_norm km197 k197_5 (VL_at (al := [(0, vR 11 (283)), (1, vI (m1 284 (ix (n32 7)))), (2, vI (xti u2))]) (st := []) km197 k197_5 ?_)
        refine V_mono h4 (fun u5 m5 h5 => ?_) (fun _ _ h => h)
        refine And.intro (fun _ => ?_) (fun c => absurd c36 c)
        refine VL_norm km197 k197_7 (VL_at (al := [(0, vR 11 (283)), (1, vI (m1 284 (ix (n32 7))))]) (st := [vI (n32 0), vI (m1 284 (ix (n32 7))), vR 11 (283)]) km197 k197_7 ?_)
        refine VL_norm km197 k197_8 (VL_at (al := [(0, vR 11 (283)), (1, vI (m1 284 (ix (n32 7))))]) (st := [vI (n32 0), vI (n32 0), vI (m1 284 (ix (n32 7))), vR 11 (283)]) km197 k197_8 ?_)
        refine V_of ?_
        refine VL_norm km205 k205_0 (VL_at (al := [(0, vR 11 (283)), (1, vI (m1 284 (ix (n32 7)))), (2, vI (n32 0)), (3, vI (n32 0))]) (st := []) km205 k205_0 ?_)
        refine And.intro h5.1 ?_
        refine V_mono h5.2 (fun u6 m6 h6 => ?_) (fun _ _ h => h)
        refine V_of ?_
        refine VL_norm km205 k205_0 (VL_at (al := [(0, vR 11 (283)), (1, vI (m1 284 (ix (n32 7)))), (2, vI (n32 1)), (3, vI (xti u6))]) (st := []) km205 k205_0 ?_)
        refine And.intro h6.1 ?_
        refine V_of ?_
        refine VL_norm km205 k205_0 (VL_at (al := [(0, vR 11 (283)), (1, vI (m1 284 (ix (n32 7)))), (2, vI (n32 3)), (3, vI (-(n32 1)))]) (st := []) km205 k205_0 ?_)
        refine And.intro h6.2.1 ?_
        refine V_of ?_
        refine VL_norm km188 k188_0 (VL_at (al := [(0, vR 11 (283)), (1, vI (n32 2))]) (st := []) km188 k188_0 ?_)
        refine And.intro (fun c14 => ?_) (fun c14 => ?_)
        · refine VL_norm km188 k188_1 (VL_at (al := [(0, vR 11 (283)), (1, vI (n32 2))]) (st := []) km188 k188_1 ?_)
          refine And.intro (fun c11 => ?_) (fun c11 => ?_)
          · refine VL_norm km188 k188_2 (VL_at (al := []) (st := []) km188 k188_2 ?_)
            refine VL_norm km188 k188_4 (VL_at (al := []) (st := [vI (n32 1)]) km188 k188_4 ?_)
            refine And.intro xrt21 ?_
            refine And.intro (fun c => absurd c (by decide)) (fun _ => ?_)
            refine VL_norm km197 k197_10 (VL_at (al := [(0, vR 11 (283)), (1, vI (m1 284 (ix (n32 7))))]) (st := []) km197 k197_10 ?_)
            refine And.intro (fun c8 => ?_) (fun c8 => ?_)
            · refine VL_norm km197 k197_12 (VL_at (al := [(0, vR 11 (283)), (1, vI (m1 284 (ix (n32 7))))]) (st := []) km197 k197_12 ?_)
              refine V_of ?_
              refine VL_norm km205 k205_0 (VL_at (al := [(0, vR 11 (283)), (1, vI (m1 284 (ix (n32 7)))), (2, vI (n32 2)), (3, vI (((um (um m6 (284) (ix (((n32 99) + ((n32 12) * (m1 284 (ix (n32 7))))) + (n32 1))) (xti u6)) (284) (ix (((n32 99) + ((n32 12) * (m1 284 (ix (n32 7))))) + (n32 3))) (-(n32 1))) 283 13) - ((um (um m6 (284) (ix (((n32 99) + ((n32 12) * (m1 284 (ix (n32 7))))) + (n32 1))) (xti u6)) (284) (ix (((n32 99) + ((n32 12) * (m1 284 (ix (n32 7))))) + (n32 3))) (-(n32 1))) 283 14)))]) (st := []) km205 k205_0 ?_)
              refine And.intro ((((h6.2.2 (um (um m6 (284) (ix (((n32 99) + ((n32 12) * (m1 284 (ix (n32 7))))) + (n32 1))) (xti u6)) (284) (ix (((n32 99) + ((n32 12) * (m1 284 (ix (n32 7))))) + (n32 3))) (-(n32 1))) rfl).1 c14).1 c11).1 c8).1 ?_
              exact VL_norm km197 k197_13 ((((h6.2.2 (um (um m6 (284) (ix (((n32 99) + ((n32 12) * (m1 284 (ix (n32 7))))) + (n32 1))) (xti u6)) (284) (ix (((n32 99) + ((n32 12) * (m1 284 (ix (n32 7))))) + (n32 3))) (-(n32 1))) rfl).1 c14).1 c11).1 c8).2
            · refine VL_norm km197 k197_11 (VL_at (al := []) (st := []) km197 k197_11 ?_)
              exact ((((h6.2.2 (um (um m6 (284) (ix (((n32 99) + ((n32 12) * (m1 284 (ix (n32 7))))) + (n32 1))) (xti u6)) (284) (ix (((n32 99) + ((n32 12) * (m1 284 (ix (n32 7))))) + (n32 3))) (-(n32 1))) rfl).1 c14).1 c11).2 c8)
          · refine VL_norm km188 k188_3 (VL_at (al := []) (st := []) km188 k188_3 ?_)
            refine VL_norm km188 k188_4 (VL_at (al := []) (st := [vI (n32 0)]) km188 k188_4 ?_)
            refine And.intro xrt20 ?_
            refine And.intro (fun _ => ?_) (fun c => absurd (by decide) c)
            refine VL_norm km197 k197_9 (VL_at (al := [(0, vR 11 (283)), (1, vI (m1 284 (ix (n32 7))))]) (st := []) km197 k197_9 ?_)
            refine V_mono (((h6.2.2 (um (um m6 (284) (ix (((n32 99) + ((n32 12) * (m1 284 (ix (n32 7))))) + (n32 1))) (xti u6)) (284) (ix (((n32 99) + ((n32 12) * (m1 284 (ix (n32 7))))) + (n32 3))) (-(n32 1))) rfl).1 c14).2 c11) (fun u9 m9 h9 => ?_) (fun _ _ h => h)
            refine VL_norm km197 k197_10 (VL_at (al := [(0, vR 11 (283)), (1, vI (m1 284 (ix (n32 7))))]) (st := []) km197 k197_10 ?_)
            refine And.intro (fun c10 => ?_) (fun c10 => ?_)
            · refine VL_norm km197 k197_12 (VL_at (al := [(0, vR 11 (283)), (1, vI (m1 284 (ix (n32 7))))]) (st := []) km197 k197_12 ?_)
              refine V_of ?_
              refine VL_norm km205 k205_0 (VL_at (al := [(0, vR 11 (283)), (1, vI (m1 284 (ix (n32 7)))), (2, vI (n32 2)), (3, vI ((m9 283 13) - (m9 283 14)))]) (st := []) km205 k205_0 ?_)
              refine And.intro (h9.1 c10).1 ?_
              exact VL_norm km197 k197_13 (h9.1 c10).2
            · refine VL_norm km197 k197_11 (VL_at (al := []) (st := []) km197 k197_11 ?_)
              exact (h9.2 c10)
        · refine VL_norm km188 k188_3 (VL_at (al := []) (st := []) km188 k188_3 ?_)
          refine VL_norm km188 k188_4 (VL_at (al := []) (st := [vI (n32 0)]) km188 k188_4 ?_)
          refine And.intro xrt20 ?_
          refine And.intro (fun _ => ?_) (fun c => absurd (by decide) c)
          refine VL_norm km197 k197_9 (VL_at (al := [(0, vR 11 (283)), (1, vI (m1 284 (ix (n32 7))))]) (st := []) km197 k197_9 ?_)
          refine V_mono ((h6.2.2 (um (um m6 (284) (ix (((n32 99) + ((n32 12) * (m1 284 (ix (n32 7))))) + (n32 1))) (xti u6)) (284) (ix (((n32 99) + ((n32 12) * (m1 284 (ix (n32 7))))) + (n32 3))) (-(n32 1))) rfl).2 c14) (fun u12 m12 h12 => ?_) (fun _ _ h => h)
          refine VL_norm km197 k197_10 (VL_at (al := [(0, vR 11 (283)), (1, vI (m1 284 (ix (n32 7))))]) (st := []) km197 k197_10 ?_)
          refine And.intro (fun c13 => ?_) (fun c13 => ?_)
          · refine VL_norm km197 k197_12 (VL_at (al := [(0, vR 11 (283)), (1, vI (m1 284 (ix (n32 7))))]) (st := []) km197 k197_12 ?_)
            refine V_of ?_
            refine VL_norm km205 k205_0 (VL_at (al := [(0, vR 11 (283)), (1, vI (m1 284 (ix (n32 7)))), (2, vI (n32 2)), (3, vI ((m12 283 13) - (m12 283 14)))]) (st := []) km205 k205_0 ?_)
            refine And.intro (h12.1 c13).1 ?_
            exact VL_norm km197 k197_13 (h12.1 c13).2
          · refine VL_norm km197 k197_11 (VL_at (al := []) (st := []) km197 k197_11 ?_)
            exact (h12.2 c13)
      · refine VL_norm km197 k197_5 (VL_at (al := [(0, vR 11 (283)), (1, vI (m1 284 (ix (n32 7)))), (2, vI (xti u2))]) (st := []) km197 k197_5 ?_)
        refine V_mono (h3.2 c25) (fun u15 m15 h15 => ?_) (fun _ _ h => h)
        refine And.intro (fun _ => ?_) (fun c => absurd c36 c)
        refine VL_norm km197 k197_7 (VL_at (al := [(0, vR 11 (283)), (1, vI (m1 284 (ix (n32 7))))]) (st := [vI (n32 0), vI (m1 284 (ix (n32 7))), vR 11 (283)]) km197 k197_7 ?_)
        refine VL_norm km197 k197_8 (VL_at (al := [(0, vR 11 (283)), (1, vI (m1 284 (ix (n32 7))))]) (st := [vI (n32 0), vI (n32 0), vI (m1 284 (ix (n32 7))), vR 11 (283)]) km197 k197_8 ?_)
        refine V_of ?_
        refine VL_norm km205 k205_0 (VL_at (al := [(0, vR 11 (283)), (1, vI (m1 284 (ix (n32 7)))), (2, vI (n32 0)), (3, vI (n32 0))]) (st := []) km205 k205_0 ?_)
        refine And.intro h15.1 ?_
        refine V_mono h15.2 (fun u16 m16 h16 => ?_) (fun _ _ h => h)
        refine V_of ?_
        refine VL_norm km205 k205_0 (VL_at (al := [(0, vR 11 (283)), (1, vI (m1 284 (ix (n32 7)))), (2, vI (n32 1)), (3, vI (xti u16))]) (st := []) km205 k205_0 ?_)
        refine And.intro h16.1 ?_
        refine V_of ?_
        refine VL_norm km205 k205_0 (VL_at (al := [(0, vR 11 (283)), (1, vI (m1 284 (ix (n32 7)))), (2, vI (n32 3)), (3, vI (-(n32 1)))]) (st := []) km205 k205_0 ?_)
        refine And.intro h16.2.1 ?_
        refine V_of ?_
        refine VL_norm km188 k188_0 (VL_at (al := [(0, vR 11 (283)), (1, vI (n32 2))]) (st := []) km188 k188_0 ?_)
        refine And.intro (fun c24 => ?_) (fun c24 => ?_)
        · refine VL_norm km188 k188_1 (VL_at (al := [(0, vR 11 (283)), (1, vI (n32 2))]) (st := []) km188 k188_1 ?_)
          refine And.intro (fun c21 => ?_) (fun c21 => ?_)
          · refine VL_norm km188 k188_2 (VL_at (al := []) (st := []) km188 k188_2 ?_)
            refine VL_norm km188 k188_4 (VL_at (al := []) (st := [vI (n32 1)]) km188 k188_4 ?_)
            refine And.intro xrt21 ?_
            refine And.intro (fun c => absurd c (by decide)) (fun _ => ?_)
            refine VL_norm km197 k197_10 (VL_at (al := [(0, vR 11 (283)), (1, vI (m1 284 (ix (n32 7))))]) (st := []) km197 k197_10 ?_)
            refine And.intro (fun c18 => ?_) (fun c18 => ?_)
            · refine VL_norm km197 k197_12 (VL_at (al := [(0, vR 11 (283)), (1, vI (m1 284 (ix (n32 7))))]) (st := []) km197 k197_12 ?_)
              refine V_of ?_
              refine VL_norm km205 k205_0 (VL_at (al := [(0, vR 11 (283)), (1, vI (m1 284 (ix (n32 7)))), (2, vI (n32 2)), (3, vI (((um (um m16 (284) (ix (((n32 99) + ((n32 12) * (m1 284 (ix (n32 7))))) + (n32 1))) (xti u16)) (284) (ix (((n32 99) + ((n32 12) * (m1 284 (ix (n32 7))))) + (n32 3))) (-(n32 1))) 283 13) - ((um (um m16 (284) (ix (((n32 99) + ((n32 12) * (m1 284 (ix (n32 7))))) + (n32 1))) (xti u16)) (284) (ix (((n32 99) + ((n32 12) * (m1 284 (ix (n32 7))))) + (n32 3))) (-(n32 1))) 283 14)))]) (st := []) km205 k205_0 ?_)
              refine And.intro ((((h16.2.2 (um (um m16 (284) (ix (((n32 99) + ((n32 12) * (m1 284 (ix (n32 7))))) + (n32 1))) (xti u16)) (284) (ix (((n32 99) + ((n32 12) * (m1 284 (ix (n32 7))))) + (n32 3))) (-(n32 1))) rfl).1 c24).1 c21).1 c18).1 ?_
              exact VL_norm km197 k197_13 ((((h16.2.2 (um (um m16 (284) (ix (((n32 99) + ((n32 12) * (m1 284 (ix (n32 7))))) + (n32 1))) (xti u16)) (284) (ix (((n32 99) + ((n32 12) * (m1 284 (ix (n32 7))))) + (n32 3))) (-(n32 1))) rfl).1 c24).1 c21).1 c18).2
            · refine VL_norm km197 k197_11 (VL_at (al := []) (st := []) km197 k197_11 ?_)
              exact ((((h16.2.2 (um (um m16 (284) (ix (((n32 99) + ((n32 12) * (m1 284 (ix (n32 7))))) + (n32 1))) (xti u16)) (284) (ix (((n32 99) + ((n32 12) * (m1 284 (ix (n32 7))))) + (n32 3))) (-(n32 1))) rfl).1 c24).1 c21).2 c18)
          · refine VL_norm km188 k188_3 (VL_at (al := []) (st := []) km188 k188_3 ?_)
            refine VL_norm km188 k188_4 (VL_at (al := []) (st := [vI (n32 0)]) km188 k188_4 ?_)
            refine And.intro xrt20 ?_
            refine And.intro (fun _ => ?_) (fun c => absurd (by decide) c)
            refine VL_norm km197 k197_9 (VL_at (al := [(0, vR 11 (283)), (1, vI (m1 284 (ix (n32 7))))]) (st := []) km197 k197_9 ?_)
            refine V_mono (((h16.2.2 (um (um m16 (284) (ix (((n32 99) + ((n32 12) * (m1 284 (ix (n32 7))))) + (n32 1))) (xti u16)) (284) (ix (((n32 99) + ((n32 12) * (m1 284 (ix (n32 7))))) + (n32 3))) (-(n32 1))) rfl).1 c24).2 c21) (fun u19 m19 h19 => ?_) (fun _ _ h => h)
            refine VL_norm km197 k197_10 (VL_at (al := [(0, vR 11 (283)), (1, vI (m1 284 (ix (n32 7))))]) (st := []) km197 k197_10 ?_)
            refine And.intro (fun c20 => ?_) (fun c20 => ?_)
            · refine VL_norm km197 k197_12 (VL_at (al := [(0, vR 11 (283)), (1, vI (m1 284 (ix (n32 7))))]) (st := []) km197 k197_12 ?_)
              refine V_of ?_
              refine VL_norm km205 k205_0 (VL_at (al := [(0, vR 11 (283)), (1, vI (m1 284 (ix (n32 7)))), (2, vI (n32 2)), (3, vI ((m19 283 13) - (m19 283 14)))]) (st := []) km205 k205_0 ?_)
              refine And.intro (h19.1 c20).1 ?_
              exact VL_norm km197 k197_13 (h19.1 c20).2
            · refine VL_norm km197 k197_11 (VL_at (al := []) (st := []) km197 k197_11 ?_)
              exact (h19.2 c20)
        · refine VL_norm km188 k188_3 (VL_at (al := []) (st := []) km188 k188_3 ?_)
          refine VL_norm km188 k188_4 (VL_at (al := []) (st := [vI (n32 0)]) km188 k188_4 ?_)
          refine And.intro xrt20 ?_
          refine And.intro (fun _ => ?_) (fun c => absurd (by decide) c)
          refine VL_norm km197 k197_9 (VL_at (al := [(0, vR 11 (283)), (1, vI (m1 284 (ix (n32 7))))]) (st := []) km197 k197_9 ?_)
          refine V_mono ((h16.2.2 (um (um m16 (284) (ix (((n32 99) + ((n32 12) * (m1 284 (ix (n32 7))))) + (n32 1))) (xti u16)) (284) (ix (((n32 99) + ((n32 12) * (m1 284 (ix (n32 7))))) + (n32 3))) (-(n32 1))) rfl).2 c24) (fun u22 m22 h22 => ?_) (fun _ _ h => h)
          refine VL_norm km197 k197_10 (VL_at (al := [(0, vR 11 (283)), (1, vI (m1 284 (ix (n32 7))))]) (st := []) km197 k197_10 ?_)
          refine And.intro (fun c23 => ?_) (fun c23 => ?_)
          · refine VL_norm km197 k197_12 (VL_at (al := [(0, vR 11 (283)), (1, vI (m1 284 (ix (n32 7))))]) (st := []) km197 k197_12 ?_)
            refine V_of ?_
            refine VL_norm km205 k205_0 (VL_at (al := [(0, vR 11 (283)), (1, vI (m1 284 (ix (n32 7)))), (2, vI (n32 2)), (3, vI ((m22 283 13) - (m22 283 14)))]) (st := []) km205 k205_0 ?_)
            refine And.intro (h22.1 c23).1 ?_
            exact VL_norm km197 k197_13 (h22.1 c23).2
          · refine VL_norm km197 k197_11 (VL_at (al := []) (st := []) km197 k197_11 ?_)
            exact (h22.2 c23)
    · refine VL_norm km197 k197_5 (VL_at (al := [(0, vR 11 (283)), (1, vI (m1 284 (ix (n32 7)))), (2, vI (xti u2))]) (st := []) km197 k197_5 ?_)
      refine V_mono (h2.2 c36) (fun u26 m26 h26 => ?_) (fun _ _ h => h)
      refine And.intro (fun c => absurd c c36) (fun _ => ?_)
      refine VL_norm km197 k197_6 (VL_at (al := [(0, vR 11 (283)), (1, vI (m1 284 (ix (n32 7))))]) (st := [vI (n32 0), vI (m1 284 (ix (n32 7))), vR 11 (283)]) km197 k197_6 ?_)
      refine VL_norm km197 k197_8 (VL_at (al := [(0, vR 11 (283)), (1, vI (m1 284 (ix (n32 7))))]) (st := [vI (n32 1), vI (n32 0), vI (m1 284 (ix (n32 7))), vR 11 (283)]) km197 k197_8 ?_)
      refine V_of ?_
      refine VL_norm km205 k205_0 (VL_at (al := [(0, vR 11 (283)), (1, vI (m1 284 (ix (n32 7)))), (2, vI (n32 0)), (3, vI (n32 1))]) (st := []) km205 k205_0 ?_)
      refine And.intro h26.1 ?_
      refine V_mono h26.2 (fun u27 m27 h27 => ?_) (fun _ _ h => h)
      refine V_of ?_
      refine VL_norm km205 k205_0 (VL_at (al := [(0, vR 11 (283)), (1, vI (m1 284 (ix (n32 7)))), (2, vI (n32 1)), (3, vI (xti u27))]) (st := []) km205 k205_0 ?_)
      refine And.intro h27.1 ?_
      refine V_of ?_
      refine VL_norm km205 k205_0 (VL_at (al := [(0, vR 11 (283)), (1, vI (m1 284 (ix (n32 7)))), (2, vI (n32 3)), (3, vI (-(n32 1)))]) (st := []) km205 k205_0 ?_)
      refine And.intro h27.2.1 ?_
      refine V_of ?_
      refine VL_norm km188 k188_0 (VL_at (al := [(0, vR 11 (283)), (1, vI (n32 2))]) (st := []) km188 k188_0 ?_)
      refine And.intro (fun c35 => ?_) (fun c35 => ?_)
      · refine VL_norm km188 k188_1 (VL_at (al := [(0, vR 11 (283)), (1, vI (n32 2))]) (st := []) km188 k188_1 ?_)
        refine And.intro (fun c32 => ?_) (fun c32 => ?_)
        · refine VL_norm km188 k188_2 (VL_at (al := []) (st := []) km188 k188_2 ?_)
          refine VL_norm km188 k188_4 (VL_at (al := []) (st := [vI (n32 1)]) km188 k188_4 ?_)
          refine And.intro xrt21 ?_
          refine And.intro (fun c => absurd c (by decide)) (fun _ => ?_)
          refine VL_norm km197 k197_10 (VL_at (al := [(0, vR 11 (283)), (1, vI (m1 284 (ix (n32 7))))]) (st := []) km197 k197_10 ?_)
          refine And.intro (fun c29 => ?_) (fun c29 => ?_)
          · refine VL_norm km197 k197_12 (VL_at (al := [(0, vR 11 (283)), (1, vI (m1 284 (ix (n32 7))))]) (st := []) km197 k197_12 ?_)
            refine V_of ?_
            refine VL_norm km205 k205_0 (VL_at (al := [(0, vR 11 (283)), (1, vI (m1 284 (ix (n32 7)))), (2, vI (n32 2)), (3, vI (((um (um m27 (284) (ix (((n32 99) + ((n32 12) * (m1 284 (ix (n32 7))))) + (n32 1))) (xti u27)) (284) (ix (((n32 99) + ((n32 12) * (m1 284 (ix (n32 7))))) + (n32 3))) (-(n32 1))) 283 13) - ((um (um m27 (284) (ix (((n32 99) + ((n32 12) * (m1 284 (ix (n32 7))))) + (n32 1))) (xti u27)) (284) (ix (((n32 99) + ((n32 12) * (m1 284 (ix (n32 7))))) + (n32 3))) (-(n32 1))) 283 14)))]) (st := []) km205 k205_0 ?_)
            refine And.intro ((((h27.2.2 (um (um m27 (284) (ix (((n32 99) + ((n32 12) * (m1 284 (ix (n32 7))))) + (n32 1))) (xti u27)) (284) (ix (((n32 99) + ((n32 12) * (m1 284 (ix (n32 7))))) + (n32 3))) (-(n32 1))) rfl).1 c35).1 c32).1 c29).1 ?_
            exact VL_norm km197 k197_13 ((((h27.2.2 (um (um m27 (284) (ix (((n32 99) + ((n32 12) * (m1 284 (ix (n32 7))))) + (n32 1))) (xti u27)) (284) (ix (((n32 99) + ((n32 12) * (m1 284 (ix (n32 7))))) + (n32 3))) (-(n32 1))) rfl).1 c35).1 c32).1 c29).2
          · refine VL_norm km197 k197_11 (VL_at (al := []) (st := []) km197 k197_11 ?_)
            exact ((((h27.2.2 (um (um m27 (284) (ix (((n32 99) + ((n32 12) * (m1 284 (ix (n32 7))))) + (n32 1))) (xti u27)) (284) (ix (((n32 99) + ((n32 12) * (m1 284 (ix (n32 7))))) + (n32 3))) (-(n32 1))) rfl).1 c35).1 c32).2 c29)
        · refine VL_norm km188 k188_3 (VL_at (al := []) (st := []) km188 k188_3 ?_)
          refine VL_norm km188 k188_4 (VL_at (al := []) (st := [vI (n32 0)]) km188 k188_4 ?_)
          refine And.intro xrt20 ?_
          refine And.intro (fun _ => ?_) (fun c => absurd (by decide) c)
          refine VL_norm km197 k197_9 (VL_at (al := [(0, vR 11 (283)), (1, vI (m1 284 (ix (n32 7))))]) (st := []) km197 k197_9 ?_)
          refine V_mono (((h27.2.2 (um (um m27 (284) (ix (((n32 99) + ((n32 12) * (m1 284 (ix (n32 7))))) + (n32 1))) (xti u27)) (284) (ix (((n32 99) + ((n32 12) * (m1 284 (ix (n32 7))))) + (n32 3))) (-(n32 1))) rfl).1 c35).2 c32) (fun u30 m30 h30 => ?_) (fun _ _ h => h)
          refine VL_norm km197 k197_10 (VL_at (al := [(0, vR 11 (283)), (1, vI (m1 284 (ix (n32 7))))]) (st := []) km197 k197_10 ?_)
          refine And.intro (fun c31 => ?_) (fun c31 => ?_)
          · refine VL_norm km197 k197_12 (VL_at (al := [(0, vR 11 (283)), (1, vI (m1 284 (ix (n32 7))))]) (st := []) km197 k197_12 ?_)
            refine V_of ?_
            refine VL_norm km205 k205_0 (VL_at (al := [(0, vR 11 (283)), (1, vI (m1 284 (ix (n32 7)))), (2, vI (n32 2)), (3, vI ((m30 283 13) - (m30 283 14)))]) (st := []) km205 k205_0 ?_)
            refine And.intro (h30.1 c31).1 ?_
            exact VL_norm km197 k197_13 (h30.1 c31).2
          · refine VL_norm km197 k197_11 (VL_at (al := []) (st := []) km197 k197_11 ?_)
            exact (h30.2 c31)
      · refine VL_norm km188 k188_3 (VL_at (al := []) (st := []) km188 k188_3 ?_)
        refine VL_norm km188 k188_4 (VL_at (al := []) (st := [vI (n32 0)]) km188 k188_4 ?_)
        refine And.intro xrt20 ?_
        refine And.intro (fun _ => ?_) (fun c => absurd (by decide) c)
        refine VL_norm km197 k197_9 (VL_at (al := [(0, vR 11 (283)), (1, vI (m1 284 (ix (n32 7))))]) (st := []) km197 k197_9 ?_)
        refine V_mono ((h27.2.2 (um (um m27 (284) (ix (((n32 99) + ((n32 12) * (m1 284 (ix (n32 7))))) + (n32 1))) (xti u27)) (284) (ix (((n32 99) + ((n32 12) * (m1 284 (ix (n32 7))))) + (n32 3))) (-(n32 1))) rfl).2 c35) (fun u33 m33 h33 => ?_) (fun _ _ h => h)
        refine VL_norm km197 k197_10 (VL_at (al := [(0, vR 11 (283)), (1, vI (m1 284 (ix (n32 7))))]) (st := []) km197 k197_10 ?_)
        refine And.intro (fun c34 => ?_) (fun c34 => ?_)
        · refine VL_norm km197 k197_12 (VL_at (al := [(0, vR 11 (283)), (1, vI (m1 284 (ix (n32 7))))]) (st := []) km197 k197_12 ?_)
          refine V_of ?_
          refine VL_norm km205 k205_0 (VL_at (al := [(0, vR 11 (283)), (1, vI (m1 284 (ix (n32 7)))), (2, vI (n32 2)), (3, vI ((m33 283 13) - (m33 283 14)))]) (st := []) km205 k205_0 ?_)
          refine And.intro (h33.1 c34).1 ?_
          exact VL_norm km197 k197_13 (h33.1 c34).2
        · refine VL_norm km197 k197_11 (VL_at (al := []) (st := []) km197 k197_11 ?_)
          exact (h33.2 c34)
/-- BannerParadeModel.readsStand, label 13 -/
theorem w197_13 {D : Nat} {v1 : Int32} {v3 : Int32} {m : XM} {Q : XM → Prop} {E : Nat → XM → Prop}
    (h : (((m 283 13) ≤ v3 → VU (D + 4) 186 [vR 11 (283)] m (fun m1 => Q (um m1 (284) (ix (n32 7)) ((m1 284 (ix (n32 7))) + (n32 1)))) E) ∧ (¬ (m 283 13) ≤ v3 → (xin v3 700 = true ∧ (xin (((n32 99) + ((n32 12) * v1)) + (((n32 4) + v3) - (m 283 14))) 243 = true ∧ VLU (D + 5) 197 13 [(0, vR 11 (283)), (1, vI v1), (3, vI (v3 + (n32 1)))] [] (um m (284) (ix (((n32 99) + ((n32 12) * v1)) + (((n32 4) + v3) - (m 283 14)))) (m 289 (ix v3))) Q E))))) :
    VLU (D + 5) 197 13 [(0, vR 11 (283)), (1, vI v1), (3, vI v3)] [] m Q E := by
  refine VL_at (al := [(0, vR 11 (283)), (1, vI v1), (3, vI v3)]) (st := []) km197 k197_13 ?_
  refine And.intro (fun c2 => ?_) (fun c2 => ?_)
  · refine VL_norm km197 k197_15 (VL_at (al := [(0, vR 11 (283))]) (st := []) km197 k197_15 ?_)
    refine V_mono (h.1 c2) (fun u1 m1 h1 => ?_) (fun _ _ h => h)
    refine And.intro (xin_k rfl) ?_
    refine And.intro (xin_k rfl) ?_
    exact h1
  · refine VL_norm km197 k197_14 (VL_at (al := [(0, vR 11 (283)), (1, vI v1), (3, vI v3)]) (st := []) km197 k197_14 ?_)
    refine And.intro (h.2 c2).1 ?_
    refine V_of ?_
    refine VL_norm km205 k205_0 (VL_at (al := [(0, vR 11 (283)), (1, vI v1), (2, vI (((n32 4) + v3) - (m 283 14))), (3, vI (m 289 (ix v3)))]) (st := []) km205 k205_0 ?_)
    refine And.intro (h.2 c2).2.1 ?_
    exact VL_norm km197 k197_13 (h.2 c2).2.2
/-- BannerParadeModel.readsPlan, label 0 -/
theorem w198_0 {D : Nat}  {m : XM} {Q : XM → Prop} {E : Nat → XM → Prop}
    (h : VI (D + 3) 194 [vR 11 (283), vI (n32 8), vI (n32 12)] m (fun x1 m1 => ((x1 = (n32 0) → Q m1) ∧ (¬ x1 = (n32 0) → VI (D + 3) 191 [vR 11 (283), vI (n32 1), vI (n32 5000)] m1 (fun x2 m2 => VI (D + 3) 191 [vR 11 (283), vI (n32 0), vI ((m2 284 (ix (n32 6))) - (n32 2))] m2 (fun x3 m3 => (xin ((n32 171) + ((n32 3) * (m3 284 (ix (n32 8))))) 243 = true ∧ (xin (((n32 171) + ((n32 3) * (m3 284 (ix (n32 8))))) + (n32 1)) 243 = true ∧ (xin (((n32 171) + ((n32 3) * (m3 284 (ix (n32 8))))) + (n32 2)) 243 = true ∧ (∀ μ4 : XM, μ4 = um (um (um m3 (284) (ix ((n32 171) + ((n32 3) * (m3 284 (ix (n32 8)))))) x2) (284) (ix (((n32 171) + ((n32 3) * (m3 284 (ix (n32 8))))) + (n32 1))) x3) (284) (ix (((n32 171) + ((n32 3) * (m3 284 (ix (n32 8))))) + (n32 2))) (n32 0) → Q (um μ4 (284) (ix (n32 8)) ((μ4 284 (ix (n32 8))) + (n32 1)))))))) E) E))) E) :
    VU (D + 4) 198 [vR 11 (283)] m Q E := by
  refine V_of (VL_at (al := [(0, vR 11 (283))]) (st := []) km198 k198_0 ?_)
  refine V_mono h (fun u1 m1 h1 => ?_) (fun _ _ h => h)
  refine And.intro (fun c5 => ?_) (fun c5 => ?_)
  · refine VL_norm km198 k198_1 (VL_at (al := []) (st := []) km198 k198_1 ?_)
    exact (h1.1 c5)
  · refine VL_norm km198 k198_2 (VL_at (al := [(0, vR 11 (283))]) (st := []) km198 k198_2 ?_)
    refine V_mono (h1.2 c5) (fun u2 m2 h2 => ?_) (fun _ _ h => h)
    refine And.intro (xin_k rfl) ?_
    refine V_mono h2 (fun u3 m3 h3 => ?_) (fun _ _ h => h)
    refine V_of ?_
    refine VL_norm km199 k199_0 (VL_at (al := [(0, vR 11 (283)), (1, vI (xti u2)), (2, vI (xti u3))]) (st := []) km199 k199_0 ?_)
    refine And.intro (xin_k rfl) ?_
    refine And.intro h3.1 ?_
    refine And.intro h3.2.1 ?_
    refine And.intro h3.2.2.1 ?_
    refine And.intro (xin_k rfl) ?_
    refine And.intro (xin_k rfl) ?_
    exact (h3.2.2.2 (um (um (um m3 (284) (ix ((n32 171) + ((n32 3) * (m3 284 (ix (n32 8)))))) (xti u2)) (284) (ix (((n32 171) + ((n32 3) * (m3 284 (ix (n32 8))))) + (n32 1))) (xti u3)) (284) (ix (((n32 171) + ((n32 3) * (m3 284 (ix (n32 8))))) + (n32 2))) (n32 0)) rfl)
/-- BannerParadeModel.reads, label 0 -/
theorem w200_0 {D : Nat}  {m : XM} {Q : XM → Prop} {E : Nat → XM → Prop}
    (h : VU (D + 5) 186 [vR 11 (283)] m (fun m1 => VU (D + 5) 190 [vR 11 (283), vR 30 (1000022)] m1 (fun m2 => VLU (D + 6) 200 1 [(0, vR 11 (283)), (1, vI (n32 0))] [] m2 Q E) E) E) :
    VU (D + 6) 200 [vR 11 (283)] m Q E := by
  refine V_of (VL_at (al := [(0, vR 11 (283))]) (st := []) km200 k200_0 ?_)
  refine V_mono h (fun u1 m1 h1 => ?_) (fun _ _ h => h)
  refine V_mono h1 (fun u2 m2 h2 => ?_) (fun _ _ h => h)
  exact VL_norm km200 k200_1 h2
/-- BannerParadeModel.reads, label 1 -/
theorem w200_1 {D : Nat} {v1 : Int32} {m : XM} {Q : XM → Prop} {E : Nat → XM → Prop}
    (h : (((n32 6) ≤ v1 → VLU (D + 6) 200 3 [(0, vR 11 (283))] [] m Q E) ∧ (¬ (n32 6) ≤ v1 → VI (D + 5) 192 [vI v1] m (fun x1 m1 => VI (D + 5) 193 [vI v1] m1 (fun x2 m2 => VI (D + 5) 191 [vR 11 (283), vI x1, vI x2] m2 (fun x3 m3 => (xin v1 243 = true ∧ VLU (D + 6) 200 1 [(0, vR 11 (283)), (1, vI (v1 + (n32 1)))] [] (um m3 (284) (ix v1) x3) Q E)) E) E) E))) :
    VLU (D + 6) 200 1 [(0, vR 11 (283)), (1, vI v1)] [] m Q E := by
  refine VL_at (al := [(0, vR 11 (283)), (1, vI v1)]) (st := []) km200 k200_1 ?_
  refine And.intro (fun c4 => ?_) (fun c4 => ?_)
  · exact VL_norm km200 k200_3 (h.1 c4)
  · refine VL_norm km200 k200_2 (VL_at (al := [(0, vR 11 (283)), (1, vI v1)]) (st := []) km200 k200_2 ?_)
    refine V_mono (h.2 c4) (fun u1 m1 h1 => ?_) (fun _ _ h => h)
    refine V_mono h1 (fun u2 m2 h2 => ?_) (fun _ _ h => h)
    refine V_mono h2 (fun u3 m3 h3 => ?_) (fun _ _ h => h)
    refine And.intro h3.1 ?_
    exact VL_norm km200 k200_1 h3.2
/-- BannerParadeModel.reads, label 3 -/
theorem w200_3 {D : Nat}  {m : XM} {Q : XM → Prop} {E : Nat → XM → Prop}
    (h : (((m 283 10) = (n32 0) → (((m 283 15) = (n32 4) → VU (D + 5) 186 [vR 11 (283)] m (fun m1 => VI (D + 5) 189 [vR 11 (283), vR 30 (1000023)] m1 (fun x2 m2 => ((x2 = (n32 0) → VI (D + 5) 189 [vR 11 (283), vR 30 (1000024)] m2 (fun x3 m3 => ((x3 = (n32 0) → VI (D + 5) 189 [vR 11 (283), vR 30 (1000027)] m3 (fun x4 m4 => ((x4 = (n32 0) → VU (D + 5) 187 [vR 11 (283), vI (n32 1)] m4 (fun m5 => VLU (D + 6) 200 3 [(0, vR 11 (283))] [] m5 Q E) E) ∧ (¬ x4 = (n32 0) → VU (D + 5) 198 [vR 11 (283)] m4 (fun m6 => VLU (D + 6) 200 3 [(0, vR 11 (283))] [] m6 Q E) E))) E) ∧ (¬ x3 = (n32 0) → VU (D + 5) 197 [vR 11 (283)] m3 (fun m8 => VLU (D + 6) 200 3 [(0, vR 11 (283))] [] m8 Q E) E))) E) ∧ (¬ x2 = (n32 0) → VU (D + 5) 196 [vR 11 (283)] m2 (fun m10 => VLU (D + 6) 200 3 [(0, vR 11 (283))] [] m10 Q E) E))) E) E) ∧ (¬ (m 283 15) = (n32 4) → (((m 283 15) = (n32 1) → Q m) ∧ (¬ (m 283 15) = (n32 1) → VU (D + 5) 187 [vR 11 (283), vI (n32 1)] m (fun m12 => Q m12) E))))) ∧ (¬ (m 283 10) = (n32 0) → VU (D + 5) 187 [vR 11 (283), vI (n32 1)] m (fun m15 => Q m15) E))) :
    VLU (D + 6) 200 3 [(0, vR 11 (283))] [] m Q E := by
  refine VL_at (al := [(0, vR 11 (283))]) (st := []) km200 k200_3 ?_
  refine V_of ?_
  refine VL_norm km188 k188_0 (VL_at (al := [(0, vR 11 (283)), (1, vI (n32 4))]) (st := []) km188 k188_0 ?_)
  refine And.intro (fun c16 => ?_) (fun c16 => ?_)
  · refine VL_norm km188 k188_1 (VL_at (al := [(0, vR 11 (283)), (1, vI (n32 4))]) (st := []) km188 k188_1 ?_)
    refine And.intro (fun c14 => ?_) (fun c14 => ?_)
    · refine VL_norm km188 k188_2 (VL_at (al := []) (st := []) km188 k188_2 ?_)
      refine VL_norm km188 k188_4 (VL_at (al := []) (st := [vI (n32 1)]) km188 k188_4 ?_)
      refine And.intro xrt21 ?_
      refine And.intro (fun c => absurd c (by decide)) (fun _ => ?_)
      refine VL_norm km200 k200_4 (VL_at (al := [(0, vR 11 (283))]) (st := []) km200 k200_4 ?_)
      refine V_mono ((h.1 c16).1 c14) (fun u1 m1 h1 => ?_) (fun _ _ h => h)
      refine V_mono h1 (fun u2 m2 h2 => ?_) (fun _ _ h => h)
      refine And.intro (fun c11 => ?_) (fun c11 => ?_)
      · refine VL_norm km200 k200_6 (VL_at (al := [(0, vR 11 (283))]) (st := []) km200 k200_6 ?_)
        refine V_mono (h2.1 c11) (fun u3 m3 h3 => ?_) (fun _ _ h => h)
        refine And.intro (fun c9 => ?_) (fun c9 => ?_)
        · refine VL_norm km200 k200_8 (VL_at (al := [(0, vR 11 (283))]) (st := []) km200 k200_8 ?_)
          refine V_mono (h3.1 c9) (fun u4 m4 h4 => ?_) (fun _ _ h => h)
          refine And.intro (fun c7 => ?_) (fun c7 => ?_)
          · refine VL_norm km200 k200_10 (VL_at (al := [(0, vR 11 (283))]) (st := []) km200 k200_10 ?_)
            refine V_mono (h4.1 c7) (fun u5 m5 h5 => ?_) (fun _ _ h => h)
            exact VL_norm km200 k200_3 h5
          · refine VL_norm km200 k200_9 (VL_at (al := [(0, vR 11 (283))]) (st := []) km200 k200_9 ?_)
            refine V_mono (h4.2 c7) (fun u6 m6 h6 => ?_) (fun _ _ h => h)
            exact VL_norm km200 k200_3 h6
        · refine VL_norm km200 k200_7 (VL_at (al := [(0, vR 11 (283))]) (st := []) km200 k200_7 ?_)
          refine V_mono (h3.2 c9) (fun u8 m8 h8 => ?_) (fun _ _ h => h)
          exact VL_norm km200 k200_3 h8
      · refine VL_norm km200 k200_5 (VL_at (al := [(0, vR 11 (283))]) (st := []) km200 k200_5 ?_)
        refine V_mono (h2.2 c11) (fun u10 m10 h10 => ?_) (fun _ _ h => h)
        exact VL_norm km200 k200_3 h10
    · refine VL_norm km188 k188_3 (VL_at (al := []) (st := []) km188 k188_3 ?_)
      refine VL_norm km188 k188_4 (VL_at (al := []) (st := [vI (n32 0)]) km188 k188_4 ?_)
      refine And.intro xrt20 ?_
      refine And.intro (fun _ => ?_) (fun c => absurd (by decide) c)
      refine VL_norm km200 k200_11 (VL_at (al := [(0, vR 11 (283))]) (st := []) km200 k200_11 ?_)
      refine V_of ?_
      refine VL_norm km188 k188_0 (VL_at (al := [(0, vR 11 (283)), (1, vI (n32 1))]) (st := []) km188 k188_0 ?_)
      refine And.intro (fun _ => ?_) (fun c => absurd c16 c)
      refine VL_norm km188 k188_1 (VL_at (al := [(0, vR 11 (283)), (1, vI (n32 1))]) (st := []) km188 k188_1 ?_)
      refine And.intro (fun c13 => ?_) (fun c13 => ?_)
      · refine VL_norm km188 k188_2 (VL_at (al := []) (st := []) km188 k188_2 ?_)
        refine VL_norm km188 k188_4 (VL_at (al := []) (st := [vI (n32 1)]) km188 k188_4 ?_)
        refine And.intro xrt21 ?_
        refine And.intro (fun c => absurd c (by decide)) (fun _ => ?_)
        refine VL_norm km200 k200_13 (VL_at (al := []) (st := []) km200 k200_13 ?_)
        exact (((h.1 c16).2 c14).1 c13)
      · refine VL_norm km188 k188_3 (VL_at (al := []) (st := []) km188 k188_3 ?_)
        refine VL_norm km188 k188_4 (VL_at (al := []) (st := [vI (n32 0)]) km188 k188_4 ?_)
        refine And.intro xrt20 ?_
        refine And.intro (fun _ => ?_) (fun c => absurd (by decide) c)
        refine VL_norm km200 k200_12 (VL_at (al := [(0, vR 11 (283))]) (st := []) km200 k200_12 ?_)
        refine V_mono (((h.1 c16).2 c14).2 c13) (fun u12 m12 h12 => ?_) (fun _ _ h => h)
        refine VL_norm km200 k200_13 (VL_at (al := []) (st := []) km200 k200_13 ?_)
        exact h12
  · refine VL_norm km188 k188_3 (VL_at (al := []) (st := []) km188 k188_3 ?_)
    refine VL_norm km188 k188_4 (VL_at (al := []) (st := [vI (n32 0)]) km188 k188_4 ?_)
    refine And.intro xrt20 ?_
    refine And.intro (fun _ => ?_) (fun c => absurd (by decide) c)
    refine VL_norm km200 k200_11 (VL_at (al := [(0, vR 11 (283))]) (st := []) km200 k200_11 ?_)
    refine V_of ?_
    refine VL_norm km188 k188_0 (VL_at (al := [(0, vR 11 (283)), (1, vI (n32 1))]) (st := []) km188 k188_0 ?_)
    refine And.intro (fun c => absurd c c16) (fun _ => ?_)
    refine VL_norm km188 k188_3 (VL_at (al := []) (st := []) km188 k188_3 ?_)
    refine VL_norm km188 k188_4 (VL_at (al := []) (st := [vI (n32 0)]) km188 k188_4 ?_)
    refine And.intro xrt20 ?_
    refine And.intro (fun _ => ?_) (fun c => absurd (by decide) c)
    refine VL_norm km200 k200_12 (VL_at (al := [(0, vR 11 (283))]) (st := []) km200 k200_12 ?_)
    refine V_mono (h.2 c16) (fun u15 m15 h15 => ?_) (fun _ _ h => h)
    refine VL_norm km200 k200_13 (VL_at (al := []) (st := []) km200 k200_13 ?_)
    exact h15
/-- BannerParadeModel.load, label 0 -/
theorem w201_0 {D : Nat} {v1 : Int32} {m : XM} {Q : Int32 → XM → Prop} {E : Nat → XM → Prop}
    (h : ((v1 < (n32 0) → VI (D + 6) 176 [vR 11 (283), vI (n32 0), vI (n32 1), vI (n32 1)] m (fun x1 m1 => ((x1 = (n32 0) → Q (n32 0) m1) ∧ (¬ x1 = (n32 0) → VU (D + 6) 178 [vR 200243 (284), vI (n32 0), vR 200243 (285), vI (n32 0)] (um (um (um (um (um m1 (283) 12 v1) (283) 13 (n32 0)) (283) 9 (n32 0)) (283) 10 (n32 0)) (283) 11 (-(n32 1))) (fun m2 => VLI (D + 7) 201 3 [(0, vR 11 (283)), (2, vI (n32 0))] [] m2 Q E) E))) E) ∧ (¬ v1 < (n32 0) → (((m 283 9) < v1 → VI (D + 6) 176 [vR 11 (283), vI (n32 0), vI (n32 1), vI (n32 1)] m (fun x4 m4 => ((x4 = (n32 0) → Q (n32 0) m4) ∧ (¬ x4 = (n32 0) → VU (D + 6) 178 [vR 200243 (284), vI (n32 0), vR 200243 (285), vI (n32 0)] (um (um (um (um (um m4 (283) 12 v1) (283) 13 (n32 0)) (283) 9 (n32 0)) (283) 10 (n32 0)) (283) 11 (-(n32 1))) (fun m5 => VLI (D + 7) 201 3 [(0, vR 11 (283)), (2, vI (n32 0))] [] m5 Q E) E))) E) ∧ (¬ (m 283 9) < v1 → VI (D + 6) 176 [vR 11 (283), vI (n32 1), vI (n32 1), vI (n32 1)] m (fun x7 m7 => ((x7 = (n32 0) → Q (n32 0) m7) ∧ (¬ x7 = (n32 0) → VU (D + 6) 178 [vR 200243 (284), vI (n32 0), vR 200243 (285), vI (n32 0)] (um (um (um (um (um m7 (283) 12 v1) (283) 13 (n32 0)) (283) 9 (n32 0)) (283) 10 (n32 0)) (283) 11 (-(n32 1))) (fun m8 => VLI (D + 7) 201 3 [(0, vR 11 (283)), (2, vI (n32 0))] [] m8 Q E) E))) E))))) :
    VI (D + 7) 201 [vR 11 (283), vI v1] m Q E := by
  refine V_of (VL_at (al := [(0, vR 11 (283)), (1, vI v1)]) (st := []) km201 k201_0 ?_)
  refine V_of ?_
  refine VL_norm km175 k175_0 (VL_at (al := [(0, vI v1), (1, vI (n32 0)), (2, vI (m 283 9))]) (st := []) km175 k175_0 ?_)
  refine And.intro (fun c11 => ?_) (fun c11 => ?_)
  · refine VL_norm km175 k175_3 (VL_at (al := []) (st := []) km175 k175_3 ?_)
    refine VL_norm km175 k175_4 (VL_at (al := []) (st := [vI (n32 0)]) km175 k175_4 ?_)
    refine And.intro xrt20 ?_
    refine V_mono (h.1 c11) (fun u1 m1 h1 => ?_) (fun _ _ h => h)
    refine And.intro (fun c3 => ?_) (fun c3 => ?_)
    · refine VL_norm km201 k201_1 (VL_at (al := []) (st := []) km201 k201_1 ?_)
      exact (h1.1 c3)
    · refine VL_norm km201 k201_2 (VL_at (al := [(0, vR 11 (283)), (1, vI v1)]) (st := []) km201 k201_2 ?_)
      refine V_mono (h1.2 c3) (fun u2 m2 h2 => ?_) (fun _ _ h => h)
      exact VL_norm km201 k201_3 h2
  · refine VL_norm km175 k175_1 (VL_at (al := [(0, vI v1), (2, vI (m 283 9))]) (st := []) km175 k175_1 ?_)
    refine And.intro (fun c10 => ?_) (fun c10 => ?_)
    · refine VL_norm km175 k175_3 (VL_at (al := []) (st := []) km175 k175_3 ?_)
      refine VL_norm km175 k175_4 (VL_at (al := []) (st := [vI (n32 0)]) km175 k175_4 ?_)
      refine And.intro xrt20 ?_
      refine V_mono ((h.2 c11).1 c10) (fun u4 m4 h4 => ?_) (fun _ _ h => h)
      refine And.intro (fun c6 => ?_) (fun c6 => ?_)
      · refine VL_norm km201 k201_1 (VL_at (al := []) (st := []) km201 k201_1 ?_)
        exact (h4.1 c6)
      · refine VL_norm km201 k201_2 (VL_at (al := [(0, vR 11 (283)), (1, vI v1)]) (st := []) km201 k201_2 ?_)
        refine V_mono (h4.2 c6) (fun u5 m5 h5 => ?_) (fun _ _ h => h)
        exact VL_norm km201 k201_3 h5
    · refine VL_norm km175 k175_2 (VL_at (al := []) (st := []) km175 k175_2 ?_)
      refine VL_norm km175 k175_4 (VL_at (al := []) (st := [vI (n32 1)]) km175 k175_4 ?_)
      refine And.intro xrt21 ?_
      refine V_mono ((h.2 c11).2 c10) (fun u7 m7 h7 => ?_) (fun _ _ h => h)
      refine And.intro (fun c9 => ?_) (fun c9 => ?_)
      · refine VL_norm km201 k201_1 (VL_at (al := []) (st := []) km201 k201_1 ?_)
        exact (h7.1 c9)
      · refine VL_norm km201 k201_2 (VL_at (al := [(0, vR 11 (283)), (1, vI v1)]) (st := []) km201 k201_2 ?_)
        refine V_mono (h7.2 c9) (fun u8 m8 h8 => ?_) (fun _ _ h => h)
        exact VL_norm km201 k201_3 h8
/-- BannerParadeModel.load, label 3 -/
theorem w201_3 {D : Nat} {v2 : Int32} {m : XM} {Q : Int32 → XM → Prop} {E : Nat → XM → Prop}
    (h : (((n32 243) ≤ v2 → VU (D + 6) 200 [vR 11 (283)] m (fun m1 => (((m1 283 10) ≤ (n32 0) → Q ((um (um (um (um m1 (283) 6 (n32 1)) (283) 7 (n32 0)) (288) (ix (n32 0)) (n32 0)) (288) (ix (n32 1)) (n32 0)) 284 (ix (n32 6))) (um (um (um (um m1 (283) 6 (n32 1)) (283) 7 (n32 0)) (288) (ix (n32 0)) (n32 0)) (288) (ix (n32 1)) (n32 0))) ∧ (¬ (m1 283 10) ≤ (n32 0) → VU (D + 6) 178 [vR 200243 (285), vI (n32 0), vR 200243 (284), vI (n32 0)] m1 (fun m2 => Q (n32 0) (um m2 (283) 0 (n32 2))) E))) E) ∧ (¬ (n32 243) ≤ v2 → (xin v2 243 = true ∧ VLI (D + 7) 201 3 [(0, vR 11 (283)), (2, vI (v2 + (n32 1)))] [] (um m (284) (ix v2) (n32 0)) Q E)))) :
    VLI (D + 7) 201 3 [(0, vR 11 (283)), (2, vI v2)] [] m Q E := by
  refine VL_at (al := [(0, vR 11 (283)), (2, vI v2)]) (st := []) km201 k201_3 ?_
  refine And.intro (fun c4 => ?_) (fun c4 => ?_)
  · refine VL_norm km201 k201_5 (VL_at (al := [(0, vR 11 (283))]) (st := []) km201 k201_5 ?_)
    refine V_mono (h.1 c4) (fun u1 m1 h1 => ?_) (fun _ _ h => h)
    refine And.intro (fun c3 => ?_) (fun c3 => ?_)
    · refine VL_norm km201 k201_7 (VL_at (al := [(0, vR 11 (283))]) (st := []) km201 k201_7 ?_)
      refine And.intro (Or.inr rfl) ?_
      refine And.intro (xin_k rfl) (And.intro (Or.inl rfl) ?_)
      refine And.intro (xin_k rfl) (And.intro (Or.inl rfl) ?_)
      refine And.intro (xin_k rfl) ?_
      exact (h1.1 c3)
    · refine VL_norm km201 k201_6 (VL_at (al := [(0, vR 11 (283))]) (st := []) km201 k201_6 ?_)
      refine V_mono (h1.2 c3) (fun u2 m2 h2 => ?_) (fun _ _ h => h)
      exact h2
  · refine VL_norm km201 k201_4 (VL_at (al := [(0, vR 11 (283)), (2, vI v2)]) (st := []) km201 k201_4 ?_)
    refine And.intro (h.2 c4).1 ?_
    exact VL_norm km201 k201_3 (h.2 c4).2
/-- BannerParadeModel.stride, label 0 -/
theorem w210_0 {D : Nat} {v1 : Int32} {m : XM} {Q : Int32 → XM → Prop} {E : Nat → XM → Prop}
    (h : (xin (((n32 15) + ((n32 7) * v1)) + (n32 2)) 243 = true ∧ (xin (((n32 15) + ((n32 7) * v1)) + (n32 4)) 243 = true ∧ ((FP.fmul ((FP.i2f (m 284 (ix (((n32 15) + ((n32 7) * v1)) + (n32 2)))))) ((FP.i2f (m 284 (ix (((n32 15) + ((n32 7) * v1)) + (n32 4))))))) &&& 0x7fffffff ≤ 0x7f800000 ∧ ((FP.fdiv (FP.fmul ((FP.i2f (m 284 (ix (((n32 15) + ((n32 7) * v1)) + (n32 2)))))) ((FP.i2f (m 284 (ix (((n32 15) + ((n32 7) * v1)) + (n32 4))))))) (UInt32.ofNat 1120403456)) &&& 0x7fffffff ≤ 0x7f800000 ∧ Q ((FP.f2i (FP.fdiv (FP.fmul ((FP.i2f (m 284 (ix (((n32 15) + ((n32 7) * v1)) + (n32 2)))))) ((FP.i2f (m 284 (ix (((n32 15) + ((n32 7) * v1)) + (n32 4))))))) (UInt32.ofNat 1120403456)))) m))))) :
    VI (D + 1) 210 [vR 11 (283), vI v1] m Q E := by
  refine V_of (VL_at (al := [(0, vR 11 (283)), (1, vI v1)]) (st := []) km210 k210_0 ?_)
  refine V_of ?_
  refine VL_norm km202 k202_0 (VL_at (al := [(0, vR 11 (283)), (1, vI v1), (2, vI (n32 2))]) (st := []) km202 k202_0 ?_)
  refine And.intro h.1 ?_
  refine V_of ?_
  refine VL_norm km202 k202_0 (VL_at (al := [(0, vR 11 (283)), (1, vI v1), (2, vI (n32 4))]) (st := []) km202 k202_0 ?_)
  refine And.intro h.2.1 ?_
  refine And.intro h.2.2.1 ?_
  refine And.intro h.2.2.2.1 ?_
  exact h.2.2.2.2
/-- BannerParadeModel.strengthens, label 0 -/
theorem w212_0 {D : Nat} {v1 : Int32} {v2 : Int32} {m : XM} {Q : XM → Prop} {E : Nat → XM → Prop}
    (h : (xin (((n32 15) + ((n32 7) * v1)) + (n32 4)) 243 = true ∧ VI D 386 [vI (n32 100), vI ((m 284 (ix (((n32 15) + ((n32 7) * v1)) + (n32 4)))) + v2)] m (fun x1 m1 => VI D 385 [vI (n32 0), vI x1] m1 (fun x2 m2 => Q (um m2 (284) (ix (((n32 15) + ((n32 7) * v1)) + (n32 4))) x2)) E) E)) :
    VU (D + 1) 212 [vR 11 (283), vI v1, vI v2] m Q E := by
  refine V_of (VL_at (al := [(0, vR 11 (283)), (1, vI v1), (2, vI v2)]) (st := []) km212 k212_0 ?_)
  refine V_of ?_
  refine VL_norm km202 k202_0 (VL_at (al := [(0, vR 11 (283)), (1, vI v1), (2, vI (n32 4))]) (st := []) km202 k202_0 ?_)
  refine And.intro h.1 ?_
  refine V_mono h.2 (fun u1 m1 h1 => ?_) (fun _ _ h => h)
  refine V_mono h1 (fun u2 m2 h2 => ?_) (fun _ _ h => h)
  refine V_of ?_
  refine VL_norm km203 k203_0 (VL_at (al := [(0, vR 11 (283)), (1, vI v1), (2, vI (n32 4)), (3, vI (xti u2))]) (st := []) km203 k203_0 ?_)
  refine And.intro h.1 ?_
  exact h2
/-- BannerParadeModel.drops, label 0 -/
theorem w213_0 {D : Nat} {v1 : Int32} {m : XM} {Q : XM → Prop} {E : Nat → XM → Prop}
    (h : (xin (((n32 15) + ((n32 7) * v1)) + (n32 0)) 243 = true ∧ (xin ((n32 207) + ((n32 3) * (m 284 (ix (n32 10))))) 243 = true ∧ (xin (((n32 15) + ((n32 7) * v1)) + (n32 1)) 243 = true ∧ (xin (((n32 207) + ((n32 3) * (m 284 (ix (n32 10))))) + (n32 1)) 243 = true ∧ (∀ μ1 : XM, μ1 = um (um m (284) (ix ((n32 207) + ((n32 3) * (m 284 (ix (n32 10)))))) (m 284 (ix (((n32 15) + ((n32 7) * v1)) + (n32 0))))) (284) (ix (((n32 207) + ((n32 3) * (m 284 (ix (n32 10))))) + (n32 1))) ((um m (284) (ix ((n32 207) + ((n32 3) * (m 284 (ix (n32 10)))))) (m 284 (ix (((n32 15) + ((n32 7) * v1)) + (n32 0))))) 284 (ix (((n32 15) + ((n32 7) * v1)) + (n32 1)))) → (xin (((n32 207) + ((n32 3) * (m 284 (ix (n32 10))))) + (n32 2)) 243 = true ∧ (∀ μ2 : XM, μ2 = um (um μ1 (284) (ix (((n32 207) + ((n32 3) * (m 284 (ix (n32 10))))) + (n32 2))) (μ1 284 (ix (n32 9)))) (284) (ix (n32 10)) (((um μ1 (284) (ix (((n32 207) + ((n32 3) * (m 284 (ix (n32 10))))) + (n32 2))) (μ1 284 (ix (n32 9)))) 284 (ix (n32 10))) + (n32 1)) → Q (um (um μ2 (284) (ix (n32 13)) ((μ2 284 (ix (n32 13))) + (n32 1))) (284) (ix (((n32 15) + ((n32 7) * v1)) + (n32 0))) (n32 0)))))))))) :
    VU (D + 1) 213 [vR 11 (283), vI v1] m Q E := by
  refine V_of (VL_at (al := [(0, vR 11 (283)), (1, vI v1)]) (st := []) km213 k213_0 ?_)
  refine And.intro (xin_k rfl) ?_
  refine V_of ?_
  refine VL_norm km202 k202_0 (VL_at (al := [(0, vR 11 (283)), (1, vI v1), (2, vI (n32 0))]) (st := []) km202 k202_0 ?_)
  refine And.intro h.1 ?_
  refine And.intro h.2.1 ?_
  refine V_of ?_
  refine VL_norm km202 k202_0 (VL_at (al := [(0, vR 11 (283)), (1, vI v1), (2, vI (n32 1))]) (st := []) km202 k202_0 ?_)
  refine And.intro h.2.2.1 ?_
  refine And.intro h.2.2.2.1 ?_
  refine And.intro (xin_k rfl) ?_
  refine And.intro (h.2.2.2.2 (um (um m (284) (ix ((n32 207) + ((n32 3) * (m 284 (ix (n32 10)))))) (m 284 (ix (((n32 15) + ((n32 7) * v1)) + (n32 0))))) (284) (ix (((n32 207) + ((n32 3) * (m 284 (ix (n32 10))))) + (n32 1))) ((um m (284) (ix ((n32 207) + ((n32 3) * (m 284 (ix (n32 10)))))) (m 284 (ix (((n32 15) + ((n32 7) * v1)) + (n32 0))))) 284 (ix (((n32 15) + ((n32 7) * v1)) + (n32 1))))) rfl).1 ?_
  refine And.intro (xin_k rfl) ?_
  refine And.intro (xin_k rfl) ?_
  refine And.intro (xin_k rfl) ?_
  refine And.intro (xin_k rfl) ?_
  refine V_of ?_
  refine VL_norm km203 k203_0 (VL_at (al := [(0, vR 11 (283)), (1, vI v1), (2, vI (n32 0)), (3, vI (n32 0))]) (st := []) km203 k203_0 ?_)
  refine And.intro h.1 ?_
  exact ((h.2.2.2.2 (um (um m (284) (ix ((n32 207) + ((n32 3) * (m 284 (ix (n32 10)))))) (m 284 (ix (((n32 15) + ((n32 7) * v1)) + (n32 0))))) (284) (ix (((n32 207) + ((n32 3) * (m 284 (ix (n32 10))))) + (n32 1))) ((um m (284) (ix ((n32 207) + ((n32 3) * (m 284 (ix (n32 10)))))) (m 284 (ix (((n32 15) + ((n32 7) * v1)) + (n32 0))))) 284 (ix (((n32 15) + ((n32 7) * v1)) + (n32 1))))) rfl).2 (um (um (um (um m (284) (ix ((n32 207) + ((n32 3) * (m 284 (ix (n32 10)))))) (m 284 (ix (((n32 15) + ((n32 7) * v1)) + (n32 0))))) (284) (ix (((n32 207) + ((n32 3) * (m 284 (ix (n32 10))))) + (n32 1))) ((um m (284) (ix ((n32 207) + ((n32 3) * (m 284 (ix (n32 10)))))) (m 284 (ix (((n32 15) + ((n32 7) * v1)) + (n32 0))))) 284 (ix (((n32 15) + ((n32 7) * v1)) + (n32 1))))) (284) (ix (((n32 207) + ((n32 3) * (m 284 (ix (n32 10))))) + (n32 2))) ((um (um m (284) (ix ((n32 207) + ((n32 3) * (m 284 (ix (n32 10)))))) (m 284 (ix (((n32 15) + ((n32 7) * v1)) + (n32 0))))) (284) (ix (((n32 207) + ((n32 3) * (m 284 (ix (n32 10))))) + (n32 1))) ((um m (284) (ix ((n32 207) + ((n32 3) * (m 284 (ix (n32 10)))))) (m 284 (ix (((n32 15) + ((n32 7) * v1)) + (n32 0))))) 284 (ix (((n32 15) + ((n32 7) * v1)) + (n32 1))))) 284 (ix (n32 9)))) (284) (ix (n32 10)) (((um (um (um m (284) (ix ((n32 207) + ((n32 3) * (m 284 (ix (n32 10)))))) (m 284 (ix (((n32 15) + ((n32 7) * v1)) + (n32 0))))) (284) (ix (((n32 207) + ((n32 3) * (m 284 (ix (n32 10))))) + (n32 1))) ((um m (284) (ix ((n32 207) + ((n32 3) * (m 284 (ix (n32 10)))))) (m 284 (ix (((n32 15) + ((n32 7) * v1)) + (n32 0))))) 284 (ix (((n32 15) + ((n32 7) * v1)) + (n32 1))))) (284) (ix (((n32 207) + ((n32 3) * (m 284 (ix (n32 10))))) + (n32 2))) ((um (um m (284) (ix ((n32 207) + ((n32 3) * (m 284 (ix (n32 10)))))) (m 284 (ix (((n32 15) + ((n32 7) * v1)) + (n32 0))))) (284) (ix (((n32 207) + ((n32 3) * (m 284 (ix (n32 10))))) + (n32 1))) ((um m (284) (ix ((n32 207) + ((n32 3) * (m 284 (ix (n32 10)))))) (m 284 (ix (((n32 15) + ((n32 7) * v1)) + (n32 0))))) 284 (ix (((n32 15) + ((n32 7) * v1)) + (n32 1))))) 284 (ix (n32 9)))) 284 (ix (n32 10))) + (n32 1))) rfl)
/-- BannerParadeModel.picks, label 0 -/
theorem w214_0 {D : Nat} {v1 : Int32} {v2 : Int32} {m : XM} {Q : XM → Prop} {E : Nat → XM → Prop}
    (h : (xin (((n32 207) + ((n32 3) * v2)) + (n32 0)) 243 = true ∧ (xin (((n32 15) + ((n32 7) * v1)) + (n32 0)) 243 = true ∧ (∀ μ1 : XM, μ1 = um (um m (284) (ix (((n32 15) + ((n32 7) * v1)) + (n32 0))) (m 284 (ix (((n32 207) + ((n32 3) * v2)) + (n32 0))))) (284) (ix (n32 10)) (((um m (284) (ix (((n32 15) + ((n32 7) * v1)) + (n32 0))) (m 284 (ix (((n32 207) + ((n32 3) * v2)) + (n32 0))))) 284 (ix (n32 10))) - (n32 1)) → VLU (D + 1) 214 1 [(0, vR 11 (283)), (3, vI ((n32 207) + ((n32 3) * v2)))] [] μ1 Q E)))) :
    VU (D + 1) 214 [vR 11 (283), vI v1, vI v2] m Q E := by
  refine V_of (VL_at (al := [(0, vR 11 (283)), (1, vI v1), (2, vI v2)]) (st := []) km214 k214_0 ?_)
  refine V_of ?_
  refine VL_norm km207 k207_0 (VL_at (al := [(0, vR 11 (283)), (1, vI v2), (2, vI (n32 0))]) (st := []) km207 k207_0 ?_)
  refine And.intro h.1 ?_
  refine V_of ?_
  refine VL_norm km203 k203_0 (VL_at (al := [(0, vR 11 (283)), (1, vI v1), (2, vI (n32 0)), (3, vI (m 284 (ix (((n32 207) + ((n32 3) * v2)) + (n32 0)))))]) (st := []) km203 k203_0 ?_)
  refine And.intro h.2.1 ?_
  refine And.intro (xin_k rfl) ?_
  refine And.intro (xin_k rfl) ?_
  exact VL_norm km214 k214_1 (h.2.2 (um (um m (284) (ix (((n32 15) + ((n32 7) * v1)) + (n32 0))) (m 284 (ix (((n32 207) + ((n32 3) * v2)) + (n32 0))))) (284) (ix (n32 10)) (((um m (284) (ix (((n32 15) + ((n32 7) * v1)) + (n32 0))) (m 284 (ix (((n32 207) + ((n32 3) * v2)) + (n32 0))))) 284 (ix (n32 10))) - (n32 1))) rfl)
/-- BannerParadeModel.picks, label 1 -/
theorem w214_1 {D : Nat} {v3 : Int32} {m : XM} {Q : XM → Prop} {E : Nat → XM → Prop}
    (h : ((((n32 207) + ((n32 3) * (m 284 (ix (n32 10))))) ≤ v3 → Q (um m (284) (ix (n32 14)) ((m 284 (ix (n32 14))) + (n32 1)))) ∧ (¬ ((n32 207) + ((n32 3) * (m 284 (ix (n32 10))))) ≤ v3 → (xin (v3 + (n32 3)) 243 = true ∧ (xin v3 243 = true ∧ VLU (D + 1) 214 1 [(0, vR 11 (283)), (3, vI (v3 + (n32 1)))] [] (um m (284) (ix v3) (m 284 (ix (v3 + (n32 3))))) Q E))))) :
    VLU (D + 1) 214 1 [(0, vR 11 (283)), (3, vI v3)] [] m Q E := by
  refine VL_at (al := [(0, vR 11 (283)), (3, vI v3)]) (st := []) km214 k214_1 ?_
  refine And.intro (xin_k rfl) ?_
  refine And.intro (fun c1 => ?_) (fun c1 => ?_)
  · refine VL_norm km214 k214_3 (VL_at (al := [(0, vR 11 (283))]) (st := []) km214 k214_3 ?_)
    refine And.intro (xin_k rfl) ?_
    refine And.intro (xin_k rfl) ?_
    exact (h.1 c1)
  · refine VL_norm km214 k214_2 (VL_at (al := [(0, vR 11 (283)), (3, vI v3)]) (st := []) km214 k214_2 ?_)
    refine And.intro (h.2 c1).1 ?_
    refine And.intro (h.2 c1).2.1 ?_
    exact VL_norm km214 k214_1 (h.2 c1).2.2
/-- BannerParadeModel.lyingIn, label 0 -/
theorem w215_0 {D : Nat} {v1 : Int32} {v2 : Int32} {m : XM} {Q : Int32 → XM → Prop} {E : Nat → XM → Prop}
    (h : VLI (D + 1) 215 1 [(0, vR 11 (283)), (1, vI v1), (2, vI v2), (3, vI (-(n32 1))), (4, vI (n32 0))] [] m Q E) :
    VI (D + 1) 215 [vR 11 (283), vI v1, vI v2] m Q E := by
  refine V_of (VL_at (al := [(0, vR 11 (283)), (1, vI v1), (2, vI v2)]) (st := []) km215 k215_0 ?_)
  exact VL_norm km215 k215_1 h
/-- BannerParadeModel.lyingIn, label 1 -/
theorem w215_1 {D : Nat} {v1 : Int32} {v2 : Int32} {v3 : Int32} {v4 : Int32} {m : XM} {Q : Int32 → XM → Prop} {E : Nat → XM → Prop}
    (h : (((m 284 (ix (n32 10))) ≤ v4 → Q v3 m) ∧ (¬ (m 284 (ix (n32 10))) ≤ v4 → (xin (((n32 207) + ((n32 3) * v4)) + (n32 1)) 243 = true ∧ (((m 284 (ix (((n32 207) + ((n32 3) * v4)) + (n32 1)))) < v1 → VLI (D + 1) 215 1 [(0, vR 11 (283)), (1, vI v1), (2, vI v2), (3, vI v3), (4, vI (v4 + (n32 1)))] [] m Q E) ∧ (¬ (m 284 (ix (((n32 207) + ((n32 3) * v4)) + (n32 1)))) < v1 → ((v2 < (m 284 (ix (((n32 207) + ((n32 3) * v4)) + (n32 1)))) → VLI (D + 1) 215 1 [(0, vR 11 (283)), (1, vI v1), (2, vI v2), (3, vI v3), (4, vI (v4 + (n32 1)))] [] m Q E) ∧ (¬ v2 < (m 284 (ix (((n32 207) + ((n32 3) * v4)) + (n32 1)))) → ((v3 = (-(n32 1)) → VLI (D + 1) 215 1 [(0, vR 11 (283)), (1, vI v1), (2, vI v2), (3, vI v4), (4, vI (v4 + (n32 1)))] [] m Q E) ∧ (¬ v3 = (-(n32 1)) → (xin (((n32 207) + ((n32 3) * v3)) + (n32 1)) 243 = true ∧ (((m 284 (ix (((n32 207) + ((n32 3) * v4)) + (n32 1)))) ≤ (m 284 (ix (((n32 207) + ((n32 3) * v3)) + (n32 1)))) → VLI (D + 1) 215 1 [(0, vR 11 (283)), (1, vI v1), (2, vI v2), (3, vI v3), (4, vI (v4 + (n32 1)))] [] m Q E) ∧ (¬ (m 284 (ix (((n32 207) + ((n32 3) * v4)) + (n32 1)))) ≤ (m 284 (ix (((n32 207) + ((n32 3) * v3)) + (n32 1)))) → VLI (D + 1) 215 1 [(0, vR 11 (283)), (1, vI v1), (2, vI v2), (3, vI v4), (4, vI (v4 + (n32 1)))] [] m Q E))))))))))))) :
    VLI (D + 1) 215 1 [(0, vR 11 (283)), (1, vI v1), (2, vI v2), (3, vI v3), (4, vI v4)] [] m Q E := by
  refine VL_at (al := [(0, vR 11 (283)), (1, vI v1), (2, vI v2), (3, vI v3), (4, vI v4)]) (st := []) km215 k215_1 ?_
  refine And.intro (xin_k rfl) ?_
  refine And.intro (fun c5 => ?_) (fun c5 => ?_)
  · refine VL_norm km215 k215_7 (VL_at (al := [(3, vI v3)]) (st := []) km215 k215_7 ?_)
    exact (h.1 c5)
  · refine VL_norm km215 k215_2 (VL_at (al := [(0, vR 11 (283)), (1, vI v1), (2, vI v2), (3, vI v3), (4, vI v4)]) (st := []) km215 k215_2 ?_)
    refine V_of ?_
    refine VL_norm km207 k207_0 (VL_at (al := [(0, vR 11 (283)), (1, vI v4), (2, vI (n32 1))]) (st := []) km207 k207_0 ?_)
    refine And.intro (h.2 c5).1 ?_
    refine V_of ?_
    refine VL_norm km175 k175_0 (VL_at (al := [(0, vI (m 284 (ix (((n32 207) + ((n32 3) * v4)) + (n32 1))))), (1, vI v1), (2, vI v2)]) (st := []) km175 k175_0 ?_)
    refine And.intro (fun c4 => ?_) (fun c4 => ?_)
    · refine VL_norm km175 k175_3 (VL_at (al := []) (st := []) km175 k175_3 ?_)
      refine VL_norm km175 k175_4 (VL_at (al := []) (st := [vI (n32 0)]) km175 k175_4 ?_)
      refine And.intro xrt20 ?_
      refine And.intro (fun _ => ?_) (fun c => absurd (by decide) c)
      refine VL_norm km215 k215_6 (VL_at (al := [(0, vR 11 (283)), (1, vI v1), (2, vI v2), (3, vI v3), (4, vI v4)]) (st := []) km215 k215_6 ?_)
      exact VL_norm km215 k215_1 ((h.2 c5).2.1 c4)
    · refine VL_norm km175 k175_1 (VL_at (al := [(0, vI (m 284 (ix (((n32 207) + ((n32 3) * v4)) + (n32 1))))), (2, vI v2)]) (st := []) km175 k175_1 ?_)
      refine And.intro (fun c3 => ?_) (fun c3 => ?_)
      · refine VL_norm km175 k175_3 (VL_at (al := []) (st := []) km175 k175_3 ?_)
        refine VL_norm km175 k175_4 (VL_at (al := []) (st := [vI (n32 0)]) km175 k175_4 ?_)
        refine And.intro xrt20 ?_
        refine And.intro (fun _ => ?_) (fun c => absurd (by decide) c)
        refine VL_norm km215 k215_6 (VL_at (al := [(0, vR 11 (283)), (1, vI v1), (2, vI v2), (3, vI v3), (4, vI v4)]) (st := []) km215 k215_6 ?_)
        exact VL_norm km215 k215_1 (((h.2 c5).2.2 c4).1 c3)
      · refine VL_norm km175 k175_2 (VL_at (al := []) (st := []) km175 k175_2 ?_)
        refine VL_norm km175 k175_4 (VL_at (al := []) (st := [vI (n32 1)]) km175 k175_4 ?_)
        refine And.intro xrt21 ?_
        refine And.intro (fun c => absurd c (by decide)) (fun _ => ?_)
        refine VL_norm km215 k215_3 (VL_at (al := [(0, vR 11 (283)), (1, vI v1), (2, vI v2), (3, vI v3), (4, vI v4)]) (st := []) km215 k215_3 ?_)
        refine And.intro (fun c2 => ?_) (fun c2 => ?_)
        · refine VL_norm km215 k215_5 (VL_at (al := [(0, vR 11 (283)), (1, vI v1), (2, vI v2), (4, vI v4)]) (st := []) km215 k215_5 ?_)
          refine VL_norm km215 k215_6 (VL_at (al := [(0, vR 11 (283)), (1, vI v1), (2, vI v2), (3, vI v4), (4, vI v4)]) (st := []) km215 k215_6 ?_)
          exact VL_norm km215 k215_1 ((((h.2 c5).2.2 c4).2 c3).1 c2)
        · refine VL_norm km215 k215_4 (VL_at (al := [(0, vR 11 (283)), (1, vI v1), (2, vI v2), (3, vI v3), (4, vI v4)]) (st := []) km215 k215_4 ?_)
          refine V_of ?_
          refine VL_norm km207 k207_0 (VL_at (al := [(0, vR 11 (283)), (1, vI v4), (2, vI (n32 1))]) (st := []) km207 k207_0 ?_)
          refine And.intro (h.2 c5).1 ?_
          refine V_of ?_
          refine VL_norm km207 k207_0 (VL_at (al := [(0, vR 11 (283)), (1, vI v3), (2, vI (n32 1))]) (st := []) km207 k207_0 ?_)
          refine And.intro ((((h.2 c5).2.2 c4).2 c3).2 c2).1 ?_
          refine And.intro (fun c1 => ?_) (fun c1 => ?_)
          · refine VL_norm km215 k215_6 (VL_at (al := [(0, vR 11 (283)), (1, vI v1), (2, vI v2), (3, vI v3), (4, vI v4)]) (st := []) km215 k215_6 ?_)
            exact VL_norm km215 k215_1 (((((h.2 c5).2.2 c4).2 c3).2 c2).2.1 c1)
          · refine VL_norm km215 k215_5 (VL_at (al := [(0, vR 11 (283)), (1, vI v1), (2, vI v2), (4, vI v4)]) (st := []) km215 k215_5 ?_)
            refine VL_norm km215 k215_6 (VL_at (al := [(0, vR 11 (283)), (1, vI v1), (2, vI v2), (3, vI v4), (4, vI v4)]) (st := []) km215 k215_6 ?_)
            exact VL_norm km215 k215_1 (((((h.2 c5).2.2 c4).2 c3).2 c2).2.2 c1)
/-- BannerParadeModel.maySwap, label 0 -/
theorem w216_0 {D : Nat} {v1 : Int32} {m : XM} {Q : Int32 → XM → Prop} {E : Nat → XM → Prop}
    (h : ((v1 < (n32 0) → Q (n32 0) m) ∧ (¬ v1 < (n32 0) → ((((m 284 (ix (n32 6))) - (n32 1)) < v1 → Q (n32 0) m) ∧ (¬ ((m 284 (ix (n32 6))) - (n32 1)) < v1 → (((v1 + (n32 1)) < (n32 0) → Q (n32 0) m) ∧ (¬ (v1 + (n32 1)) < (n32 0) → ((((m 284 (ix (n32 6))) - (n32 1)) < (v1 + (n32 1)) → Q (n32 0) m) ∧ (¬ ((m 284 (ix (n32 6))) - (n32 1)) < (v1 + (n32 1)) → (xin (((n32 15) + ((n32 7) * ((v1 + (n32 1)) - (n32 1)))) + (n32 1)) 243 = true ∧ (xin (((n32 15) + ((n32 7) * (v1 + (n32 1)))) + (n32 1)) 243 = true ∧ (((m 284 (ix (n32 5))) < ((m 284 (ix (((n32 15) + ((n32 7) * ((v1 + (n32 1)) - (n32 1)))) + (n32 1)))) - (m 284 (ix (((n32 15) + ((n32 7) * (v1 + (n32 1)))) + (n32 1))))) → Q (n32 0) m) ∧ (¬ (m 284 (ix (n32 5))) < ((m 284 (ix (((n32 15) + ((n32 7) * ((v1 + (n32 1)) - (n32 1)))) + (n32 1)))) - (m 284 (ix (((n32 15) + ((n32 7) * (v1 + (n32 1)))) + (n32 1))))) → (xin (((n32 15) + ((n32 7) * v1)) + (n32 4)) 243 = true ∧ (((m 284 (ix (((n32 15) + ((n32 7) * v1)) + (n32 4)))) ≤ (n32 0) → Q (n32 0) m) ∧ (¬ (m 284 (ix (((n32 15) + ((n32 7) * v1)) + (n32 4)))) ≤ (n32 0) → (xin (((n32 15) + ((n32 7) * (v1 + (n32 1)))) + (n32 4)) 243 = true ∧ (((m 284 (ix (((n32 15) + ((n32 7) * (v1 + (n32 1)))) + (n32 4)))) ≤ (n32 0) → Q (n32 0) m) ∧ (¬ (m 284 (ix (((n32 15) + ((n32 7) * (v1 + (n32 1)))) + (n32 4)))) ≤ (n32 0) → Q (n32 1) m))))))))))))))))))) :
    VI (D + 2) 216 [vR 11 (283), vI v1] m Q E := by
  refine V_of (VL_at (al := [(0, vR 11 (283)), (1, vI v1)]) (st := []) km216 k216_0 ?_)
  refine V_of ?_
  refine VL_norm km208 k208_0 (VL_at (al := [(0, vR 11 (283)), (1, vI v1)]) (st := []) km208 k208_0 ?_)
  refine And.intro (xin_k rfl) ?_
  refine V_of ?_
  refine VL_norm km175 k175_0 (VL_at (al := [(0, vI v1), (1, vI (n32 0)), (2, vI ((m 284 (ix (n32 6))) - (n32 1)))]) (st := []) km175 k175_0 ?_)
  refine And.intro (fun c7 => ?_) (fun c7 => ?_)
  · refine VL_norm km175 k175_3 (VL_at (al := []) (st := []) km175 k175_3 ?_)
    refine VL_norm km175 k175_4 (VL_at (al := []) (st := [vI (n32 0)]) km175 k175_4 ?_)
    refine And.intro xrt20 ?_
    refine And.intro xrt20 ?_
    refine And.intro (fun _ => ?_) (fun c => absurd (by decide) c)
    refine VL_norm km216 k216_3 (VL_at (al := [(0, vR 11 (283)), (1, vI v1)]) (st := []) km216 k216_3 ?_)
    refine VL_norm km216 k216_4 (VL_at (al := [(0, vR 11 (283)), (1, vI v1)]) (st := [vI (n32 0)]) km216 k216_4 ?_)
    refine And.intro (fun _ => ?_) (fun c => absurd (by decide) c)
    refine VL_norm km216 k216_9 (VL_at (al := []) (st := []) km216 k216_9 ?_)
    refine VL_norm km216 k216_10 (VL_at (al := []) (st := [vI (n32 0)]) km216 k216_10 ?_)
    refine And.intro xrt20 ?_
    exact (h.1 c7)
  · refine VL_norm km175 k175_1 (VL_at (al := [(0, vI v1), (2, vI ((m 284 (ix (n32 6))) - (n32 1)))]) (st := []) km175 k175_1 ?_)
    refine And.intro (fun c6 => ?_) (fun c6 => ?_)
    · refine VL_norm km175 k175_3 (VL_at (al := []) (st := []) km175 k175_3 ?_)
      refine VL_norm km175 k175_4 (VL_at (al := []) (st := [vI (n32 0)]) km175 k175_4 ?_)
      refine And.intro xrt20 ?_
      refine And.intro xrt20 ?_
      refine And.intro (fun _ => ?_) (fun c => absurd (by decide) c)
      refine VL_norm km216 k216_3 (VL_at (al := [(0, vR 11 (283)), (1, vI v1)]) (st := []) km216 k216_3 ?_)
      refine VL_norm km216 k216_4 (VL_at (al := [(0, vR 11 (283)), (1, vI v1)]) (st := [vI (n32 0)]) km216 k216_4 ?_)
      refine And.intro (fun _ => ?_) (fun c => absurd (by decide) c)
      refine VL_norm km216 k216_9 (VL_at (al := []) (st := []) km216 k216_9 ?_)
      refine VL_norm km216 k216_10 (VL_at (al := []) (st := [vI (n32 0)]) km216 k216_10 ?_)
      refine And.intro xrt20 ?_
      exact ((h.2 c7).1 c6)
    · refine VL_norm km175 k175_2 (VL_at (al := []) (st := []) km175 k175_2 ?_)
      refine VL_norm km175 k175_4 (VL_at (al := []) (st := [vI (n32 1)]) km175 k175_4 ?_)
      refine And.intro xrt21 ?_
      refine And.intro xrt21 ?_
      refine And.intro (fun c => absurd c (by decide)) (fun _ => ?_)
      refine VL_norm km216 k216_1 (VL_at (al := [(0, vR 11 (283)), (1, vI v1)]) (st := []) km216 k216_1 ?_)
      refine V_of ?_
      refine VL_norm km208 k208_0 (VL_at (al := [(0, vR 11 (283)), (1, vI (v1 + (n32 1)))]) (st := []) km208 k208_0 ?_)
      refine And.intro (xin_k rfl) ?_
      refine V_of ?_
      refine VL_norm km175 k175_0 (VL_at (al := [(0, vI (v1 + (n32 1))), (1, vI (n32 0)), (2, vI ((m 284 (ix (n32 6))) - (n32 1)))]) (st := []) km175 k175_0 ?_)
      refine And.intro (fun c5 => ?_) (fun c5 => ?_)
      · refine VL_norm km175 k175_3 (VL_at (al := []) (st := []) km175 k175_3 ?_)
        refine VL_norm km175 k175_4 (VL_at (al := []) (st := [vI (n32 0)]) km175 k175_4 ?_)
        refine And.intro xrt20 ?_
        refine And.intro xrt20 ?_
        refine And.intro (fun _ => ?_) (fun c => absurd (by decide) c)
        refine VL_norm km216 k216_3 (VL_at (al := [(0, vR 11 (283)), (1, vI v1)]) (st := []) km216 k216_3 ?_)
        refine VL_norm km216 k216_4 (VL_at (al := [(0, vR 11 (283)), (1, vI v1)]) (st := [vI (n32 0)]) km216 k216_4 ?_)
        refine And.intro (fun _ => ?_) (fun c => absurd (by decide) c)
        refine VL_norm km216 k216_9 (VL_at (al := []) (st := []) km216 k216_9 ?_)
        refine VL_norm km216 k216_10 (VL_at (al := []) (st := [vI (n32 0)]) km216 k216_10 ?_)
        refine And.intro xrt20 ?_
        exact (((h.2 c7).2 c6).1 c5)
      · refine VL_norm km175 k175_1 (VL_at (al := [(0, vI (v1 + (n32 1))), (2, vI ((m 284 (ix (n32 6))) - (n32 1)))]) (st := []) km175 k175_1 ?_)
        refine And.intro (fun c4 => ?_) (fun c4 => ?_)
        · refine VL_norm km175 k175_3 (VL_at (al := []) (st := []) km175 k175_3 ?_)
          refine VL_norm km175 k175_4 (VL_at (al := []) (st := [vI (n32 0)]) km175 k175_4 ?_)
          refine And.intro xrt20 ?_
          refine And.intro xrt20 ?_
          refine And.intro (fun _ => ?_) (fun c => absurd (by decide) c)
          refine VL_norm km216 k216_3 (VL_at (al := [(0, vR 11 (283)), (1, vI v1)]) (st := []) km216 k216_3 ?_)
          refine VL_norm km216 k216_4 (VL_at (al := [(0, vR 11 (283)), (1, vI v1)]) (st := [vI (n32 0)]) km216 k216_4 ?_)
          refine And.intro (fun _ => ?_) (fun c => absurd (by decide) c)
          refine VL_norm km216 k216_9 (VL_at (al := []) (st := []) km216 k216_9 ?_)
          refine VL_norm km216 k216_10 (VL_at (al := []) (st := [vI (n32 0)]) km216 k216_10 ?_)
          refine And.intro xrt20 ?_
          exact ((((h.2 c7).2 c6).2 c5).1 c4)
        · refine VL_norm km175 k175_2 (VL_at (al := []) (st := []) km175 k175_2 ?_)
          refine VL_norm km175 k175_4 (VL_at (al := []) (st := [vI (n32 1)]) km175 k175_4 ?_)
          refine And.intro xrt21 ?_
          refine And.intro xrt21 ?_
          refine And.intro (fun c => absurd c (by decide)) (fun _ => ?_)
          refine VL_norm km216 k216_2 (VL_at (al := [(0, vR 11 (283)), (1, vI v1)]) (st := []) km216 k216_2 ?_)
          refine VL_norm km216 k216_4 (VL_at (al := [(0, vR 11 (283)), (1, vI v1)]) (st := [vI (n32 1)]) km216 k216_4 ?_)
          refine And.intro (fun c => absurd c (by decide)) (fun _ => ?_)
          refine VL_norm km216 k216_5 (VL_at (al := [(0, vR 11 (283)), (1, vI v1)]) (st := []) km216 k216_5 ?_)
          refine V_of ?_
          refine VL_norm km211 k211_0 (VL_at (al := [(0, vR 11 (283)), (1, vI (v1 + (n32 1)))]) (st := []) km211 k211_0 ?_)
          refine V_of ?_
          refine VL_norm km202 k202_0 (VL_at (al := [(0, vR 11 (283)), (1, vI ((v1 + (n32 1)) - (n32 1))), (2, vI (n32 1))]) (st := []) km202 k202_0 ?_)
          refine And.intro ((((h.2 c7).2 c6).2 c5).2 c4).1 ?_
          refine V_of ?_
          refine VL_norm km202 k202_0 (VL_at (al := [(0, vR 11 (283)), (1, vI (v1 + (n32 1))), (2, vI (n32 1))]) (st := []) km202 k202_0 ?_)
          refine And.intro ((((h.2 c7).2 c6).2 c5).2 c4).2.1 ?_
          refine And.intro (xin_k rfl) ?_
          refine And.intro (fun c3 => ?_) (fun c3 => ?_)
          · refine VL_norm km216 k216_9 (VL_at (al := []) (st := []) km216 k216_9 ?_)
            refine VL_norm km216 k216_10 (VL_at (al := []) (st := [vI (n32 0)]) km216 k216_10 ?_)
            refine And.intro xrt20 ?_
            exact (((((h.2 c7).2 c6).2 c5).2 c4).2.2.1 c3)
          · refine VL_norm km216 k216_6 (VL_at (al := [(0, vR 11 (283)), (1, vI v1)]) (st := []) km216 k216_6 ?_)
            refine V_of ?_
            refine VL_norm km202 k202_0 (VL_at (al := [(0, vR 11 (283)), (1, vI v1), (2, vI (n32 4))]) (st := []) km202 k202_0 ?_)
            refine And.intro (((((h.2 c7).2 c6).2 c5).2 c4).2.2.2 c3).1 ?_
            refine And.intro (fun c2 => ?_) (fun c2 => ?_)
            · refine VL_norm km216 k216_9 (VL_at (al := []) (st := []) km216 k216_9 ?_)
              refine VL_norm km216 k216_10 (VL_at (al := []) (st := [vI (n32 0)]) km216 k216_10 ?_)
              refine And.intro xrt20 ?_
              exact ((((((h.2 c7).2 c6).2 c5).2 c4).2.2.2 c3).2.1 c2)
            · refine VL_norm km216 k216_7 (VL_at (al := [(0, vR 11 (283)), (1, vI v1)]) (st := []) km216 k216_7 ?_)
              refine V_of ?_
              refine VL_norm km202 k202_0 (VL_at (al := [(0, vR 11 (283)), (1, vI (v1 + (n32 1))), (2, vI (n32 4))]) (st := []) km202 k202_0 ?_)
              refine And.intro ((((((h.2 c7).2 c6).2 c5).2 c4).2.2.2 c3).2.2 c2).1 ?_
              refine And.intro (fun c1 => ?_) (fun c1 => ?_)
              · refine VL_norm km216 k216_9 (VL_at (al := []) (st := []) km216 k216_9 ?_)
                refine VL_norm km216 k216_10 (VL_at (al := []) (st := [vI (n32 0)]) km216 k216_10 ?_)
                refine And.intro xrt20 ?_
                exact (((((((h.2 c7).2 c6).2 c5).2 c4).2.2.2 c3).2.2 c2).2.1 c1)
              · refine VL_norm km216 k216_8 (VL_at (al := []) (st := []) km216 k216_8 ?_)
                refine VL_norm km216 k216_10 (VL_at (al := []) (st := [vI (n32 1)]) km216 k216_10 ?_)
                refine And.intro xrt21 ?_
                exact (((((((h.2 c7).2 c6).2 c5).2 c4).2.2.2 c3).2.2 c2).2.2 c1)
/-- BannerParadeModel.swaps, label 0 -/
theorem w218_0 {D : Nat} {v1 : Int32} {m : XM} {Q : XM → Prop} {E : Nat → XM → Prop}
    (h : (xin (((n32 15) + ((n32 7) * v1)) + (n32 0)) 243 = true ∧ (xin (((n32 15) + ((n32 7) * (v1 + (n32 1)))) + (n32 0)) 243 = true ∧ (∀ μ1 : XM, μ1 = um (um m (284) (ix (((n32 15) + ((n32 7) * v1)) + (n32 0))) (m 284 (ix (((n32 15) + ((n32 7) * (v1 + (n32 1)))) + (n32 0))))) (284) (ix (((n32 15) + ((n32 7) * (v1 + (n32 1)))) + (n32 0))) (m 284 (ix (((n32 15) + ((n32 7) * v1)) + (n32 0)))) → VU (D + 1) 212 [vR 11 (283), vI v1, vI (-(n32 2))] μ1 (fun m2 => VU (D + 1) 212 [vR 11 (283), vI (v1 + (n32 1)), vI (-(n32 2))] m2 (fun m3 => Q (um m3 (284) (ix (n32 11)) ((m3 284 (ix (n32 11))) + (n32 1)))) E) E)))) :
    VU (D + 2) 218 [vR 11 (283), vI v1] m Q E := by
  refine V_of (VL_at (al := [(0, vR 11 (283)), (1, vI v1)]) (st := []) km218 k218_0 ?_)
  refine V_of ?_
  refine VL_norm km217 k217_0 (VL_at (al := [(0, vR 11 (283)), (1, vI v1)]) (st := []) km217 k217_0 ?_)
  refine V_of ?_
  refine VL_norm km202 k202_0 (VL_at (al := [(0, vR 11 (283)), (1, vI v1), (2, vI (n32 0))]) (st := []) km202 k202_0 ?_)
  refine And.intro h.1 ?_
  refine V_of ?_
  refine VL_norm km202 k202_0 (VL_at (al := [(0, vR 11 (283)), (1, vI (v1 + (n32 1))), (2, vI (n32 0))]) (st := []) km202 k202_0 ?_)
  refine And.intro h.2.1 ?_
  refine V_of ?_
  refine VL_norm km203 k203_0 (VL_at (al := [(0, vR 11 (283)), (1, vI v1), (2, vI (n32 0)), (3, vI (m 284 (ix (((n32 15) + ((n32 7) * (v1 + (n32 1)))) + (n32 0)))))]) (st := []) km203 k203_0 ?_)
  refine And.intro h.1 ?_
  refine V_of ?_
  refine VL_norm km203 k203_0 (VL_at (al := [(0, vR 11 (283)), (1, vI (v1 + (n32 1))), (2, vI (n32 0)), (3, vI (m 284 (ix (((n32 15) + ((n32 7) * v1)) + (n32 0)))))]) (st := []) km203 k203_0 ?_)
  refine And.intro h.2.1 ?_
  refine V_mono (h.2.2 (um (um m (284) (ix (((n32 15) + ((n32 7) * v1)) + (n32 0))) (m 284 (ix (((n32 15) + ((n32 7) * (v1 + (n32 1)))) + (n32 0))))) (284) (ix (((n32 15) + ((n32 7) * (v1 + (n32 1)))) + (n32 0))) (m 284 (ix (((n32 15) + ((n32 7) * v1)) + (n32 0))))) rfl) (fun u2 m2 h2 => ?_) (fun _ _ h => h)
  refine V_mono h2 (fun u3 m3 h3 => ?_) (fun _ _ h => h)
  refine And.intro (xin_k rfl) ?_
  refine And.intro (xin_k rfl) ?_
  exact h3
/-- BannerParadeModel.sees, label 0 -/
theorem w219_0 {D : Nat} {v1 : Int32} {v2 : Int32} {m : XM} {Q : Int32 → XM → Prop} {E : Nat → XM → Prop}
    (h : (xin (((n32 15) + ((n32 7) * v2)) + (n32 0)) 243 = true ∧ (((m 284 (ix (((n32 15) + ((n32 7) * v2)) + (n32 0)))) ≤ (n32 0) → Q (n32 0) m) ∧ (¬ (m 284 (ix (((n32 15) + ((n32 7) * v2)) + (n32 0)))) ≤ (n32 0) → (xin (((n32 15) + ((n32 7) * v2)) + (n32 1)) 243 = true ∧ (xin (((n32 99) + ((n32 12) * v1)) + (n32 1)) 243 = true ∧ VI D 384 [vI ((m 284 (ix (((n32 15) + ((n32 7) * v2)) + (n32 1)))) - (m 284 (ix (((n32 99) + ((n32 12) * v1)) + (n32 1)))))] m (fun x1 m1 => (((m1 284 (ix (n32 1))) < x1 → Q (n32 0) m1) ∧ (¬ (m1 284 (ix (n32 1))) < x1 → Q (n32 1) m1))) E)))))) :
    VI (D + 1) 219 [vR 11 (283), vI v1, vI v2] m Q E := by
  refine V_of (VL_at (al := [(0, vR 11 (283)), (1, vI v1), (2, vI v2)]) (st := []) km219 k219_0 ?_)
  refine V_of ?_
  refine VL_norm km202 k202_0 (VL_at (al := [(0, vR 11 (283)), (1, vI v2), (2, vI (n32 0))]) (st := []) km202 k202_0 ?_)
  refine And.intro h.1 ?_
  refine And.intro (fun c3 => ?_) (fun c3 => ?_)
  · refine VL_norm km219 k219_3 (VL_at (al := []) (st := []) km219 k219_3 ?_)
    refine VL_norm km219 k219_4 (VL_at (al := []) (st := [vI (n32 0)]) km219 k219_4 ?_)
    refine And.intro xrt20 ?_
    exact (h.2.1 c3)
  · refine VL_norm km219 k219_1 (VL_at (al := [(0, vR 11 (283)), (1, vI v1), (2, vI v2)]) (st := []) km219 k219_1 ?_)
    refine V_of ?_
    refine VL_norm km202 k202_0 (VL_at (al := [(0, vR 11 (283)), (1, vI v2), (2, vI (n32 1))]) (st := []) km202 k202_0 ?_)
    refine And.intro (h.2.2 c3).1 ?_
    refine V_of ?_
    refine VL_norm km204 k204_0 (VL_at (al := [(0, vR 11 (283)), (1, vI v1), (2, vI (n32 1))]) (st := []) km204 k204_0 ?_)
    refine And.intro (h.2.2 c3).2.1 ?_
    refine V_mono (h.2.2 c3).2.2 (fun u1 m1 h1 => ?_) (fun _ _ h => h)
    refine And.intro (xin_k rfl) ?_
    refine And.intro (fun c2 => ?_) (fun c2 => ?_)
    · refine VL_norm km219 k219_3 (VL_at (al := []) (st := []) km219 k219_3 ?_)
      refine VL_norm km219 k219_4 (VL_at (al := []) (st := [vI (n32 0)]) km219 k219_4 ?_)
      refine And.intro xrt20 ?_
      exact (h1.1 c2)
    · refine VL_norm km219 k219_2 (VL_at (al := []) (st := []) km219 k219_2 ?_)
      refine VL_norm km219 k219_4 (VL_at (al := []) (st := [vI (n32 1)]) km219 k219_4 ?_)
      refine And.intro xrt21 ?_
      exact (h1.2 c2)
/-- BannerParadeModel.laysText, label 0 -/
theorem w220_0 {D : Nat} {v1 : Int32} {m : XM} {Q : XM → Prop} {E : Nat → XM → Prop}
    (h : VLU (D + 2) 220 1 [(0, vR 11 (283)), (1, vI v1), (2, vI ((um m (283) 18 (n32 0)) 284 (ix (n32 6)))), (3, vI (-(n32 1))), (4, vI (n32 0))] [] (um m (283) 18 (n32 0)) Q E) :
    VU (D + 2) 220 [vR 11 (283), vI v1] m Q E := by
  refine V_of (VL_at (al := [(0, vR 11 (283)), (1, vI v1)]) (st := []) km220 k220_0 ?_)
  refine And.intro (xin_k rfl) ?_
  exact VL_norm km220 k220_1 h
/-- BannerParadeModel.laysText, label 1 -/
theorem w220_1 {D : Nat} {v1 : Int32} {v2 : Int32} {v3 : Int32} {v4 : Int32} {m : XM} {Q : XM → Prop} {E : Nat → XM → Prop}
    (h : ((v2 ≤ v4 → Q m) ∧ (¬ v2 ≤ v4 → (xin (((n32 99) + ((n32 12) * v1)) + (n32 0)) 243 = true ∧ (((m 284 (ix (((n32 99) + ((n32 12) * v1)) + (n32 0)))) = (n32 0) → VI (D + 1) 219 [vR 11 (283), vI v1, vI v4] m (fun x1 m1 => ((x1 = (n32 0) → VLU (D + 2) 220 1 [(0, vR 11 (283)), (1, vI v1), (2, vI v2), (3, vI v3), (4, vI (v4 + (n32 1)))] [] m1 Q E) ∧ (¬ x1 = (n32 0) → ((v3 = (-(n32 1)) → (xin (((n32 15) + ((n32 7) * v4)) + (n32 0)) 243 = true ∧ (xin (m1 283 18) 24 = true ∧ (∀ μ2 : XM, μ2 = um (um m1 (290) (ix (m1 283 18)) ((n32 96) + (m1 284 (ix (((n32 15) + ((n32 7) * v4)) + (n32 0)))))) (283) 18 (((um m1 (290) (ix (m1 283 18)) ((n32 96) + (m1 284 (ix (((n32 15) + ((n32 7) * v4)) + (n32 0)))))) 283 18) + (n32 1)) → VLU (D + 2) 220 1 [(0, vR 11 (283)), (1, vI v1), (2, vI v2), (3, vI v4), (4, vI (v4 + (n32 1)))] [] μ2 Q E)))) ∧ (¬ v3 = (-(n32 1)) → (xin (((n32 15) + ((n32 7) * v3)) + (n32 1)) 243 = true ∧ (xin (((n32 15) + ((n32 7) * v4)) + (n32 1)) 243 = true ∧ VI (D + 1) 384 [vI ((m1 284 (ix (((n32 15) + ((n32 7) * v3)) + (n32 1)))) - (m1 284 (ix (((n32 15) + ((n32 7) * v4)) + (n32 1)))))] m1 (fun x3 m3 => ((x3 ≤ (m3 284 (ix (n32 2))) → (xin (((n32 15) + ((n32 7) * v4)) + (n32 0)) 243 = true ∧ (xin (m3 283 18) 24 = true ∧ (∀ μ4 : XM, μ4 = um (um m3 (290) (ix (m3 283 18)) ((n32 96) + (m3 284 (ix (((n32 15) + ((n32 7) * v4)) + (n32 0)))))) (283) 18 (((um m3 (290) (ix (m3 283 18)) ((n32 96) + (m3 284 (ix (((n32 15) + ((n32 7) * v4)) + (n32 0)))))) 283 18) + (n32 1)) → VLU (D + 2) 220 1 [(0, vR 11 (283)), (1, vI v1), (2, vI v2), (3, vI v4), (4, vI (v4 + (n32 1)))] [] μ4 Q E)))) ∧ (¬ x3 ≤ (m3 284 (ix (n32 2))) → (xin (m3 283 18) 24 = true ∧ (xin (((n32 15) + ((n32 7) * v4)) + (n32 0)) 243 = true ∧ (xin ((um (um m3 (290) (ix (m3 283 18)) (n32 32)) (283) 18 (((um m3 (290) (ix (m3 283 18)) (n32 32)) 283 18) + (n32 1))) 283 18) 24 = true ∧ (∀ μ5 : XM, μ5 = um (um (um m3 (290) (ix (m3 283 18)) (n32 32)) (283) 18 (((um m3 (290) (ix (m3 283 18)) (n32 32)) 283 18) + (n32 1))) (290) (ix ((um (um m3 (290) (ix (m3 283 18)) (n32 32)) (283) 18 (((um m3 (290) (ix (m3 283 18)) (n32 32)) 283 18) + (n32 1))) 283 18)) ((n32 96) + ((um (um m3 (290) (ix (m3 283 18)) (n32 32)) (283) 18 (((um m3 (290) (ix (m3 283 18)) (n32 32)) 283 18) + (n32 1))) 284 (ix (((n32 15) + ((n32 7) * v4)) + (n32 0))))) → VLU (D + 2) 220 1 [(0, vR 11 (283)), (1, vI v1), (2, vI v2), (3, vI v4), (4, vI (v4 + (n32 1)))] [] (um μ5 (283) 18 ((μ5 283 18) + (n32 1))) Q E))))))) E))))))) E) ∧ (¬ (m 284 (ix (((n32 99) + ((n32 12) * v1)) + (n32 0)))) = (n32 0) → VI (D + 1) 219 [vR 11 (283), vI v1, vI ((v2 - (n32 1)) - v4)] m (fun x9 m9 => ((x9 = (n32 0) → VLU (D + 2) 220 1 [(0, vR 11 (283)), (1, vI v1), (2, vI v2), (3, vI v3), (4, vI (v4 + (n32 1)))] [] m9 Q E) ∧ (¬ x9 = (n32 0) → ((v3 = (-(n32 1)) → (xin (((n32 15) + ((n32 7) * ((v2 - (n32 1)) - v4))) + (n32 0)) 243 = true ∧ (xin (m9 283 18) 24 = true ∧ (∀ μ10 : XM, μ10 = um (um m9 (290) (ix (m9 283 18)) ((n32 96) + (m9 284 (ix (((n32 15) + ((n32 7) * ((v2 - (n32 1)) - v4))) + (n32 0)))))) (283) 18 (((um m9 (290) (ix (m9 283 18)) ((n32 96) + (m9 284 (ix (((n32 15) + ((n32 7) * ((v2 - (n32 1)) - v4))) + (n32 0)))))) 283 18) + (n32 1)) → VLU (D + 2) 220 1 [(0, vR 11 (283)), (1, vI v1), (2, vI v2), (3, vI ((v2 - (n32 1)) - v4)), (4, vI (v4 + (n32 1)))] [] μ10 Q E)))) ∧ (¬ v3 = (-(n32 1)) → (xin (((n32 15) + ((n32 7) * v3)) + (n32 1)) 243 = true ∧ (xin (((n32 15) + ((n32 7) * ((v2 - (n32 1)) - v4))) + (n32 1)) 243 = true ∧ VI (D + 1) 384 [vI ((m9 284 (ix (((n32 15) + ((n32 7) * v3)) + (n32 1)))) - (m9 284 (ix (((n32 15) + ((n32 7) * ((v2 - (n32 1)) - v4))) + (n32 1)))))] m9 (fun x11 m11 => ((x11 ≤ (m11 284 (ix (n32 2))) → (xin (((n32 15) + ((n32 7) * ((v2 - (n32 1)) - v4))) + (n32 0)) 243 = true ∧ (xin (m11 283 18) 24 = true ∧ (∀ μ12 : XM, μ12 = um (um m11 (290) (ix (m11 283 18)) ((n32 96) + (m11 284 (ix (((n32 15) + ((n32 7) * ((v2 - (n32 1)) - v4))) + (n32 0)))))) (283) 18 (((um m11 (290) (ix (m11 283 18)) ((n32 96) + (m11 284 (ix (((n32 15) + ((n32 7) * ((v2 - (n32 1)) - v4))) + (n32 0)))))) 283 18) + (n32 1)) → VLU (D + 2) 220 1 [(0, vR 11 (283)), (1, vI v1), (2, vI v2), (3, vI ((v2 - (n32 1)) - v4)), (4, vI (v4 + (n32 1)))] [] μ12 Q E)))) ∧ (¬ x11 ≤ (m11 284 (ix (n32 2))) → (xin (m11 283 18) 24 = true ∧ (xin (((n32 15) + ((n32 7) * ((v2 - (n32 1)) - v4))) + (n32 0)) 243 = true ∧ (xin ((um (um m11 (290) (ix (m11 283 18)) (n32 32)) (283) 18 (((um m11 (290) (ix (m11 283 18)) (n32 32)) 283 18) + (n32 1))) 283 18) 24 = true ∧ (∀ μ13 : XM, μ13 = um (um (um m11 (290) (ix (m11 283 18)) (n32 32)) (283) 18 (((um m11 (290) (ix (m11 283 18)) (n32 32)) 283 18) + (n32 1))) (290) (ix ((um (um m11 (290) (ix (m11 283 18)) (n32 32)) (283) 18 (((um m11 (290) (ix (m11 283 18)) (n32 32)) 283 18) + (n32 1))) 283 18)) ((n32 96) + ((um (um m11 (290) (ix (m11 283 18)) (n32 32)) (283) 18 (((um m11 (290) (ix (m11 283 18)) (n32 32)) 283 18) + (n32 1))) 284 (ix (((n32 15) + ((n32 7) * ((v2 - (n32 1)) - v4))) + (n32 0))))) → VLU (D + 2) 220 1 [(0, vR 11 (283)), (1, vI v1), (2, vI v2), (3, vI ((v2 - (n32 1)) - v4)), (4, vI (v4 + (n32 1)))] [] (um μ13 (283) 18 ((μ13 283 18) + (n32 1))) Q E))))))) E))))))) E)))))) :
    VLU (D + 2) 220 1 [(0, vR 11 (283)), (1, vI v1), (2, vI v2), (3, vI v3), (4, vI v4)] [] m Q E := by
  refine VL_at (al := [(0, vR 11 (283)), (1, vI v1), (2, vI v2), (3, vI v3), (4, vI v4)]) (st := []) km220 k220_1 ?_
  refine And.intro (fun c18 => ?_) (fun c18 => ?_)
  · refine VL_norm km220 k220_12 (VL_at (al := []) (st := []) km220 k220_12 ?_)
    exact (h.1 c18)
  · refine VL_norm km220 k220_2 (VL_at (al := [(0, vR 11 (283)), (1, vI v1), (2, vI v2), (3, vI v3), (4, vI v4)]) (st := []) km220 k220_2 ?_)
    refine V_of ?_
    refine VL_norm km204 k204_0 (VL_at (al := [(0, vR 11 (283)), (1, vI v1), (2, vI (n32 0))]) (st := []) km204 k204_0 ?_)
    refine And.intro (h.2 c18).1 ?_
    refine And.intro (fun c17 => ?_) (fun c17 => ?_)
    · refine VL_norm km220 k220_3 (VL_at (al := [(0, vR 11 (283)), (1, vI v1), (2, vI v2), (3, vI v3), (4, vI v4)]) (st := []) km220 k220_3 ?_)
      refine VL_norm km220 k220_5 (VL_at (al := [(0, vR 11 (283)), (1, vI v1), (2, vI v2), (3, vI v3), (4, vI v4)]) (st := [vI v4]) km220 k220_5 ?_)
      refine V_mono ((h.2 c18).2.1 c17) (fun u1 m1 h1 => ?_) (fun _ _ h => h)
      refine And.intro (fun c8 => ?_) (fun c8 => ?_)
      · refine VL_norm km220 k220_6 (VL_at (al := [(0, vR 11 (283)), (1, vI v1), (2, vI v2), (3, vI v3), (4, vI v4)]) (st := []) km220 k220_6 ?_)
        refine VL_norm km220 k220_11 (VL_at (al := [(0, vR 11 (283)), (1, vI v1), (2, vI v2), (3, vI v3), (4, vI v4)]) (st := []) km220 k220_11 ?_)
        exact VL_norm km220 k220_1 (h1.1 c8)
      · refine VL_norm km220 k220_7 (VL_at (al := [(0, vR 11 (283)), (1, vI v1), (2, vI v2), (3, vI v3), (4, vI v4), (5, vI v4)]) (st := []) km220 k220_7 ?_)
        refine And.intro (fun c7 => ?_) (fun c7 => ?_)
        · refine VL_norm km220 k220_10 (VL_at (al := [(0, vR 11 (283)), (1, vI v1), (2, vI v2), (4, vI v4), (5, vI v4)]) (st := []) km220 k220_10 ?_)
          refine V_of ?_
          refine VL_norm km202 k202_0 (VL_at (al := [(0, vR 11 (283)), (1, vI v4), (2, vI (n32 0))]) (st := []) km202 k202_0 ?_)
          refine And.intro ((h1.2 c8).1 c7).1 ?_
          refine V_of ?_
          refine VL_norm km221 k221_0 (VL_at (al := [(0, vR 11 (283)), (1, vI ((n32 96) + (m1 284 (ix (((n32 15) + ((n32 7) * v4)) + (n32 0))))))]) (st := []) km221 k221_0 ?_)
          refine And.intro ((h1.2 c8).1 c7).2.1 ?_
          refine VL_norm km220 k220_11 (VL_at (al := [(0, vR 11 (283)), (1, vI v1), (2, vI v2), (3, vI v4), (4, vI v4)]) (st := []) km220 k220_11 ?_)
          exact VL_norm km220 k220_1 (((h1.2 c8).1 c7).2.2 (um (um m1 (290) (ix (m1 283 18)) ((n32 96) + (m1 284 (ix (((n32 15) + ((n32 7) * v4)) + (n32 0)))))) (283) 18 (((um m1 (290) (ix (m1 283 18)) ((n32 96) + (m1 284 (ix (((n32 15) + ((n32 7) * v4)) + (n32 0)))))) 283 18) + (n32 1))) rfl)
        · refine VL_norm km220 k220_8 (VL_at (al := [(0, vR 11 (283)), (1, vI v1), (2, vI v2), (3, vI v3), (4, vI v4), (5, vI v4)]) (st := []) km220 k220_8 ?_)
          refine V_of ?_
          refine VL_norm km202 k202_0 (VL_at (al := [(0, vR 11 (283)), (1, vI v3), (2, vI (n32 1))]) (st := []) km202 k202_0 ?_)
          refine And.intro ((h1.2 c8).2 c7).1 ?_
          refine V_of ?_
          refine VL_norm km202 k202_0 (VL_at (al := [(0, vR 11 (283)), (1, vI v4), (2, vI (n32 1))]) (st := []) km202 k202_0 ?_)
          refine And.intro ((h1.2 c8).2 c7).2.1 ?_
          refine V_mono ((h1.2 c8).2 c7).2.2 (fun u3 m3 h3 => ?_) (fun _ _ h => h)
          refine And.intro (xin_k rfl) ?_
          refine And.intro (fun c6 => ?_) (fun c6 => ?_)
          · refine VL_norm km220 k220_10 (VL_at (al := [(0, vR 11 (283)), (1, vI v1), (2, vI v2), (4, vI v4), (5, vI v4)]) (st := []) km220 k220_10 ?_)
            refine V_of ?_
            refine VL_norm km202 k202_0 (VL_at (al := [(0, vR 11 (283)), (1, vI v4), (2, vI (n32 0))]) (st := []) km202 k202_0 ?_)
            refine And.intro (h3.1 c6).1 ?_
            refine V_of ?_
            refine VL_norm km221 k221_0 (VL_at (al := [(0, vR 11 (283)), (1, vI ((n32 96) + (m3 284 (ix (((n32 15) + ((n32 7) * v4)) + (n32 0))))))]) (st := []) km221 k221_0 ?_)
            refine And.intro (h3.1 c6).2.1 ?_
            refine VL_norm km220 k220_11 (VL_at (al := [(0, vR 11 (283)), (1, vI v1), (2, vI v2), (3, vI v4), (4, vI v4)]) (st := []) km220 k220_11 ?_)
            exact VL_norm km220 k220_1 ((h3.1 c6).2.2 (um (um m3 (290) (ix (m3 283 18)) ((n32 96) + (m3 284 (ix (((n32 15) + ((n32 7) * v4)) + (n32 0)))))) (283) 18 (((um m3 (290) (ix (m3 283 18)) ((n32 96) + (m3 284 (ix (((n32 15) + ((n32 7) * v4)) + (n32 0)))))) 283 18) + (n32 1))) rfl)
          · refine VL_norm km220 k220_9 (VL_at (al := [(0, vR 11 (283)), (1, vI v1), (2, vI v2), (4, vI v4), (5, vI v4)]) (st := []) km220 k220_9 ?_)
            refine V_of ?_
            refine VL_norm km221 k221_0 (VL_at (al := [(0, vR 11 (283)), (1, vI (n32 32))]) (st := []) km221 k221_0 ?_)
            refine And.intro (h3.2 c6).1 ?_
            refine VL_norm km220 k220_10 (VL_at (al := [(0, vR 11 (283)), (1, vI v1), (2, vI v2), (4, vI v4), (5, vI v4)]) (st := []) km220 k220_10 ?_)
            refine V_of ?_
            refine VL_norm km202 k202_0 (VL_at (al := [(0, vR 11 (283)), (1, vI v4), (2, vI (n32 0))]) (st := []) km202 k202_0 ?_)
            refine And.intro (h3.2 c6).2.1 ?_
            refine V_of ?_
            refine VL_norm km221 k221_0 (VL_at (al := [(0, vR 11 (283)), (1, vI ((n32 96) + ((um (um m3 (290) (ix (m3 283 18)) (n32 32)) (283) 18 (((um m3 (290) (ix (m3 283 18)) (n32 32)) 283 18) + (n32 1))) 284 (ix (((n32 15) + ((n32 7) * v4)) + (n32 0))))))]) (st := []) km221 k221_0 ?_)
            refine And.intro (h3.2 c6).2.2.1 ?_
            refine VL_norm km220 k220_11 (VL_at (al := [(0, vR 11 (283)), (1, vI v1), (2, vI v2), (3, vI v4), (4, vI v4)]) (st := []) km220 k220_11 ?_)
            exact VL_norm km220 k220_1 ((h3.2 c6).2.2.2 (um (um (um m3 (290) (ix (m3 283 18)) (n32 32)) (283) 18 (((um m3 (290) (ix (m3 283 18)) (n32 32)) 283 18) + (n32 1))) (290) (ix ((um (um m3 (290) (ix (m3 283 18)) (n32 32)) (283) 18 (((um m3 (290) (ix (m3 283 18)) (n32 32)) 283 18) + (n32 1))) 283 18)) ((n32 96) + ((um (um m3 (290) (ix (m3 283 18)) (n32 32)) (283) 18 (((um m3 (290) (ix (m3 283 18)) (n32 32)) 283 18) + (n32 1))) 284 (ix (((n32 15) + ((n32 7) * v4)) + (n32 0)))))) rfl)
    · refine VL_norm km220 k220_4 (VL_at (al := [(0, vR 11 (283)), (1, vI v1), (2, vI v2), (3, vI v3), (4, vI v4)]) (st := []) km220 k220_4 ?_)
      refine VL_norm km220 k220_5 (VL_at (al := [(0, vR 11 (283)), (1, vI v1), (2, vI v2), (3, vI v3), (4, vI v4)]) (st := [vI ((v2 - (n32 1)) - v4)]) km220 k220_5 ?_)
      refine V_mono ((h.2 c18).2.2 c17) (fun u9 m9 h9 => ?_) (fun _ _ h => h)
      refine And.intro (fun c16 => ?_) (fun c16 => ?_)
      · refine VL_norm km220 k220_6 (VL_at (al := [(0, vR 11 (283)), (1, vI v1), (2, vI v2), (3, vI v3), (4, vI v4)]) (st := []) km220 k220_6 ?_)
        refine VL_norm km220 k220_11 (VL_at (al := [(0, vR 11 (283)), (1, vI v1), (2, vI v2), (3, vI v3), (4, vI v4)]) (st := []) km220 k220_11 ?_)
        exact VL_norm km220 k220_1 (h9.1 c16)
      · refine VL_norm km220 k220_7 (VL_at (al := [(0, vR 11 (283)), (1, vI v1), (2, vI v2), (3, vI v3), (4, vI v4), (5, vI ((v2 - (n32 1)) - v4))]) (st := []) km220 k220_7 ?_)
        refine And.intro (fun c15 => ?_) (fun c15 => ?_)
        · refine VL_norm km220 k220_10 (VL_at (al := [(0, vR 11 (283)), (1, vI v1), (2, vI v2), (4, vI v4), (5, vI ((v2 - (n32 1)) - v4))]) (st := []) km220 k220_10 ?_)
          refine V_of ?_
          refine VL_norm km202 k202_0 (VL_at (al := [(0, vR 11 (283)), (1, vI ((v2 - (n32 1)) - v4)), (2, vI (n32 0))]) (st := []) km202 k202_0 ?_)
          refine And.intro ((h9.2 c16).1 c15).1 ?_
          refine V_of ?_
          refine VL_norm km221 k221_0 (VL_at (al := [(0, vR 11 (283)), (1, vI ((n32 96) + (m9 284 (ix (((n32 15) + ((n32 7) * ((v2 - (n32 1)) - v4))) + (n32 0))))))]) (st := []) km221 k221_0 ?_)
          refine And.intro ((h9.2 c16).1 c15).2.1 ?_
          refine VL_norm km220 k220_11 (VL_at (al := [(0, vR 11 (283)), (1, vI v1), (2, vI v2), (3, vI ((v2 - (n32 1)) - v4)), (4, vI v4)]) (st := []) km220 k220_11 ?_)
          exact VL_norm km220 k220_1 (((h9.2 c16).1 c15).2.2 (um (um m9 (290) (ix (m9 283 18)) ((n32 96) + (m9 284 (ix (((n32 15) + ((n32 7) * ((v2 - (n32 1)) - v4))) + (n32 0)))))) (283) 18 (((um m9 (290) (ix (m9 283 18)) ((n32 96) + (m9 284 (ix (((n32 15) + ((n32 7) * ((v2 - (n32 1)) - v4))) + (n32 0)))))) 283 18) + (n32 1))) rfl)
        · refine VL_norm km220 k220_8 (VL_at (al := [(0, vR 11 (283)), (1, vI v1), (2, vI v2), (3, vI v3), (4, vI v4), (5, vI ((v2 - (n32 1)) - v4))]) (st := []) km220 k220_8 ?_)
          refine V_of ?_
          refine VL_norm km202 k202_0 (VL_at (al := [(0, vR 11 (283)), (1, vI v3), (2, vI (n32 1))]) (st := []) km202 k202_0 ?_)
          refine And.intro ((h9.2 c16).2 c15).1 ?_
          refine V_of ?_
          refine VL_norm km202 k202_0 (VL_at (al := [(0, vR 11 (283)), (1, vI ((v2 - (n32 1)) - v4)), (2, vI (n32 1))]) (st := []) km202 k202_0 ?_)
          refine And.intro ((h9.2 c16).2 c15).2.1 ?_
          refine V_mono ((h9.2 c16).2 c15).2.2 (fun u11 m11 h11 => ?_) (fun _ _ h => h)
          refine And.intro (xin_k rfl) ?_
          refine And.intro (fun c14 => ?_) (fun c14 => ?_)
          · refine VL_norm km220 k220_10 (VL_at (al := [(0, vR 11 (283)), (1, vI v1), (2, vI v2), (4, vI v4), (5, vI ((v2 - (n32 1)) - v4))]) (st := []) km220 k220_10 ?_)
            refine V_of ?_
            refine VL_norm km202 k202_0 (VL_at (al := [(0, vR 11 (283)), (1, vI ((v2 - (n32 1)) - v4)), (2, vI (n32 0))]) (st := []) km202 k202_0 ?_)
            refine And.intro (h11.1 c14).1 ?_
            refine V_of ?_
            refine VL_norm km221 k221_0 (VL_at (al := [(0, vR 11 (283)), (1, vI ((n32 96) + (m11 284 (ix (((n32 15) + ((n32 7) * ((v2 - (n32 1)) - v4))) + (n32 0))))))]) (st := []) km221 k221_0 ?_)
            refine And.intro (h11.1 c14).2.1 ?_
            refine VL_norm km220 k220_11 (VL_at (al := [(0, vR 11 (283)), (1, vI v1), (2, vI v2), (3, vI ((v2 - (n32 1)) - v4)), (4, vI v4)]) (st := []) km220 k220_11 ?_)
            exact VL_norm km220 k220_1 ((h11.1 c14).2.2 (um (um m11 (290) (ix (m11 283 18)) ((n32 96) + (m11 284 (ix (((n32 15) + ((n32 7) * ((v2 - (n32 1)) - v4))) + (n32 0)))))) (283) 18 (((um m11 (290) (ix (m11 283 18)) ((n32 96) + (m11 284 (ix (((n32 15) + ((n32 7) * ((v2 - (n32 1)) - v4))) + (n32 0)))))) 283 18) + (n32 1))) rfl)
          · refine VL_norm km220 k220_9 (VL_at (al := [(0, vR 11 (283)), (1, vI v1), (2, vI v2), (4, vI v4), (5, vI ((v2 - (n32 1)) - v4))]) (st := []) km220 k220_9 ?_)
            refine V_of ?_
            refine VL_norm km221 k221_0 (VL_at (al := [(0, vR 11 (283)), (1, vI (n32 32))]) (st := []) km221 k221_0 ?_)
            refine And.intro (h11.2 c14).1 ?_
            refine VL_norm km220 k220_10 (VL_at (al := [(0, vR 11 (283)), (1, vI v1), (2, vI v2), (4, vI v4), (5, vI ((v2 - (n32 1)) - v4))]) (st := []) km220 k220_10 ?_)
            refine V_of ?_
            refine VL_norm km202 k202_0 (VL_at (al := [(0, vR 11 (283)), (1, vI ((v2 - (n32 1)) - v4)), (2, vI (n32 0))]) (st := []) km202 k202_0 ?_)
            refine And.intro (h11.2 c14).2.1 ?_
            refine V_of ?_
            refine VL_norm km221 k221_0 (VL_at (al := [(0, vR 11 (283)), (1, vI ((n32 96) + ((um (um m11 (290) (ix (m11 283 18)) (n32 32)) (283) 18 (((um m11 (290) (ix (m11 283 18)) (n32 32)) 283 18) + (n32 1))) 284 (ix (((n32 15) + ((n32 7) * ((v2 - (n32 1)) - v4))) + (n32 0))))))]) (st := []) km221 k221_0 ?_)
            refine And.intro (h11.2 c14).2.2.1 ?_
            refine VL_norm km220 k220_11 (VL_at (al := [(0, vR 11 (283)), (1, vI v1), (2, vI v2), (3, vI ((v2 - (n32 1)) - v4)), (4, vI v4)]) (st := []) km220 k220_11 ?_)
            exact VL_norm km220 k220_1 ((h11.2 c14).2.2.2 (um (um (um m11 (290) (ix (m11 283 18)) (n32 32)) (283) 18 (((um m11 (290) (ix (m11 283 18)) (n32 32)) 283 18) + (n32 1))) (290) (ix ((um (um m11 (290) (ix (m11 283 18)) (n32 32)) (283) 18 (((um m11 (290) (ix (m11 283 18)) (n32 32)) 283 18) + (n32 1))) 283 18)) ((n32 96) + ((um (um m11 (290) (ix (m11 283 18)) (n32 32)) (283) 18 (((um m11 (290) (ix (m11 283 18)) (n32 32)) 283 18) + (n32 1))) 284 (ix (((n32 15) + ((n32 7) * ((v2 - (n32 1)) - v4))) + (n32 0)))))) rfl)
/-- BannerParadeModel.matching, label 0 -/
theorem w222_0 {D : Nat} {v1 : Int32} {m : XM} {Q : Int32 → XM → Prop} {E : Nat → XM → Prop}
    (h : VU (D + 2) 220 [vR 11 (283), vI v1] m (fun m1 => VLI (D + 3) 222 1 [(0, vR 11 (283)), (1, vI v1), (2, vI (n32 0)), (3, vI (n32 0))] [] m1 Q E) E) :
    VI (D + 3) 222 [vR 11 (283), vI v1] m Q E := by
  refine V_of (VL_at (al := [(0, vR 11 (283)), (1, vI v1)]) (st := []) km222 k222_0 ?_)
  refine V_mono h (fun u1 m1 h1 => ?_) (fun _ _ h => h)
  exact VL_norm km222 k222_1 h1
/-- BannerParadeModel.matching, label 1 -/
theorem w222_1 {D : Nat} {v1 : Int32} {v2 : Int32} {v3 : Int32} {m : XM} {Q : Int32 → XM → Prop} {E : Nat → XM → Prop}
    (h : (((m 283 18) ≤ v3 → Q v2 m) ∧ (¬ (m 283 18) ≤ v3 → (xin (((n32 99) + ((n32 12) * v1)) + (n32 2)) 243 = true ∧ (((m 284 (ix (((n32 99) + ((n32 12) * v1)) + (n32 2)))) ≤ v3 → Q v2 m) ∧ (¬ (m 284 (ix (((n32 99) + ((n32 12) * v1)) + (n32 2)))) ≤ v3 → (xin v3 24 = true ∧ (xin (((n32 99) + ((n32 12) * v1)) + ((n32 4) + v3)) 243 = true ∧ (((m 290 (ix v3)) = (m 284 (ix (((n32 99) + ((n32 12) * v1)) + ((n32 4) + v3)))) → VLI (D + 3) 222 1 [(0, vR 11 (283)), (1, vI v1), (2, vI (v2 + (n32 1))), (3, vI (v3 + (n32 1)))] [] m Q E) ∧ (¬ (m 290 (ix v3)) = (m 284 (ix (((n32 99) + ((n32 12) * v1)) + ((n32 4) + v3)))) → VLI (D + 3) 222 1 [(0, vR 11 (283)), (1, vI v1), (2, vI (v2 + (n32 0))), (3, vI (v3 + (n32 1)))] [] m Q E)))))))))) :
    VLI (D + 3) 222 1 [(0, vR 11 (283)), (1, vI v1), (2, vI v2), (3, vI v3)] [] m Q E := by
  refine VL_at (al := [(0, vR 11 (283)), (1, vI v1), (2, vI v2), (3, vI v3)]) (st := []) km222 k222_1 ?_
  refine And.intro (fun c3 => ?_) (fun c3 => ?_)
  · refine VL_norm km222 k222_7 (VL_at (al := [(2, vI v2)]) (st := []) km222 k222_7 ?_)
    exact (h.1 c3)
  · refine VL_norm km222 k222_2 (VL_at (al := [(0, vR 11 (283)), (1, vI v1), (2, vI v2), (3, vI v3)]) (st := []) km222 k222_2 ?_)
    refine V_of ?_
    refine VL_norm km204 k204_0 (VL_at (al := [(0, vR 11 (283)), (1, vI v1), (2, vI (n32 2))]) (st := []) km204 k204_0 ?_)
    refine And.intro (h.2 c3).1 ?_
    refine And.intro (fun c2 => ?_) (fun c2 => ?_)
    · refine VL_norm km222 k222_7 (VL_at (al := [(2, vI v2)]) (st := []) km222 k222_7 ?_)
      exact ((h.2 c3).2.1 c2)
    · refine VL_norm km222 k222_3 (VL_at (al := [(0, vR 11 (283)), (1, vI v1), (2, vI v2), (3, vI v3)]) (st := []) km222 k222_3 ?_)
      refine And.intro ((h.2 c3).2.2 c2).1 ?_
      refine V_of ?_
      refine VL_norm km204 k204_0 (VL_at (al := [(0, vR 11 (283)), (1, vI v1), (2, vI ((n32 4) + v3))]) (st := []) km204 k204_0 ?_)
      refine And.intro ((h.2 c3).2.2 c2).2.1 ?_
      refine And.intro (fun c1 => ?_) (fun c1 => ?_)
      · refine VL_norm km222 k222_4 (VL_at (al := [(0, vR 11 (283)), (1, vI v1), (3, vI v3)]) (st := [vI v2]) km222 k222_4 ?_)
        refine VL_norm km222 k222_6 (VL_at (al := [(0, vR 11 (283)), (1, vI v1), (3, vI v3)]) (st := [vI (n32 1), vI v2]) km222 k222_6 ?_)
        exact VL_norm km222 k222_1 (((h.2 c3).2.2 c2).2.2.1 c1)
      · refine VL_norm km222 k222_5 (VL_at (al := [(0, vR 11 (283)), (1, vI v1), (3, vI v3)]) (st := [vI v2]) km222 k222_5 ?_)
        refine VL_norm km222 k222_6 (VL_at (al := [(0, vR 11 (283)), (1, vI v1), (3, vI v3)]) (st := [vI (n32 0), vI v2]) km222 k222_6 ?_)
        exact VL_norm km222 k222_1 (((h.2 c3).2.2 c2).2.2.2 c1)
/-- BannerParadeModel.readsWord, label 0 -/
theorem w223_0 {D : Nat} {v1 : Int32} {m : XM} {Q : Int32 → XM → Prop} {E : Nat → XM → Prop}
    (h : VI (D + 3) 222 [vR 11 (283), vI v1] m (fun x1 m1 => (xin (((n32 99) + ((n32 12) * v1)) + (n32 2)) 243 = true ∧ ((x1 = (m1 284 (ix (((n32 99) + ((n32 12) * v1)) + (n32 2)))) → (((m1 283 18) = (m1 284 (ix (((n32 99) + ((n32 12) * v1)) + (n32 2)))) → Q (n32 1) m1) ∧ (¬ (m1 283 18) = (m1 284 (ix (((n32 99) + ((n32 12) * v1)) + (n32 2)))) → Q (n32 0) m1))) ∧ (¬ x1 = (m1 284 (ix (((n32 99) + ((n32 12) * v1)) + (n32 2)))) → Q (n32 0) m1)))) E) :
    VI (D + 4) 223 [vR 11 (283), vI v1] m Q E := by
  refine V_of (VL_at (al := [(0, vR 11 (283)), (1, vI v1)]) (st := []) km223 k223_0 ?_)
  refine V_mono h (fun u1 m1 h1 => ?_) (fun _ _ h => h)
  refine V_of ?_
  refine VL_norm km204 k204_0 (VL_at (al := [(0, vR 11 (283)), (1, vI v1), (2, vI (n32 2))]) (st := []) km204 k204_0 ?_)
  refine And.intro h1.1 ?_
  refine And.intro (fun c3 => ?_) (fun c3 => ?_)
  · refine VL_norm km223 k223_1 (VL_at (al := [(0, vR 11 (283)), (1, vI v1)]) (st := []) km223 k223_1 ?_)
    refine V_of ?_
    refine VL_norm km204 k204_0 (VL_at (al := [(0, vR 11 (283)), (1, vI v1), (2, vI (n32 2))]) (st := []) km204 k204_0 ?_)
    refine And.intro h1.1 ?_
    refine And.intro (fun c2 => ?_) (fun c2 => ?_)
    · refine VL_norm km223 k223_2 (VL_at (al := []) (st := []) km223 k223_2 ?_)
      refine VL_norm km223 k223_4 (VL_at (al := []) (st := [vI (n32 1)]) km223 k223_4 ?_)
      refine And.intro xrt21 ?_
      exact ((h1.2.1 c3).1 c2)
    · refine VL_norm km223 k223_3 (VL_at (al := []) (st := []) km223 k223_3 ?_)
      refine VL_norm km223 k223_4 (VL_at (al := []) (st := [vI (n32 0)]) km223 k223_4 ?_)
      refine And.intro xrt20 ?_
      exact ((h1.2.1 c3).2 c2)
  · refine VL_norm km223 k223_3 (VL_at (al := []) (st := []) km223 k223_3 ?_)
    refine VL_norm km223 k223_4 (VL_at (al := []) (st := [vI (n32 0)]) km223 k223_4 ?_)
    refine And.intro xrt20 ?_
    exact (h1.2.2 c3)
/-- BannerParadeModel.shareOf, label 0 -/
theorem w224_0 {D : Nat} {v1 : Int32} {m : XM} {Q : UInt32 → XM → Prop} {E : Nat → XM → Prop}
    (h : VI (D + 3) 222 [vR 11 (283), vI v1] m (fun x1 m1 => (xin (((n32 99) + ((n32 12) * v1)) + (n32 2)) 243 = true ∧ VI (D + 3) 385 [vI (m1 283 18), vI (m1 284 (ix (((n32 99) + ((n32 12) * v1)) + (n32 2))))] m1 (fun x2 m2 => ((FP.fdiv ((FP.i2f x1)) ((FP.i2f x2))) &&& 0x7fffffff ≤ 0x7f800000 ∧ Q (FP.fdiv ((FP.i2f x1)) ((FP.i2f x2))) m2)) E)) E) :
    VF (D + 4) 224 [vR 11 (283), vI v1] m Q E := by
  refine V_of (VL_at (al := [(0, vR 11 (283)), (1, vI v1)]) (st := []) km224 k224_0 ?_)
  refine V_mono h (fun u1 m1 h1 => ?_) (fun _ _ h => h)
  refine V_of ?_
  refine VL_norm km204 k204_0 (VL_at (al := [(0, vR 11 (283)), (1, vI v1), (2, vI (n32 2))]) (st := []) km204 k204_0 ?_)
  refine And.intro h1.1 ?_
  refine V_mono h1.2 (fun u2 m2 h2 => ?_) (fun _ _ h => h)
  refine And.intro h2.1 ?_
  exact h2.2
/-- BannerParadeModel.plans, label 0 -/
theorem w225_0 {D : Nat}  {m : XM} {Q : XM → Prop} {E : Nat → XM → Prop}
    (h : VLU (D + 3) 225 1 [(0, vR 11 (283)), (1, vI (n32 0))] [] m Q E) :
    VU (D + 3) 225 [vR 11 (283)] m Q E := by
  refine V_of (VL_at (al := [(0, vR 11 (283))]) (st := []) km225 k225_0 ?_)
  exact VL_norm km225 k225_1 h
/-- BannerParadeModel.plans, label 1 -/
theorem w225_1 {D : Nat} {v1 : Int32} {m : XM} {Q : XM → Prop} {E : Nat → XM → Prop}
    (h : (((m 284 (ix (n32 8))) ≤ v1 → Q m) ∧ (¬ (m 284 (ix (n32 8))) ≤ v1 → (xin (((n32 171) + ((n32 3) * v1)) + (n32 0)) 243 = true ∧ (((m 284 (ix (((n32 171) + ((n32 3) * v1)) + (n32 0)))) = (m 284 (ix (n32 9))) → (xin (((n32 171) + ((n32 3) * v1)) + (n32 2)) 243 = true ∧ (((m 284 (ix (((n32 171) + ((n32 3) * v1)) + (n32 2)))) = (n32 0) → (xin (((n32 171) + ((n32 3) * v1)) + (n32 1)) 243 = true ∧ VI (D + 2) 216 [vR 11 (283), vI (m 284 (ix (((n32 171) + ((n32 3) * v1)) + (n32 1))))] m (fun x1 m1 => ((x1 = (n32 0) → VLU (D + 3) 225 1 [(0, vR 11 (283)), (1, vI (v1 + (n32 1)))] [] (um (um m1 (284) (ix (n32 12)) ((m1 284 (ix (n32 12))) + (n32 1))) (284) (ix (((n32 171) + ((n32 3) * v1)) + (n32 2))) (n32 2)) Q E) ∧ (¬ x1 = (n32 0) → VU (D + 2) 218 [vR 11 (283), vI (m1 284 (ix (((n32 171) + ((n32 3) * v1)) + (n32 1))))] m1 (fun m2 => VLU (D + 3) 225 1 [(0, vR 11 (283)), (1, vI (v1 + (n32 1)))] [] (um m2 (284) (ix (((n32 171) + ((n32 3) * v1)) + (n32 2))) (n32 1)) Q E) E))) E)) ∧ (¬ (m 284 (ix (((n32 171) + ((n32 3) * v1)) + (n32 2)))) = (n32 0) → VLU (D + 3) 225 1 [(0, vR 11 (283)), (1, vI (v1 + (n32 1)))] [] m Q E)))) ∧ (¬ (m 284 (ix (((n32 171) + ((n32 3) * v1)) + (n32 0)))) = (m 284 (ix (n32 9))) → VLU (D + 3) 225 1 [(0, vR 11 (283)), (1, vI (v1 + (n32 1)))] [] m Q E)))))) :
    VLU (D + 3) 225 1 [(0, vR 11 (283)), (1, vI v1)] [] m Q E := by
  refine VL_at (al := [(0, vR 11 (283)), (1, vI v1)]) (st := []) km225 k225_1 ?_
  refine And.intro (xin_k rfl) ?_
  refine And.intro (fun c6 => ?_) (fun c6 => ?_)
  · refine VL_norm km225 k225_13 (VL_at (al := []) (st := []) km225 k225_13 ?_)
    exact (h.1 c6)
  · refine VL_norm km225 k225_2 (VL_at (al := [(0, vR 11 (283)), (1, vI v1)]) (st := []) km225 k225_2 ?_)
    refine V_of ?_
    refine VL_norm km206 k206_0 (VL_at (al := [(0, vR 11 (283)), (1, vI v1), (2, vI (n32 0))]) (st := []) km206 k206_0 ?_)
    refine And.intro (h.2 c6).1 ?_
    refine And.intro (xin_k rfl) ?_
    refine And.intro (fun c5 => ?_) (fun c5 => ?_)
    · refine VL_norm km225 k225_3 (VL_at (al := [(0, vR 11 (283)), (1, vI v1)]) (st := []) km225 k225_3 ?_)
      refine V_of ?_
      refine VL_norm km206 k206_0 (VL_at (al := [(0, vR 11 (283)), (1, vI v1), (2, vI (n32 2))]) (st := []) km206 k206_0 ?_)
      refine And.intro ((h.2 c6).2.1 c5).1 ?_
      refine And.intro (fun c4 => ?_) (fun c4 => ?_)
      · refine VL_norm km225 k225_5 (VL_at (al := [(0, vR 11 (283)), (1, vI v1)]) (st := []) km225 k225_5 ?_)
        refine V_of ?_
        refine VL_norm km206 k206_0 (VL_at (al := [(0, vR 11 (283)), (1, vI v1), (2, vI (n32 1))]) (st := []) km206 k206_0 ?_)
        refine And.intro (((h.2 c6).2.1 c5).2.1 c4).1 ?_
        refine V_mono (((h.2 c6).2.1 c5).2.1 c4).2 (fun u1 m1 h1 => ?_) (fun _ _ h => h)
        refine And.intro (fun c3 => ?_) (fun c3 => ?_)
        · refine VL_norm km225 k225_7 (VL_at (al := [(0, vR 11 (283)), (1, vI v1), (2, vI (xti u1))]) (st := []) km225 k225_7 ?_)
          refine And.intro (xin_k rfl) ?_
          refine And.intro (xin_k rfl) ?_
          refine VL_norm km225 k225_8 (VL_at (al := [(0, vR 11 (283)), (1, vI v1), (2, vI (xti u1))]) (st := []) km225 k225_8 ?_)
          refine And.intro (fun _ => ?_) (fun c => absurd c3 c)
          refine VL_norm km225 k225_10 (VL_at (al := [(0, vR 11 (283)), (1, vI v1)]) (st := [vI (((n32 171) + ((n32 3) * v1)) + (n32 2)), vR 200243 (284)]) km225 k225_10 ?_)
          refine VL_norm km225 k225_11 (VL_at (al := [(0, vR 11 (283)), (1, vI v1)]) (st := [vI (n32 2), vI (((n32 171) + ((n32 3) * v1)) + (n32 2)), vR 200243 (284)]) km225 k225_11 ?_)
          refine And.intro ((h.2 c6).2.1 c5).1 ?_
          refine VL_norm km225 k225_12 (VL_at (al := [(0, vR 11 (283)), (1, vI v1)]) (st := []) km225 k225_12 ?_)
          exact VL_norm km225 k225_1 (h1.1 c3)
        · refine VL_norm km225 k225_6 (VL_at (al := [(0, vR 11 (283)), (1, vI v1), (2, vI (xti u1))]) (st := []) km225 k225_6 ?_)
          refine V_of ?_
          refine VL_norm km206 k206_0 (VL_at (al := [(0, vR 11 (283)), (1, vI v1), (2, vI (n32 1))]) (st := []) km206 k206_0 ?_)
          refine And.intro (((h.2 c6).2.1 c5).2.1 c4).1 ?_
          refine V_mono (h1.2 c3) (fun u2 m2 h2 => ?_) (fun _ _ h => h)
          refine VL_norm km225 k225_8 (VL_at (al := [(0, vR 11 (283)), (1, vI v1), (2, vI (xti u1))]) (st := []) km225 k225_8 ?_)
          refine And.intro (fun c => absurd c c3) (fun _ => ?_)
          refine VL_norm km225 k225_9 (VL_at (al := [(0, vR 11 (283)), (1, vI v1)]) (st := [vI (((n32 171) + ((n32 3) * v1)) + (n32 2)), vR 200243 (284)]) km225 k225_9 ?_)
          refine VL_norm km225 k225_11 (VL_at (al := [(0, vR 11 (283)), (1, vI v1)]) (st := [vI (n32 1), vI (((n32 171) + ((n32 3) * v1)) + (n32 2)), vR 200243 (284)]) km225 k225_11 ?_)
          refine And.intro ((h.2 c6).2.1 c5).1 ?_
          refine VL_norm km225 k225_12 (VL_at (al := [(0, vR 11 (283)), (1, vI v1)]) (st := []) km225 k225_12 ?_)
          exact VL_norm km225 k225_1 h2
      · refine VL_norm km225 k225_4 (VL_at (al := [(0, vR 11 (283)), (1, vI v1)]) (st := []) km225 k225_4 ?_)
        refine VL_norm km225 k225_12 (VL_at (al := [(0, vR 11 (283)), (1, vI v1)]) (st := []) km225 k225_12 ?_)
        exact VL_norm km225 k225_1 (((h.2 c6).2.1 c5).2.2 c4)
    · refine VL_norm km225 k225_12 (VL_at (al := [(0, vR 11 (283)), (1, vI v1)]) (st := []) km225 k225_12 ?_)
      exact VL_norm km225 k225_1 ((h.2 c6).2.2 c5)
/-- BannerParadeModel.moves, label 0 -/
theorem w226_0 {D : Nat} {v1 : Int32} {m : XM} {Q : XM → Prop} {E : Nat → XM → Prop}
    (h : (xin (((n32 15) + ((n32 7) * v1)) + (n32 1)) 243 = true ∧ (xin v1 12 = true ∧ VI (D + 1) 210 [vR 11 (283), vI v1] (um m (291) (ix v1) (m 284 (ix (((n32 15) + ((n32 7) * v1)) + (n32 1))))) (fun x1 m1 => ((v1 ≤ (n32 0) → ((((m 284 (ix (((n32 15) + ((n32 7) * v1)) + (n32 1)))) + x1) ≤ (m 284 (ix (((n32 15) + ((n32 7) * v1)) + (n32 1)))) → VU (D + 1) 212 [vR 11 (283), vI v1, vI (m1 284 (ix (n32 3)))] m1 (fun m2 => (xin (((n32 15) + ((n32 7) * v1)) + (n32 5)) 243 = true ∧ Q (um m2 (284) (ix (((n32 15) + ((n32 7) * v1)) + (n32 5))) ((m2 284 (ix (((n32 15) + ((n32 7) * v1)) + (n32 5)))) + (n32 0))))) E) ∧ (¬ ((m 284 (ix (((n32 15) + ((n32 7) * v1)) + (n32 1)))) + x1) ≤ (m 284 (ix (((n32 15) + ((n32 7) * v1)) + (n32 1)))) → (xin (((n32 15) + ((n32 7) * v1)) + (n32 3)) 243 = true ∧ VU (D + 1) 212 [vR 11 (283), vI v1, vI ((-((um m1 (284) (ix (((n32 15) + ((n32 7) * v1)) + (n32 1))) ((m 284 (ix (((n32 15) + ((n32 7) * v1)) + (n32 1)))) + x1)) 284 (ix (((n32 15) + ((n32 7) * v1)) + (n32 3))))))] (um m1 (284) (ix (((n32 15) + ((n32 7) * v1)) + (n32 1))) ((m 284 (ix (((n32 15) + ((n32 7) * v1)) + (n32 1)))) + x1)) (fun m3 => (xin (((n32 15) + ((n32 7) * v1)) + (n32 5)) 243 = true ∧ Q (um m3 (284) (ix (((n32 15) + ((n32 7) * v1)) + (n32 5))) ((m3 284 (ix (((n32 15) + ((n32 7) * v1)) + (n32 5)))) + (n32 1))))) E)))) ∧ (¬ v1 ≤ (n32 0) → (xin (((n32 15) + ((n32 7) * (v1 - (n32 1)))) + (n32 1)) 243 = true ∧ VI (D + 1) 386 [vI ((m 284 (ix (((n32 15) + ((n32 7) * v1)) + (n32 1)))) + x1), vI ((m1 284 (ix (((n32 15) + ((n32 7) * (v1 - (n32 1)))) + (n32 1)))) - (m1 284 (ix (n32 0))))] m1 (fun x5 m5 => ((x5 ≤ (m 284 (ix (((n32 15) + ((n32 7) * v1)) + (n32 1)))) → VU (D + 1) 212 [vR 11 (283), vI v1, vI (m5 284 (ix (n32 3)))] m5 (fun m6 => (xin (((n32 15) + ((n32 7) * v1)) + (n32 5)) 243 = true ∧ Q (um m6 (284) (ix (((n32 15) + ((n32 7) * v1)) + (n32 5))) ((m6 284 (ix (((n32 15) + ((n32 7) * v1)) + (n32 5)))) + (n32 0))))) E) ∧ (¬ x5 ≤ (m 284 (ix (((n32 15) + ((n32 7) * v1)) + (n32 1)))) → (xin (((n32 15) + ((n32 7) * v1)) + (n32 3)) 243 = true ∧ VU (D + 1) 212 [vR 11 (283), vI v1, vI ((-((um m5 (284) (ix (((n32 15) + ((n32 7) * v1)) + (n32 1))) x5) 284 (ix (((n32 15) + ((n32 7) * v1)) + (n32 3))))))] (um m5 (284) (ix (((n32 15) + ((n32 7) * v1)) + (n32 1))) x5) (fun m7 => (xin (((n32 15) + ((n32 7) * v1)) + (n32 5)) 243 = true ∧ Q (um m7 (284) (ix (((n32 15) + ((n32 7) * v1)) + (n32 5))) ((m7 284 (ix (((n32 15) + ((n32 7) * v1)) + (n32 5)))) + (n32 1))))) E)))) E)))) E))) :
    VU (D + 2) 226 [vR 11 (283), vI v1] m Q E := by
  refine V_of (VL_at (al := [(0, vR 11 (283)), (1, vI v1)]) (st := []) km226 k226_0 ?_)
  refine V_of ?_
  refine VL_norm km202 k202_0 (VL_at (al := [(0, vR 11 (283)), (1, vI v1), (2, vI (n32 1))]) (st := []) km202 k202_0 ?_)
  refine And.intro h.1 ?_
  refine And.intro h.2.1 ?_
  refine V_mono h.2.2 (fun u1 m1 h1 => ?_) (fun _ _ h => h)
  refine And.intro (fun c9 => ?_) (fun c9 => ?_)
  · refine VL_norm km226 k226_2 (VL_at (al := [(0, vR 11 (283)), (1, vI v1), (2, vI (m 284 (ix (((n32 15) + ((n32 7) * v1)) + (n32 1))))), (3, vI ((m 284 (ix (((n32 15) + ((n32 7) * v1)) + (n32 1)))) + (xti u1)))]) (st := []) km226 k226_2 ?_)
    refine And.intro (fun c4 => ?_) (fun c4 => ?_)
    · refine VL_norm km226 k226_4 (VL_at (al := [(0, vR 11 (283)), (1, vI v1), (3, vI ((m 284 (ix (((n32 15) + ((n32 7) * v1)) + (n32 1)))) + (xti u1)))]) (st := []) km226 k226_4 ?_)
      refine VL_norm km226 k226_5 (VL_at (al := [(0, vR 11 (283)), (1, vI v1), (3, vI ((m 284 (ix (((n32 15) + ((n32 7) * v1)) + (n32 1)))) + (xti u1)))]) (st := [vI (n32 0)]) km226 k226_5 ?_)
      refine And.intro (fun _ => ?_) (fun c => absurd (by decide) c)
      refine VL_norm km226 k226_7 (VL_at (al := [(0, vR 11 (283)), (1, vI v1), (4, vI (n32 0))]) (st := []) km226 k226_7 ?_)
      refine And.intro (fun _ => ?_) (fun c => absurd (by decide) c)
      refine VL_norm km226 k226_9 (VL_at (al := [(0, vR 11 (283)), (1, vI v1), (4, vI (n32 0))]) (st := [vI v1, vR 11 (283)]) km226 k226_9 ?_)
      refine And.intro (xin_k rfl) ?_
      refine VL_norm km226 k226_10 (VL_at (al := [(0, vR 11 (283)), (1, vI v1), (4, vI (n32 0))]) (st := [vI (m1 284 (ix (n32 3))), vI v1, vR 11 (283)]) km226 k226_10 ?_)
      refine V_mono ((h1.1 c9).1 c4) (fun u2 m2 h2 => ?_) (fun _ _ h => h)
      refine V_of ?_
      refine VL_norm km202 k202_0 (VL_at (al := [(0, vR 11 (283)), (1, vI v1), (2, vI (n32 5))]) (st := []) km202 k202_0 ?_)
      refine And.intro h2.1 ?_
      refine And.intro (fun _ => ?_) (fun c => absurd (by decide) c)
      refine VL_norm km226 k226_12 (VL_at (al := []) (st := [vI (m2 284 (ix (((n32 15) + ((n32 7) * v1)) + (n32 5)))), vI (n32 5), vI v1, vR 11 (283)]) km226 k226_12 ?_)
      refine VL_norm km226 k226_13 (VL_at (al := []) (st := [vI (n32 0), vI (m2 284 (ix (((n32 15) + ((n32 7) * v1)) + (n32 5)))), vI (n32 5), vI v1, vR 11 (283)]) km226 k226_13 ?_)
      refine V_of ?_
      refine VL_norm km203 k203_0 (VL_at (al := [(0, vR 11 (283)), (1, vI v1), (2, vI (n32 5)), (3, vI ((m2 284 (ix (((n32 15) + ((n32 7) * v1)) + (n32 5)))) + (n32 0)))]) (st := []) km203 k203_0 ?_)
      refine And.intro h2.1 ?_
      exact h2.2
    · refine VL_norm km226 k226_3 (VL_at (al := [(0, vR 11 (283)), (1, vI v1), (3, vI ((m 284 (ix (((n32 15) + ((n32 7) * v1)) + (n32 1)))) + (xti u1)))]) (st := []) km226 k226_3 ?_)
      refine VL_norm km226 k226_5 (VL_at (al := [(0, vR 11 (283)), (1, vI v1), (3, vI ((m 284 (ix (((n32 15) + ((n32 7) * v1)) + (n32 1)))) + (xti u1)))]) (st := [vI (n32 1)]) km226 k226_5 ?_)
      refine And.intro (fun c => absurd c (by decide)) (fun _ => ?_)
      refine VL_norm km226 k226_6 (VL_at (al := [(0, vR 11 (283)), (1, vI v1), (3, vI ((m 284 (ix (((n32 15) + ((n32 7) * v1)) + (n32 1)))) + (xti u1))), (4, vI (n32 1))]) (st := []) km226 k226_6 ?_)
      refine V_of ?_
      refine VL_norm km203 k203_0 (VL_at (al := [(0, vR 11 (283)), (1, vI v1), (2, vI (n32 1)), (3, vI ((m 284 (ix (((n32 15) + ((n32 7) * v1)) + (n32 1)))) + (xti u1)))]) (st := []) km203 k203_0 ?_)
      refine And.intro h.1 ?_
      refine VL_norm km226 k226_7 (VL_at (al := [(0, vR 11 (283)), (1, vI v1), (4, vI (n32 1))]) (st := []) km226 k226_7 ?_)
      refine And.intro (fun c => absurd c (by decide)) (fun _ => ?_)
      refine VL_norm km226 k226_8 (VL_at (al := [(0, vR 11 (283)), (1, vI v1), (4, vI (n32 1))]) (st := [vI v1, vR 11 (283)]) km226 k226_8 ?_)
      refine V_of ?_
      refine VL_norm km202 k202_0 (VL_at (al := [(0, vR 11 (283)), (1, vI v1), (2, vI (n32 3))]) (st := []) km202 k202_0 ?_)
      refine And.intro ((h1.1 c9).2 c4).1 ?_
      refine VL_norm km226 k226_10 (VL_at (al := [(0, vR 11 (283)), (1, vI v1), (4, vI (n32 1))]) (st := [vI ((-((um m1 (284) (ix (((n32 15) + ((n32 7) * v1)) + (n32 1))) ((m 284 (ix (((n32 15) + ((n32 7) * v1)) + (n32 1)))) + (xti u1))) 284 (ix (((n32 15) + ((n32 7) * v1)) + (n32 3)))))), vI v1, vR 11 (283)]) km226 k226_10 ?_)
      refine V_mono ((h1.1 c9).2 c4).2 (fun u3 m3 h3 => ?_) (fun _ _ h => h)
      refine V_of ?_
      refine VL_norm km202 k202_0 (VL_at (al := [(0, vR 11 (283)), (1, vI v1), (2, vI (n32 5))]) (st := []) km202 k202_0 ?_)
      refine And.intro h3.1 ?_
      refine And.intro (fun c => absurd c (by decide)) (fun _ => ?_)
      refine VL_norm km226 k226_11 (VL_at (al := []) (st := [vI (m3 284 (ix (((n32 15) + ((n32 7) * v1)) + (n32 5)))), vI (n32 5), vI v1, vR 11 (283)]) km226 k226_11 ?_)
      refine VL_norm km226 k226_13 (VL_at (al := []) (st := [vI (n32 1), vI (m3 284 (ix (((n32 15) + ((n32 7) * v1)) + (n32 5)))), vI (n32 5), vI v1, vR 11 (283)]) km226 k226_13 ?_)
      refine V_of ?_
      refine VL_norm km203 k203_0 (VL_at (al := [(0, vR 11 (283)), (1, vI v1), (2, vI (n32 5)), (3, vI ((m3 284 (ix (((n32 15) + ((n32 7) * v1)) + (n32 5)))) + (n32 1)))]) (st := []) km203 k203_0 ?_)
      refine And.intro h3.1 ?_
      exact h3.2
  · refine VL_norm km226 k226_1 (VL_at (al := [(0, vR 11 (283)), (1, vI v1), (2, vI (m 284 (ix (((n32 15) + ((n32 7) * v1)) + (n32 1))))), (3, vI ((m 284 (ix (((n32 15) + ((n32 7) * v1)) + (n32 1)))) + (xti u1)))]) (st := []) km226 k226_1 ?_)
    refine V_of ?_
    refine VL_norm km202 k202_0 (VL_at (al := [(0, vR 11 (283)), (1, vI (v1 - (n32 1))), (2, vI (n32 1))]) (st := []) km202 k202_0 ?_)
    refine And.intro (h1.2 c9).1 ?_
    refine And.intro (xin_k rfl) ?_
    refine V_mono (h1.2 c9).2 (fun u5 m5 h5 => ?_) (fun _ _ h => h)
    refine VL_norm km226 k226_2 (VL_at (al := [(0, vR 11 (283)), (1, vI v1), (2, vI (m 284 (ix (((n32 15) + ((n32 7) * v1)) + (n32 1))))), (3, vI (xti u5))]) (st := []) km226 k226_2 ?_)
    refine And.intro (fun c8 => ?_) (fun c8 => ?_)
    · refine VL_norm km226 k226_4 (VL_at (al := [(0, vR 11 (283)), (1, vI v1), (3, vI (xti u5))]) (st := []) km226 k226_4 ?_)
      refine VL_norm km226 k226_5 (VL_at (al := [(0, vR 11 (283)), (1, vI v1), (3, vI (xti u5))]) (st := [vI (n32 0)]) km226 k226_5 ?_)
      refine And.intro (fun _ => ?_) (fun c => absurd (by decide) c)
      refine VL_norm km226 k226_7 (VL_at (al := [(0, vR 11 (283)), (1, vI v1), (4, vI (n32 0))]) (st := []) km226 k226_7 ?_)
      refine And.intro (fun _ => ?_) (fun c => absurd (by decide) c)
      refine VL_norm km226 k226_9 (VL_at (al := [(0, vR 11 (283)), (1, vI v1), (4, vI (n32 0))]) (st := [vI v1, vR 11 (283)]) km226 k226_9 ?_)
      refine And.intro (xin_k rfl) ?_
      refine VL_norm km226 k226_10 (VL_at (al := [(0, vR 11 (283)), (1, vI v1), (4, vI (n32 0))]) (st := [vI (m5 284 (ix (n32 3))), vI v1, vR 11 (283)]) km226 k226_10 ?_)
      refine V_mono (h5.1 c8) (fun u6 m6 h6 => ?_) (fun _ _ h => h)
      refine V_of ?_
      refine VL_norm km202 k202_0 (VL_at (al := [(0, vR 11 (283)), (1, vI v1), (2, vI (n32 5))]) (st := []) km202 k202_0 ?_)
      refine And.intro h6.1 ?_
      refine And.intro (fun _ => ?_) (fun c => absurd (by decide) c)
      refine VL_norm km226 k226_12 (VL_at (al := []) (st := [vI (m6 284 (ix (((n32 15) + ((n32 7) * v1)) + (n32 5)))), vI (n32 5), vI v1, vR 11 (283)]) km226 k226_12 ?_)
      refine VL_norm km226 k226_13 (VL_at (al := []) (st := [vI (n32 0), vI (m6 284 (ix (((n32 15) + ((n32 7) * v1)) + (n32 5)))), vI (n32 5), vI v1, vR 11 (283)]) km226 k226_13 ?_)
      refine V_of ?_
      refine VL_norm km203 k203_0 (VL_at (al := [(0, vR 11 (283)), (1, vI v1), (2, vI (n32 5)), (3, vI ((m6 284 (ix (((n32 15) + ((n32 7) * v1)) + (n32 5)))) + (n32 0)))]) (st := []) km203 k203_0 ?_)
      refine And.intro h6.1 ?_
      exact h6.2
    · refine VL_norm km226 k226_3 (VL_at (al := [(0, vR 11 (283)), (1, vI v1), (3, vI (xti u5))]) (st := []) km226 k226_3 ?_)
      refine VL_norm km226 k226_5 (VL_at (al := [(0, vR 11 (283)), (1, vI v1), (3, vI (xti u5))]) (st := [vI (n32 1)]) km226 k226_5 ?_)
      refine And.intro (fun c => absurd c (by decide)) (fun _ => ?_)
      refine VL_norm km226 k226_6 (VL_at (al := [(0, vR 11 (283)), (1, vI v1), (3, vI (xti u5)), (4, vI (n32 1))]) (st := []) km226 k226_6 ?_)
      refine V_of ?_
      refine VL_norm km203 k203_0 (VL_at (al := [(0, vR 11 (283)), (1, vI v1), (2, vI (n32 1)), (3, vI (xti u5))]) (st := []) km203 k203_0 ?_)
      refine And.intro h.1 ?_
      refine VL_norm km226 k226_7 (VL_at (al := [(0, vR 11 (283)), (1, vI v1), (4, vI (n32 1))]) (st := []) km226 k226_7 ?_)
      refine And.intro (fun c => absurd c (by decide)) (fun _ => ?_)
      refine VL_norm km226 k226_8 (VL_at (al := [(0, vR 11 (283)), (1, vI v1), (4, vI (n32 1))]) (st := [vI v1, vR 11 (283)]) km226 k226_8 ?_)
      refine V_of ?_
      refine VL_norm km202 k202_0 (VL_at (al := [(0, vR 11 (283)), (1, vI v1), (2, vI (n32 3))]) (st := []) km202 k202_0 ?_)
      refine And.intro (h5.2 c8).1 ?_
      refine VL_norm km226 k226_10 (VL_at (al := [(0, vR 11 (283)), (1, vI v1), (4, vI (n32 1))]) (st := [vI ((-((um m5 (284) (ix (((n32 15) + ((n32 7) * v1)) + (n32 1))) (xti u5)) 284 (ix (((n32 15) + ((n32 7) * v1)) + (n32 3)))))), vI v1, vR 11 (283)]) km226 k226_10 ?_)
      refine V_mono (h5.2 c8).2 (fun u7 m7 h7 => ?_) (fun _ _ h => h)
      refine V_of ?_
      refine VL_norm km202 k202_0 (VL_at (al := [(0, vR 11 (283)), (1, vI v1), (2, vI (n32 5))]) (st := []) km202 k202_0 ?_)
      refine And.intro h7.1 ?_
      refine And.intro (fun c => absurd c (by decide)) (fun _ => ?_)
      refine VL_norm km226 k226_11 (VL_at (al := []) (st := [vI (m7 284 (ix (((n32 15) + ((n32 7) * v1)) + (n32 5)))), vI (n32 5), vI v1, vR 11 (283)]) km226 k226_11 ?_)
      refine VL_norm km226 k226_13 (VL_at (al := []) (st := [vI (n32 1), vI (m7 284 (ix (((n32 15) + ((n32 7) * v1)) + (n32 5)))), vI (n32 5), vI v1, vR 11 (283)]) km226 k226_13 ?_)
      refine V_of ?_
      refine VL_norm km203 k203_0 (VL_at (al := [(0, vR 11 (283)), (1, vI v1), (2, vI (n32 5)), (3, vI ((m7 284 (ix (((n32 15) + ((n32 7) * v1)) + (n32 5)))) + (n32 1)))]) (st := []) km203 k203_0 ?_)
      refine And.intro h7.1 ?_
      exact h7.2
/-- BannerParadeModel.lifts, label 0 -/
theorem w227_0 {D : Nat} {v1 : Int32} {m : XM} {Q : XM → Prop} {E : Nat → XM → Prop}
    (h : (xin (((n32 15) + ((n32 7) * v1)) + (n32 0)) 243 = true ∧ (((n32 0) < (m 284 (ix (((n32 15) + ((n32 7) * v1)) + (n32 0)))) → Q m) ∧ (¬ (n32 0) < (m 284 (ix (((n32 15) + ((n32 7) * v1)) + (n32 0)))) → (xin (((n32 15) + ((n32 7) * v1)) + (n32 4)) 243 = true ∧ (((m 284 (ix (n32 4))) ≤ (m 284 (ix (((n32 15) + ((n32 7) * v1)) + (n32 4)))) → (xin v1 12 = true ∧ (xin (((n32 15) + ((n32 7) * v1)) + (n32 1)) 243 = true ∧ VI (D + 1) 215 [vR 11 (283), vI (m 291 (ix v1)), vI (m 284 (ix (((n32 15) + ((n32 7) * v1)) + (n32 1))))] m (fun x1 m1 => ((x1 = (-(n32 1)) → Q m1) ∧ (¬ x1 = (-(n32 1)) → VU (D + 1) 214 [vR 11 (283), vI v1, vI x1] m1 (fun m2 => Q m2) E))) E))) ∧ (¬ (m 284 (ix (n32 4))) ≤ (m 284 (ix (((n32 15) + ((n32 7) * v1)) + (n32 4)))) → Q m))))))) :
    VU (D + 2) 227 [vR 11 (283), vI v1] m Q E := by
  refine V_of (VL_at (al := [(0, vR 11 (283)), (1, vI v1)]) (st := []) km227 k227_0 ?_)
  refine V_of ?_
  refine VL_norm km202 k202_0 (VL_at (al := [(0, vR 11 (283)), (1, vI v1), (2, vI (n32 0))]) (st := []) km202 k202_0 ?_)
  refine And.intro h.1 ?_
  refine And.intro (fun c5 => ?_) (fun c5 => ?_)
  · refine VL_norm km227 k227_2 (VL_at (al := []) (st := []) km227 k227_2 ?_)
    exact (h.2.1 c5)
  · refine VL_norm km227 k227_1 (VL_at (al := [(0, vR 11 (283)), (1, vI v1)]) (st := []) km227 k227_1 ?_)
    refine V_of ?_
    refine VL_norm km202 k202_0 (VL_at (al := [(0, vR 11 (283)), (1, vI v1), (2, vI (n32 4))]) (st := []) km202 k202_0 ?_)
    refine And.intro (h.2.2 c5).1 ?_
    refine And.intro (xin_k rfl) ?_
    refine And.intro (fun c4 => ?_) (fun c4 => ?_)
    · refine VL_norm km227 k227_3 (VL_at (al := [(0, vR 11 (283)), (1, vI v1)]) (st := []) km227 k227_3 ?_)
      refine And.intro ((h.2.2 c5).2.1 c4).1 ?_
      refine V_of ?_
      refine VL_norm km202 k202_0 (VL_at (al := [(0, vR 11 (283)), (1, vI v1), (2, vI (n32 1))]) (st := []) km202 k202_0 ?_)
      refine And.intro ((h.2.2 c5).2.1 c4).2.1 ?_
      refine V_mono ((h.2.2 c5).2.1 c4).2.2 (fun u1 m1 h1 => ?_) (fun _ _ h => h)
      refine And.intro (fun c3 => ?_) (fun c3 => ?_)
      · refine VL_norm km227 k227_5 (VL_at (al := []) (st := []) km227 k227_5 ?_)
        exact (h1.1 c3)
      · refine VL_norm km227 k227_4 (VL_at (al := [(0, vR 11 (283)), (1, vI v1), (2, vI (xti u1))]) (st := []) km227 k227_4 ?_)
        refine V_mono (h1.2 c3) (fun u2 m2 h2 => ?_) (fun _ _ h => h)
        refine VL_norm km227 k227_5 (VL_at (al := []) (st := []) km227 k227_5 ?_)
        exact h2
    · refine VL_norm km227 k227_2 (VL_at (al := []) (st := []) km227 k227_2 ?_)
      exact ((h.2.2 c5).2.2 c4)
/-- BannerParadeModel.ticks, label 0 -/
theorem w228_0 {D : Nat}  {m : XM} {Q : XM → Prop} {E : Nat → XM → Prop}
    (h : VU (D + 4) 225 [vR 11 (283)] (um m (284) (ix (n32 9)) ((m 284 (ix (n32 9))) + (n32 1))) (fun m1 => VLU (D + 5) 228 1 [(0, vR 11 (283)), (1, vI (n32 0))] [] m1 Q E) E) :
    VU (D + 5) 228 [vR 11 (283)] m Q E := by
  refine V_of (VL_at (al := [(0, vR 11 (283))]) (st := []) km228 k228_0 ?_)
  refine And.intro (xin_k rfl) ?_
  refine And.intro (xin_k rfl) ?_
  refine V_mono h (fun u1 m1 h1 => ?_) (fun _ _ h => h)
  exact VL_norm km228 k228_1 h1
/-- BannerParadeModel.ticks, label 1 -/
theorem w228_1 {D : Nat} {v1 : Int32} {m : XM} {Q : XM → Prop} {E : Nat → XM → Prop}
    (h : (((m 284 (ix (n32 6))) ≤ v1 → VLU (D + 5) 228 4 [(0, vR 11 (283)), (1, vI (n32 0))] [] m Q E) ∧ (¬ (m 284 (ix (n32 6))) ≤ v1 → VU (D + 4) 226 [vR 11 (283), vI v1] m (fun m1 => VLU (D + 5) 228 1 [(0, vR 11 (283)), (1, vI (v1 + (n32 1)))] [] m1 Q E) E))) :
    VLU (D + 5) 228 1 [(0, vR 11 (283)), (1, vI v1)] [] m Q E := by
  refine VL_at (al := [(0, vR 11 (283)), (1, vI v1)]) (st := []) km228 k228_1 ?_
  refine And.intro (xin_k rfl) ?_
  refine And.intro (fun c2 => ?_) (fun c2 => ?_)
  · refine VL_norm km228 k228_3 (VL_at (al := [(0, vR 11 (283))]) (st := []) km228 k228_3 ?_)
    exact VL_norm km228 k228_4 (h.1 c2)
  · refine VL_norm km228 k228_2 (VL_at (al := [(0, vR 11 (283)), (1, vI v1)]) (st := []) km228 k228_2 ?_)
    refine V_mono (h.2 c2) (fun u1 m1 h1 => ?_) (fun _ _ h => h)
    exact VL_norm km228 k228_1 h1
/-- BannerParadeModel.ticks, label 4 -/
theorem w228_4 {D : Nat} {v1 : Int32} {m : XM} {Q : XM → Prop} {E : Nat → XM → Prop}
    (h : (((m 284 (ix (n32 6))) ≤ v1 → VLU (D + 5) 228 10 [(0, vR 11 (283)), (1, vI (n32 0))] [] m Q E) ∧ (¬ (m 284 (ix (n32 6))) ≤ v1 → (xin (((n32 15) + ((n32 7) * v1)) + (n32 0)) 243 = true ∧ (((m 284 (ix (((n32 15) + ((n32 7) * v1)) + (n32 0)))) ≤ (n32 0) → VLU (D + 5) 228 4 [(0, vR 11 (283)), (1, vI (v1 + (n32 1)))] [] m Q E) ∧ (¬ (m 284 (ix (((n32 15) + ((n32 7) * v1)) + (n32 0)))) ≤ (n32 0) → (xin (((n32 15) + ((n32 7) * v1)) + (n32 4)) 243 = true ∧ (((m 284 (ix (((n32 15) + ((n32 7) * v1)) + (n32 4)))) = (n32 0) → VU (D + 4) 213 [vR 11 (283), vI v1] m (fun m1 => VLU (D + 5) 228 4 [(0, vR 11 (283)), (1, vI (v1 + (n32 1)))] [] m1 Q E) E) ∧ (¬ (m 284 (ix (((n32 15) + ((n32 7) * v1)) + (n32 4)))) = (n32 0) → VLU (D + 5) 228 4 [(0, vR 11 (283)), (1, vI (v1 + (n32 1)))] [] m Q E))))))))) :
    VLU (D + 5) 228 4 [(0, vR 11 (283)), (1, vI v1)] [] m Q E := by
  refine VL_at (al := [(0, vR 11 (283)), (1, vI v1)]) (st := []) km228 k228_4 ?_
  refine And.intro (xin_k rfl) ?_
  refine And.intro (fun c4 => ?_) (fun c4 => ?_)
  · refine VL_norm km228 k228_9 (VL_at (al := [(0, vR 11 (283))]) (st := []) km228 k228_9 ?_)
    exact VL_norm km228 k228_10 (h.1 c4)
  · refine VL_norm km228 k228_5 (VL_at (al := [(0, vR 11 (283)), (1, vI v1)]) (st := []) km228 k228_5 ?_)
    refine V_of ?_
    refine VL_norm km202 k202_0 (VL_at (al := [(0, vR 11 (283)), (1, vI v1), (2, vI (n32 0))]) (st := []) km202 k202_0 ?_)
    refine And.intro (h.2 c4).1 ?_
    refine And.intro (fun c3 => ?_) (fun c3 => ?_)
    · refine VL_norm km228 k228_8 (VL_at (al := [(0, vR 11 (283)), (1, vI v1)]) (st := []) km228 k228_8 ?_)
      exact VL_norm km228 k228_4 ((h.2 c4).2.1 c3)
    · refine VL_norm km228 k228_6 (VL_at (al := [(0, vR 11 (283)), (1, vI v1)]) (st := []) km228 k228_6 ?_)
      refine V_of ?_
      refine VL_norm km202 k202_0 (VL_at (al := [(0, vR 11 (283)), (1, vI v1), (2, vI (n32 4))]) (st := []) km202 k202_0 ?_)
      refine And.intro ((h.2 c4).2.2 c3).1 ?_
      refine And.intro (fun c2 => ?_) (fun c2 => ?_)
      · refine VL_norm km228 k228_7 (VL_at (al := [(0, vR 11 (283)), (1, vI v1)]) (st := []) km228 k228_7 ?_)
        refine V_mono (((h.2 c4).2.2 c3).2.1 c2) (fun u1 m1 h1 => ?_) (fun _ _ h => h)
        refine VL_norm km228 k228_8 (VL_at (al := [(0, vR 11 (283)), (1, vI v1)]) (st := []) km228 k228_8 ?_)
        exact VL_norm km228 k228_4 h1
      · refine VL_norm km228 k228_8 (VL_at (al := [(0, vR 11 (283)), (1, vI v1)]) (st := []) km228 k228_8 ?_)
        exact VL_norm km228 k228_4 (((h.2 c4).2.2 c3).2.2 c2)
