/-! Pairs: setStep, addPlan, set. -/
section S92
variable {D : Nat} {m : XM} {g : PG} {E : Nat → XM → Prop}
theorem WF_step {b : Nat} {v : Int32} (h : WF g) (hb : b < nBr g) (hv : inR v 1 200) : keeps g (gup g (15 + 7 * b + 2) v) := by
  have a2 := h.nb
  have a4 := h.ns
  have a6 := h.np
  have a9 := h.nl
  have n6 : nBr (gup g (15 + 7 * b + 2) v) = nBr g := nBr_upd (by omega)
  have n7 : nSt (gup g (15 + 7 * b + 2) v) = nSt g := nSt_upd (by omega)
  have n8 : nPl (gup g (15 + 7 * b + 2) v) = nPl g := nPl_upd (by omega)
  have n10 : nL (gup g (15 + 7 * b + 2) v) = nL g := nL_upd (by omega)
  have e : ∀ i, i ≠ 15 + 7 * b + 2 → gup g (15 + 7 * b + 2) v i = g i := fun i hi => gup_ne hi
  have eb : gup g (15 + 7 * b + 2) v (15 + 7 * b + 2) = v := gup_eq _ _ _
  have ec : carried (gup g (15 + 7 * b + 2) v) = carried g := by
    unfold carried
    rw [n6]
    exact cnt_congr fun c hc => by rw [e _ (by omega)]
  obtain ⟨⟨b1, b2⟩, ⟨b3, b4⟩, ⟨b5, b6⟩, ⟨b7, b8⟩, ⟨c0, c1, c2, c3, c4, c5⟩, q0, q2, q3, q4, q6, qp, ql, qs⟩ := h
  refine ⟨⟨⟨?_, ?_⟩, ⟨?_, ?_⟩, ⟨?_, ?_⟩, ⟨?_, ?_⟩, ⟨?_, ?_, ?_, ?_, ?_, ?_⟩, ?_, ?_, ?_, ?_, ?_, ?_, ?_, ?_⟩, n6, n7, n8⟩
  · rw [n6, e _ (by omega)]; exact b1
  · rw [n6]; exact b2
  · rw [n7, e _ (by omega)]; exact b3
  · rw [n7]; exact b4
  · rw [n8, e _ (by omega)]; exact b5
  · rw [n8]; exact b6
  · rw [n10, e _ (by omega)]; exact b7
  · rw [n10, n6, ec]; exact b8
  · rw [e _ (by omega)]; exact c0
  · rw [e _ (by omega)]; exact c1
  · rw [e _ (by omega)]; exact c2
  · rw [e _ (by omega)]; exact c3
  · rw [e _ (by omega)]; exact c4
  · rw [e _ (by omega)]; exact c5
  · rw [n6]; intro c hc; rw [e _ (by omega)]; exact q0 c hc
  · rw [n6]; intro c hc
    by_cases ce : c = b
    · subst ce; rw [eb]; exact hv
    · rw [e _ (by omega)]; exact q2 c hc
  · rw [n6]; intro c hc; rw [e _ (by omega)]; exact q3 c hc
  · rw [n6]; intro c hc; rw [e _ (by omega)]; exact q4 c hc
  · rw [n6]; intro c hc; rw [e _ (by omega)]; exact q6 c hc
  · rw [n8, n6]; intro j hj
    have ea : aheadG (gup g (15 + 7 * b + 2) v) j = aheadG g j := by unfold aheadG; rw [e _ (by omega)]
    rw [ea, e _ (by omega)]; exact qp j hj
  · rw [n10]; intro j hj; rw [e _ (by omega)]; exact ql j hj
  · rw [n7]; intro s hs
    rw [e _ (by omega), e _ (by omega)]
    obtain ⟨x1, x2, x3⟩ := qs s hs
    refine ⟨x1, x2, fun i hi => ?_⟩
    rw [e _ (by omega)]; exact x3 i hi
theorem SI_step {b T N : Nat} {v : Int32} (h : SI g T N) (hb : b < nBr g) (hv : inR v 1 200) : SI (gup g (15 + 7 * b + 2) v) T N := by
  have a2 := h.w.nb
  have a6 := h.w.np
  exact SI_of h (WF_step h.w hb hv) (gup_ne (by omega)) (gup_ne (by omega)) (gup_ne (by omega)) (fun j hj => ⟨gup_ne (by omega), gup_ne (by omega)⟩) (fun c hc => gup_ne (by omega))
theorem p_setStep {v1 v2 : Int32} {N : Nat} (h : CPL m N) : PRI (D + 12) 148 316 [vR 10 0, vI v1, vI v2] [vR 11 283, vI v1, vI v2] mpSPA m N := by
  unfold PRI
  have no : ∀ c, (∀ t, (t = n32 0 ∨ (t = n32 1 ∧ ¬ v2 < n32 1 ∧ ¬ n32 200 < v2)) → codeOf (m 283 6) (inI v1 (n32 0) (m 284 6 - n32 1)) t = c) → 1 ≤ c → c ≤ 3 → VI (D + 12) 316 [vR 11 283, vI v1, vI v2] m (fun _ m2 => (m2 283 0 = n32 c ∧ 1 ≤ c ∧ c ≤ 3) ∧ CPL m2 N) (fun _ _ => False) := by
    intro c hc y1 y3
    have cn : ¬ c = 0 := by omega
    refine w316_0 ⟨fun _ => s243 xrt2_0 ?_, fun c1 => ⟨fun _ => s243 xrt2_0 ?_, fun c2 => s243 xrt2_1 ?_⟩⟩
    · rw [hc _ (Or.inl rfl), if_neg cn]
      exact ⟨fun _ => ⟨⟨um_eq _ _ _ _, y1, y3⟩, CPL_th h⟩, fun c => absurd rfl c⟩
    · rw [hc _ (Or.inl rfl), if_neg cn]
      exact ⟨fun _ => ⟨⟨um_eq _ _ _ _, y1, y3⟩, CPL_th h⟩, fun c => absurd rfl c⟩
    · rw [hc _ (Or.inr ⟨rfl, c1, c2⟩), if_neg cn]
      exact ⟨fun _ => ⟨⟨um_eq _ _ _ _, y1, y3⟩, CPL_th h⟩, fun c => absurd rfl c⟩
  rcases bearer_cases h v1 with ⟨h1, h2⟩ | ⟨h1, h2, h3, h4⟩ | ⟨h1, h2, hS, b, hb, rfl, h69, h4⟩
  · exact w148_0 ⟨fun _ => no 1 (fun t _ => by rw [h2, code1]) (by omega) (by omega), fun c => absurd h1 c⟩
  · have rb := no 2 (fun t _ => by rw [h2, h4, code2]) (by omega) (by omega)
    refine w148_0 ⟨fun c => absurd (h1.symm.trans c) n01, fun _ => ⟨fun _ => rb, fun d1 => ⟨fun d2 => ?_, fun _ => rb⟩⟩⟩
    rcases h3 with h3 | h3
    · exact absurd h3 d1
    · exact absurd d2 h3
  · have hS' := hS
    obtain ⟨r1, r2, r3, T, hT, si⟩ := hS
    have w := si.w
    have a2 := w.nb
    refine w148_0 ⟨fun c => absurd (h1.symm.trans c) n01, fun _ => ⟨fun c => absurd ((n32_lt (by omega) (by omega)).mp c) (by omega), fun _ => ⟨fun _ => ?_, fun c => absurd (by rw [h69]; exact (n32_lt (by omega) (by omega)).mpr hb) c⟩⟩⟩
    refine ⟨fun c1 => ?_, fun c1 => ⟨fun c2 => ?_, fun c2 => ?_⟩⟩
    · refine no 3 (fun t ht => ?_) (by omega) (by omega)
      rcases ht with rfl | ⟨-, d1, -⟩
      · rw [h2, h4, code3]
      · exact absurd c1 d1
    · refine no 3 (fun t ht => ?_) (by omega) (by omega)
      rcases ht with rfl | ⟨-, -, d2⟩
      · rw [h2, h4, code3]
      · exact absurd c2 d2
    · have hv : inR v2 1 200 := inR_of (Int32.not_lt.mp c1) (Int32.not_lt.mp c2) (by omega) (by omega)
      obtain ⟨-, -, ⟨o, k, ho, o8, hk, k8, hk7, -, hold⟩, -⟩ := id h
      refine rem_c ho hk o8 k8 r1 ?_
      intro m1 mc cp hmc rc back
      rw [ix_n32 (show b < 2147483648 by omega), rc.step hb]
      refine ⟨xin_n (by omega) (by omega), ?_⟩
      have rs2 : RS (um mc (29 + 3 + 2) b v2) 29 (gup (m 284) (15 + 7 * b + 2) v2) := RS_gup (d0 := 5) w rc (lv_step hb) (by omega) (by omega) (by omega)
      have f2 : ∀ x j, (x < 29 ∨ 49 ≤ x) → um mc (29 + 3 + 2) b v2 x j = mc x j := fun x j hx => um_a (by omega)
      have f31 : ∀ j, um mc (29 + 3 + 2) b v2 (29 + 2) j = mc (29 + 2) j := fun j => um_a (by omega)
      generalize hm2 : um mc (29 + 3 + 2) b v2 = m2 at rs2 f2 f31
      have g2 : m2 284 = m 284 := funext fun j => by rw [f2 284 j (by omega)]; exact back 284 j (by omega) (by omega)
      have l2 : m2 283 6 = n32 1 := by rw [f2 283 6 (by omega), back 283 6 (by omega) (by omega)]; exact h2
      refine w316_0 ⟨fun c => absurd c c1, fun _ => ⟨fun c => absurd c c2, fun _ => s243 xrt2_1 ?_⟩⟩
      rw [l2, g2, h4, code0]
      refine ⟨fun c => absurd c n01, fun _ => ?_⟩
      refine s309 (k := k) (by rw [um_k (by omega), f2 283 7 (by omega), back 283 7 (by omega) (by omega)]; exact hk7) k8 ?_
      intro m' F h7 hnew hkeep
      have g' : m' 284 = m 284 := funext fun j => by rw [F 284 j (by omega) (by omega), um_a (by omega), g2]
      rw [smg_of m' g']
      simp (disch := omega) only [n32_mul, n32_add, xin_t, ix_n32, smg_at, um_smg, true_and]
      obtain ⟨x1, x2⟩ := chg_fin (m2 := m2) (m' := m') (mf := m') (N' := N) h h1 hS' (Nat.le_refl _) ho o8 hk k8 hold cp hmc f2 f31 rs2 F h7 hnew hkeep (fun _ _ _ _ _ _ => rfl) hT (SI_step si hb hv) (fun i i1 i2 => gup_ne (by omega)) (gup_ne (by omega))
      first | exact ⟨⟨rfl, x1⟩, x2⟩ | exact ⟨⟨trivial, x1⟩, x2⟩ | exact ⟨x1, x2⟩
theorem lo_hi {k : Nat} (hk : k < 6) : c40 k = n32 (setLo k) ∧ c41 k = n32 (setHi k) := by
  match k, hk with
  | 0, _ => exact ⟨rfl, rfl⟩
  | 1, _ => exact ⟨rfl, rfl⟩
  | 2, _ => exact ⟨rfl, rfl⟩
  | 3, _ => exact ⟨rfl, rfl⟩
  | 4, _ => exact ⟨rfl, rfl⟩
  | 5, _ => exact ⟨rfl, rfl⟩
theorem hi_lt (k : Nat) : setLo k < 2147483648 ∧ setHi k < 2147483648 := by
  unfold setLo setHi
  constructor <;> split <;> omega
theorem s192 {k : Nat} {Q : Int32 → XM → Prop} (hk : k < 6) (h : Q (n32 (setLo k)) m) : VI D 192 [vI (n32 k)] m Q E := by
  match k, hk with
  | 0, _ => exact w192_0 ⟨fun _ => h, fun c => absurd rfl c⟩
  | 1, _ => exact w192_0 ⟨fun c => absurd c (n32_ne (by decide) (by decide) (by decide)), fun _ => ⟨fun c => absurd c (n32_ne (by decide) (by decide) (by decide)), fun _ => ⟨fun c => absurd c (n32_ne (by decide) (by decide) (by decide)), fun _ => h⟩⟩⟩
  | 2, _ => exact w192_0 ⟨fun c => absurd c (n32_ne (by decide) (by decide) (by decide)), fun _ => ⟨fun _ => h, fun c => absurd rfl c⟩⟩
  | 3, _ => exact w192_0 ⟨fun c => absurd c (n32_ne (by decide) (by decide) (by decide)), fun _ => ⟨fun c => absurd c (n32_ne (by decide) (by decide) (by decide)), fun _ => ⟨fun c => absurd c (n32_ne (by decide) (by decide) (by decide)), fun _ => h⟩⟩⟩
  | 4, _ => exact w192_0 ⟨fun c => absurd c (n32_ne (by decide) (by decide) (by decide)), fun _ => ⟨fun c => absurd c (n32_ne (by decide) (by decide) (by decide)), fun _ => ⟨fun _ => h, fun c => absurd rfl c⟩⟩⟩
  | 5, _ => exact w192_0 ⟨fun c => absurd c (n32_ne (by decide) (by decide) (by decide)), fun _ => ⟨fun c => absurd c (n32_ne (by decide) (by decide) (by decide)), fun _ => ⟨fun c => absurd c (n32_ne (by decide) (by decide) (by decide)), fun _ => h⟩⟩⟩
theorem s193 {k : Nat} {Q : Int32 → XM → Prop} (hk : k < 6) (h : Q (n32 (setHi k)) m) : VI D 193 [vI (n32 k)] m Q E := by
  match k, hk with
  | 0, _ => exact w193_0 ⟨fun _ => h, fun c => absurd rfl c⟩
  | 1, _ => exact w193_0 ⟨fun c => absurd c (n32_ne (by decide) (by decide) (by decide)), fun _ => ⟨fun _ => h, fun c => absurd rfl c⟩⟩
  | 2, _ => exact w193_0 ⟨fun c => absurd c (n32_ne (by decide) (by decide) (by decide)), fun _ => ⟨fun c => absurd c (n32_ne (by decide) (by decide) (by decide)), fun _ => ⟨fun _ => h, fun c => absurd rfl c⟩⟩⟩
  | 3, _ => exact w193_0 ⟨fun c => absurd c (n32_ne (by decide) (by decide) (by decide)), fun _ => ⟨fun c => absurd c (n32_ne (by decide) (by decide) (by decide)), fun _ => ⟨fun c => absurd c (n32_ne (by decide) (by decide) (by decide)), fun _ => ⟨fun _ => h, fun c => absurd rfl c⟩⟩⟩⟩
  | 4, _ => exact w193_0 ⟨fun c => absurd c (n32_ne (by decide) (by decide) (by decide)), fun _ => ⟨fun c => absurd c (n32_ne (by decide) (by decide) (by decide)), fun _ => ⟨fun c => absurd c (n32_ne (by decide) (by decide) (by decide)), fun _ => ⟨fun c => absurd c (n32_ne (by decide) (by decide) (by decide)), fun _ => ⟨fun _ => h, fun c => absurd rfl c⟩⟩⟩⟩⟩
  | 5, _ => exact w193_0 ⟨fun c => absurd c (n32_ne (by decide) (by decide) (by decide)), fun _ => ⟨fun c => absurd c (n32_ne (by decide) (by decide) (by decide)), fun _ => ⟨fun c => absurd c (n32_ne (by decide) (by decide) (by decide)), fun _ => ⟨fun c => absurd c (n32_ne (by decide) (by decide) (by decide)), fun _ => ⟨fun c => absurd c (n32_ne (by decide) (by decide) (by decide)), fun _ => h⟩⟩⟩⟩⟩
theorem p_set {v1 v2 : Int32} {N : Nat} (h : CPL m N) : PRI (D + 12) 150 318 [vR 10 0, vI v1, vI v2] [vR 11 283, vI v1, vI v2] mpSA m N := by
  unfold PRI
  have no : ∀ c, (∀ t, (t = n32 0 ∨ (t = n32 1 ∧ ∃ k, k < 6 ∧ v1 = n32 k ∧ ¬ v2 < n32 (setLo k) ∧ ¬ n32 (setHi k) < v2)) → codeOf (m 283 6) t (n32 1) = c) → 1 ≤ c → c ≤ 3 → VI (D + 12) 318 [vR 11 283, vI v1, vI v2] m (fun _ m2 => (m2 283 0 = n32 c ∧ 1 ≤ c ∧ c ≤ 3) ∧ CPL m2 N) (fun _ _ => False) := by
    intro c hc y1 y3
    have cn : ¬ c = 0 := by omega
    rcases rng_cases v1 5 (by omega) with ⟨d1, -⟩ | ⟨d1, d2, -⟩ | ⟨k, hk, rfl, -⟩
    · refine w318_0 ⟨fun _ => s177 ?_, fun c => absurd d1 c⟩
      rw [hc _ (Or.inl rfl), if_neg cn]
      exact ⟨fun _ => ⟨⟨um_eq _ _ _ _, y1, y3⟩, CPL_th h⟩, fun c => absurd rfl c⟩
    · refine w318_0 ⟨fun c => absurd c d1, fun _ => ⟨fun _ => s177 ?_, fun c => absurd d2 c⟩⟩
      rw [hc _ (Or.inl rfl), if_neg cn]
      exact ⟨fun _ => ⟨⟨um_eq _ _ _ _, y1, y3⟩, CPL_th h⟩, fun c => absurd rfl c⟩
    · refine w318_0 ⟨fun c => absurd ((n32_lt (by omega) (by omega)).mp c) (by omega), fun _ => ⟨fun c => absurd ((n32_lt (by omega) (by omega)).mp c) (by omega), fun _ => s192 (by omega) (s193 (by omega) ?_)⟩⟩
      refine ⟨fun d1 => s177 ?_, fun d1 => ⟨fun d2 => s177 ?_, fun d2 => s177 ?_⟩⟩
      · rw [hc _ (Or.inl rfl), if_neg cn]
        exact ⟨fun _ => ⟨⟨um_eq _ _ _ _, y1, y3⟩, CPL_th h⟩, fun c => absurd rfl c⟩
      · rw [hc _ (Or.inl rfl), if_neg cn]
        exact ⟨fun _ => ⟨⟨um_eq _ _ _ _, y1, y3⟩, CPL_th h⟩, fun c => absurd rfl c⟩
      · rw [hc _ (Or.inr ⟨rfl, k, by omega, rfl, d1, d2⟩), if_neg cn]
        exact ⟨fun _ => ⟨⟨um_eq _ _ _ _, y1, y3⟩, CPL_th h⟩, fun c => absurd rfl c⟩
  rcases h.ld with ⟨h1, h2⟩ | ⟨h1, h2, hS⟩
  · exact w150_0 ⟨fun _ => no 1 (fun t _ => by rw [h2, code1]) (by omega) (by omega), fun c => absurd h1 c⟩
  · have hS' := hS
    obtain ⟨r1, r2, r3, T, hT, si⟩ := hS
    have w := si.w
    rcases rng_cases v1 5 (by omega) with ⟨d1, -⟩ | ⟨d1, d2, -⟩ | ⟨k1, hk1, rfl, -⟩
    · refine w150_0 ⟨fun c => absurd (h1.symm.trans c) n01, fun _ => ⟨fun _ => no 2 (fun t ht => ?_) (by omega) (by omega), fun c => absurd d1 c⟩⟩
      rcases ht with rfl | ⟨-, k, hk, e, -⟩
      · rw [h2, code2]
      · rw [e] at d1; exact absurd ((n32_lt (by omega) (by omega)).mp d1) (by omega)
    · refine w150_0 ⟨fun c => absurd (h1.symm.trans c) n01, fun _ => ⟨fun c => absurd c d1, fun _ => ⟨fun _ => no 2 (fun t ht => ?_) (by omega) (by omega), fun c => absurd d2 c⟩⟩⟩
      rcases ht with rfl | ⟨-, k, hk, e, -⟩
      · rw [h2, code2]
      · rw [e] at d2; exact absurd ((n32_lt (by omega) (by omega)).mp d2) (by omega)
    · have n0 : ¬ n32 k1 < n32 0 := by rw [n32_lt (by omega) (by omega)]; omega
      have nk : ¬ n32 5 < n32 k1 := by rw [n32_lt (by omega) (by omega)]; omega
      obtain ⟨lo, hi⟩ := lo_hi (show k1 < 6 by omega)
      obtain ⟨lo1, hi1⟩ := hi_lt k1
      refine w150_0 ⟨fun c => absurd (h1.symm.trans c) n01, fun _ => ⟨fun c => absurd c n0, fun _ => ⟨fun c => absurd c nk, fun _ => ⟨xin_n (by omega) (by omega), ?_⟩⟩⟩⟩
      rw [ix_n32 (show k1 < 2147483648 by omega), lo, hi]
      refine ⟨fun c1 => ?_, fun c1 => ⟨fun c2 => ?_, fun c2 => ?_⟩⟩
      · refine no 2 (fun t ht => ?_) (by omega) (by omega)
        rcases ht with rfl | ⟨-, k, hk, e, d1, -⟩
        · rw [h2, code2]
        · rw [n32_inj (by omega) (by omega) e] at c1
          exact absurd c1 d1
      · refine no 2 (fun t ht => ?_) (by omega) (by omega)
        rcases ht with rfl | ⟨-, k, hk, e, -, d2⟩
        · rw [h2, code2]
        · rw [n32_inj (by omega) (by omega) e] at c2
          exact absurd c2 d2
      · have hv : inR v2 (setLo k1) (setHi k1) := inR_of (Int32.not_lt.mp c1) (Int32.not_lt.mp c2) lo1 hi1
        obtain ⟨-, -, ⟨o, k, ho, o8, hk, k8, hk7, -, hold⟩, -⟩ := id h
        refine rem_c ho hk o8 k8 r1 ?_
        intro m1 mc cp hmc rc back
        rw [rc.se (show k1 < 6 by omega)]
        have rs2 : RS (um mc (29 + 1) k1 v2) 29 (gup (m 284) k1 v2) := RS_set w rc (by omega)
        have f2 : ∀ x j, (x < 29 ∨ 49 ≤ x) → um mc (29 + 1) k1 v2 x j = mc x j := fun x j hx => um_a (by omega)
        have f31 : ∀ j, um mc (29 + 1) k1 v2 (29 + 2) j = mc (29 + 2) j := fun j => um_a (by omega)
        generalize hm2 : um mc (29 + 1) k1 v2 = m2 at rs2 f2 f31
        have g2 : m2 284 = m 284 := funext fun j => by rw [f2 284 j (by omega)]; exact back 284 j (by omega) (by omega)
        have l2 : m2 283 6 = n32 1 := by rw [f2 283 6 (by omega), back 283 6 (by omega) (by omega)]; exact h2
        refine w318_0 ⟨fun c => absurd c n0, fun _ => ⟨fun c => absurd c nk, fun _ => s192 (by omega) (s193 (by omega) ?_)⟩⟩
        refine ⟨fun c => absurd c c1, fun _ => ⟨fun c => absurd c c2, fun _ => s177 ?_⟩⟩
        rw [l2, code0]
        refine ⟨fun c => absurd c n01, fun _ => ?_⟩
        refine s309 (k := k) (by rw [um_k (by omega), f2 283 7 (by omega), back 283 7 (by omega) (by omega)]; exact hk7) k8 ?_
        intro m' F h7 hnew hkeep
        have g' : m' 284 = m 284 := funext fun j => by rw [F 284 j (by omega) (by omega), um_a (by omega), g2]
        rw [smg_of m' g']
        simp (disch := omega) only [xin_t, ix_n32, smg_at, um_smg, true_and]
        obtain ⟨x1, x2⟩ := chg_fin (m2 := m2) (m' := m') (mf := m') (N' := N) h h1 hS' (Nat.le_refl _) ho o8 hk k8 hold cp hmc f2 f31 rs2 F h7 hnew hkeep (fun _ _ _ _ _ _ => rfl) hT (SI_set si (by omega) hv) (fun i i1 i2 => gup_ne (by omega)) (gup_ne (by omega))
        first | exact ⟨⟨rfl, x1⟩, x2⟩ | exact ⟨⟨trivial, x1⟩, x2⟩ | exact ⟨x1, x2⟩
/-- one more plan -/
def plG (g : PG) (t b : Int32) : PG := gup (gup (gup (gup g (171 + 3 * nPl g) t) (171 + 3 * nPl g + 1) b) (171 + 3 * nPl g + 2) (n32 0)) 8 (n32 (nPl g + 1))
theorem plG_at {t b : Int32} {j : Nat} (h : j ≠ 8) (h1 : j < 171 + 3 * nPl g ∨ 171 + 3 * nPl g + 3 ≤ j) : plG g t b j = g j := by
  unfold plG
  rw [gup_ne h, gup_ne (by omega), gup_ne (by omega), gup_ne (by omega)]
theorem plG_0 {t b : Int32} : plG g t b (171 + 3 * nPl g) = t := by
  unfold plG
  rw [gup_ne (by omega), gup_ne (by omega), gup_ne (by omega), gup_eq]
theorem plG_1 {t b : Int32} : plG g t b (171 + 3 * nPl g + 1) = b := by
  unfold plG
  rw [gup_ne (by omega), gup_ne (by omega), gup_eq]
theorem plG_2 {t b : Int32} : plG g t b (171 + 3 * nPl g + 2) = n32 0 := by
  unfold plG
  rw [gup_ne (by omega), gup_eq]
theorem plG_8 {t b : Int32} (w : WF g) : plG g t b 8 = n32 (nPl g + 1) ∧ nPl (plG g t b) = nPl g + 1 := by
  have a6 := w.np
  have e : plG g t b 8 = n32 (nPl g + 1) := by unfold plG; rw [gup_eq]
  refine ⟨e, ?_⟩
  unfold nPl at *
  rw [e, ix_n32 (by omega)]
theorem WF_pl {b : Nat} {t : Int32} (h : WF g) (hb : b + 1 < nBr g) (h12 : nPl g < 12) : WF (plG g t (n32 b)) ∧ nBr (plG g t (n32 b)) = nBr g ∧ nSt (plG g t (n32 b)) = nSt g ∧ nL (plG g t (n32 b)) = nL g := by
  have a2 := h.nb
  have a4 := h.ns
  have a9 := h.nl
  obtain ⟨p1, p2⟩ := plG_8 (t := t) (b := n32 b) h
  have n6 : nBr (plG g t (n32 b)) = nBr g := by unfold nBr; rw [plG_at (by omega) (by omega)]
  have n7 : nSt (plG g t (n32 b)) = nSt g := by unfold nSt; rw [plG_at (by omega) (by omega)]
  have n10 : nL (plG g t (n32 b)) = nL g := by unfold nL; rw [plG_at (by omega) (by omega)]
  have e : ∀ i, i ≠ 8 → (i < 171 + 3 * nPl g ∨ 171 + 3 * nPl g + 3 ≤ i) → plG g t (n32 b) i = g i := fun i h1 h2 => plG_at h1 h2
  have ec : carried (plG g t (n32 b)) = carried g := by
    unfold carried
    rw [n6]
    exact cnt_congr fun c hc => by rw [e _ (by omega) (by omega)]
  have k1 : plG g t (n32 b) (171 + 3 * nPl g + 1) = n32 b := plG_1
  obtain ⟨⟨b1, b2⟩, ⟨b3, b4⟩, ⟨b5, b6⟩, ⟨b7, b8⟩, ⟨c0, c1, c2, c3, c4, c5⟩, q0, q2, q3, q4, q6, qp, ql, qs⟩ := h
  refine ⟨⟨⟨?_, ?_⟩, ⟨?_, ?_⟩, ⟨?_, ?_⟩, ⟨?_, ?_⟩, ⟨?_, ?_, ?_, ?_, ?_, ?_⟩, ?_, ?_, ?_, ?_, ?_, ?_, ?_, ?_⟩, n6, n7, n10⟩
  · rw [n6, e _ (by omega) (by omega)]; exact b1
  · rw [n6]; exact b2
  · rw [n7, e _ (by omega) (by omega)]; exact b3
  · rw [n7]; exact b4
  · rw [p2]; exact p1
  · rw [p2]; omega
  · rw [n10, e _ (by omega) (by omega)]; exact b7
  · rw [n10, n6, ec]; exact b8
  · rw [e _ (by omega) (by omega)]; exact c0
  · rw [e _ (by omega) (by omega)]; exact c1
  · rw [e _ (by omega) (by omega)]; exact c2
  · rw [e _ (by omega) (by omega)]; exact c3
  · rw [e _ (by omega) (by omega)]; exact c4
  · rw [e _ (by omega) (by omega)]; exact c5
  · rw [n6]; intro c hc; rw [e _ (by omega) (by omega)]; exact q0 c hc
  · rw [n6]; intro c hc; rw [e _ (by omega) (by omega)]; exact q2 c hc
  · rw [n6]; intro c hc; rw [e _ (by omega) (by omega)]; exact q3 c hc
  · rw [n6]; intro c hc; rw [e _ (by omega) (by omega)]; exact q4 c hc
  · rw [n6]; intro c hc; rw [e _ (by omega) (by omega)]; exact q6 c hc
  · rw [p2, n6]; intro j hj
    by_cases ej : j = nPl g
    · subst ej
      have ea : aheadG (plG g t (n32 b)) (nPl g) = b := by unfold aheadG; rw [k1, ix_n32 (by omega)]
      rw [ea, k1]
      exact ⟨rfl, hb⟩
    · have ea : aheadG (plG g t (n32 b)) j = aheadG g j := by unfold aheadG; rw [e _ (by omega) (by omega)]
      rw [ea, e _ (by omega) (by omega)]; exact qp j (by omega)
  · rw [n10]; intro j hj; rw [e _ (by omega) (by omega)]; exact ql j hj
  · rw [n7]; intro s hs
    obtain ⟨x1, x2, x3⟩ := qs s hs
    have hl : ∀ i, i < ix (g (99 + 12 * s + 2)) → i < 8 := by
      obtain ⟨n, y1, y2, y3⟩ := x2
      intro i hi
      rw [y3, ix_n32 (by omega)] at hi; omega
    rw [e _ (by omega) (by omega), e _ (by omega) (by omega)]
    refine ⟨x1, x2, fun i hi => ?_⟩
    have := hl i hi
    rw [e _ (by omega) (by omega)]; exact x3 i hi
theorem SI_pl {b t T N : Nat} (h : SI g T N) (hb : b + 1 < nBr g) (h12 : nPl g < 12) (t1 : 1 ≤ t) (t2 : t ≤ 5000) : SI (plG g (n32 t) (n32 b)) T N := by
  have a2 := h.w.nb
  have kk := WF_pl (t := n32 t) h.w hb h12
  obtain ⟨p1, p2⟩ := plG_8 (t := n32 t) (b := n32 b) h.w
  obtain ⟨w, i9, ip, im, ix', d, d1, d2⟩ := h
  refine ⟨kk.1, by rw [plG_at (by omega) (by omega)]; exact i9, ?_, ?_, ?_, d, by rw [plG_at (by omega) (by omega)]; exact d1, d2⟩
  · intro j hj
    rw [p2] at hj
    by_cases ej : j = nPl g
    · subst ej
      exact ⟨t, 0, plG_0, t1, t2, plG_2, by omega, fun e => absurd rfl e⟩
    · rw [plG_at (by omega) (by omega), plG_at (by omega) (by omega)]; exact ip j (by omega)
  · unfold SIm
    rw [plG_at (by omega) (by omega), p2, cnt_succ, plG_2, decide_eq_false (by decide), if_neg (by decide), im]
    congr 1
    exact cnt_congr fun j hj => by rw [plG_at (by omega) (by omega)]
  · intro c hc
    rw [kk.2.1] at hc
    rw [plG_at (by omega) (by omega)]; exact ix' c hc
theorem RS_pl {a : Nat} {t b : Int32} (w : WF g) (r : RS m a g) (hn : nPl g < 12) (kk : nBr (plG g t b) = nBr g ∧ nL (plG g t b) = nL g ∧ nPl (plG g t b) = nPl g + 1) : RS (um (um (um (um m (a + 17) (nPl g) t) (a + 18) (nPl g) b) (a + 19) (nPl g) (n32 0)) (a + 16) 0 (n32 (nPl g + 1))) a (plG g t b) := by
  have a2 := w.nb
  have a9 := w.nl
  have r1 := RSn_gup (d0 := 17) (k0 := nPl g) (v := t) r a2 (by omega) (by omega) (lv_pt hn)
  have r2 := RSn_gup (d0 := 18) (k0 := nPl g) (v := b) r1 a2 (by omega) (by omega) (lv_pa hn)
  have r3 := RSn_gup (d0 := 19) (k0 := nPl g) (v := n32 0) r2 a2 (by omega) (by omega) (lv_po hn)
  have r4 : RSn (um (um (um m (a + 17) (nPl g) t) (a + 18) (nPl g) b) (a + 19) (nPl g) (n32 0)) a (gup (gup (gup g (171 + 3 * nPl g) t) (171 + 3 * nPl g + 1) b) (171 + 3 * nPl g + 2) (n32 0)) (nBr g) (nL g) (nPl g + 1) := by
    intro d k i hl
    by_cases e : k = nPl g ∧ (d = 17 ∨ d = 18 ∨ d = 19)
    · obtain ⟨rfl, e⟩ := e
      have hl' := (lvn_fb (lvn_up hl a2 (by omega) (by omega))).1
      rcases e with rfl | rfl | rfl
      · have : i = 171 + 3 * nPl g := hl'.symm
        subst this
        rw [um_a (by omega), um_a (by omega), um_eq, gup_ne (by omega), gup_ne (by omega), gup_eq]
      · have : i = 171 + 3 * nPl g + 1 := hl'.symm
        subst this
        rw [um_a (by omega), um_eq, gup_ne (by omega), gup_eq]
      · have : i = 171 + 3 * nPl g + 2 := hl'.symm
        subst this
        rw [um_eq, gup_eq]
    · refine r3 d k i ?_
      rcases hl with hl | hl | hl | hl | hl | hl
      · exact Or.inl hl
      · exact Or.inr (Or.inl hl)
      · exact Or.inr (Or.inr (Or.inl hl))
      · exact Or.inr (Or.inr (Or.inr (Or.inl hl)))
      · exact Or.inr (Or.inr (Or.inr (Or.inr (Or.inl hl))))
      · exact Or.inr (Or.inr (Or.inr (Or.inr (Or.inr ⟨by omega, hl.2⟩))))
  have r5 := RSn_gup (d0 := 16) (k0 := 0) (v := n32 (nPl g + 1)) r4 a2 (by omega) (by omega) lv_np
  unfold RS
  rw [kk.1, kk.2.1, kk.2.2]
  exact r5
theorem p_addPlan {v1 v2 : Int32} {N : Nat} (h : CPL m N) : PRI (D + 12) 149 317 [vR 10 0, vI v1, vI v2] [vR 11 283, vI v1, vI v2] mpSPA m N := by
  unfold PRI
  have no : ∀ c, (∀ t, (t = n32 0 ∨ (t = n32 1 ∧ ¬ v1 ≤ m 284 9 ∧ ¬ n32 5000 < v1 ∧ ¬ m 284 6 - n32 1 ≤ v2 ∧ ¬ n32 12 ≤ m 284 8)) → codeOf (m 283 6) (inI v2 (n32 0) (m 284 6 - n32 1)) t = c) → 1 ≤ c → c ≤ 3 → VI (D + 12) 317 [vR 11 283, vI v1, vI v2] m (fun _ m2 => (m2 283 0 = n32 c ∧ 1 ≤ c ∧ c ≤ 3) ∧ CPL m2 N) (fun _ _ => False) := by
    intro c hc y1 y3
    have cn : ¬ c = 0 := by omega
    have f0 : ∀ (k : Int32 → XM → Prop), k (n32 0) (um m 283 0 (n32 c)) → VI (D + 11) 243 [vR 11 283, vI v2, vI (n32 0)] m k (fun _ _ => False) := by
      intro k hk
      refine s243 xrt2_0 ?_
      rw [hc _ (Or.inl rfl), if_neg cn]
      exact hk
    have fin : ((um m 283 0 (n32 c)) 283 0 = n32 c ∧ 1 ≤ c ∧ c ≤ 3) ∧ CPL (um m 283 0 (n32 c)) N := ⟨⟨um_eq _ _ _ _, y1, y3⟩, CPL_th h⟩
    refine w317_0 ⟨fun _ => f0 _ ⟨fun _ => fin, fun c => absurd rfl c⟩, fun c1 => ⟨fun _ => f0 _ ⟨fun _ => fin, fun c => absurd rfl c⟩, fun c2 => ⟨fun _ => f0 _ ⟨fun _ => fin, fun c => absurd rfl c⟩, fun c3 => ⟨fun _ => f0 _ ⟨fun _ => fin, fun c => absurd rfl c⟩, fun c4 => s243 xrt2_1 ?_⟩⟩⟩⟩
    rw [ix_n32 (by omega)] at c1 c3 c4
    rw [hc _ (Or.inr ⟨rfl, c1, c2, c3, c4⟩), if_neg cn]
    exact ⟨fun _ => fin, fun c => absurd rfl c⟩
  rcases bearer_cases h v2 with ⟨h1, h2⟩ | ⟨h1, h2, h3, h4⟩ | ⟨h1, h2, hS, b, hb, rfl, h69, h4⟩
  · exact w149_0 ⟨fun _ => no 1 (fun t _ => by rw [h2, code1]) (by omega) (by omega), fun c => absurd h1 c⟩
  · have rb := no 2 (fun t _ => by rw [h2, h4, code2]) (by omega) (by omega)
    refine w149_0 ⟨fun c => absurd (h1.symm.trans c) n01, fun _ => ⟨fun _ => rb, fun d1 => ⟨fun d2 => ?_, fun _ => rb⟩⟩⟩
    rcases h3 with h3 | h3
    · exact absurd h3 d1
    · exact absurd d2 h3
  · have hS' := hS
    obtain ⟨r1, r2, r3, T, hT, si⟩ := hS
    have w := si.w
    have a2 := w.nb
    have a6 := w.np
    have e6 := w.1.1
    have e8 := w.2.2.1.1
    have e9 := si.2.1
    have e16 : m (29 + 16) 0 = n32 (nPl (m 284)) := by rw [r1.np]; exact e8
    refine w149_0 ⟨fun c => absurd (h1.symm.trans c) n01, fun _ => ⟨fun c => absurd ((n32_lt (by omega) (by omega)).mp c) (by omega), fun _ => ⟨fun _ => ?_, fun c => absurd (by rw [h69]; exact (n32_lt (by omega) (by omega)).mpr hb) c⟩⟩⟩
    rw [r1.tm, e9, h69, e16, n32_add, n32_add]
    have cv : v1 < n32 (T + 1) ↔ v1 ≤ n32 T := by
      rw [Int32.lt_iff_toInt_lt, Int32.le_iff_toInt_le, n32_toInt (by omega), n32_toInt (by omega)]
      omega
    have no3 : (¬ v1 ≤ m 284 9 ∧ ¬ n32 5000 < v1 ∧ ¬ m 284 6 - n32 1 ≤ n32 b ∧ ¬ n32 12 ≤ m 284 8 → False) → VI (D + 12) 317 [vR 11 283, vI v1, vI (n32 b)] m (fun _ m2 => (m2 283 0 = n32 3 ∧ 1 ≤ 3 ∧ 3 ≤ 3) ∧ CPL m2 N) (fun _ _ => False) := by
      intro hno
      refine no 3 (fun t ht => ?_) (by omega) (by omega)
      rcases ht with rfl | ⟨-, q⟩
      · rw [h2, h4, code3]
      · exact absurd q hno
    refine ⟨fun c1 => no3 (fun q => q.1 (by rw [e9]; exact cv.mp c1)), fun c1 => ⟨fun c2 => no3 (fun q => q.2.1 c2), fun c2 => ⟨fun c3 => no3 (fun q => q.2.2.1 ?_), fun c3 => ⟨fun c4 => no3 (fun q => q.2.2.2 (by rw [e8]; exact c4)), fun c4 => ?_⟩⟩⟩⟩
    · have := (n32_le (by omega) (by omega)).mp c3
      rw [e6, n32_sub (by omega)]
      exact (n32_le (by omega) (by omega)).mpr (by omega)
    · have hb1 : b + 1 < nBr (m 284) := by
        have : ¬ nBr (m 284) ≤ b + 1 := fun e => c3 ((n32_le (by omega) (by omega)).mpr e)
        omega
      have hp12 : nPl (m 284) < 12 := by
        have : ¬ 12 ≤ nPl (m 284) := fun e => c4 ((n32_le (by omega) (by omega)).mpr e)
        omega
      obtain ⟨t, t1, t2, rfl⟩ : inR v1 (T + 1) 5000 := inR_of (Int32.not_lt.mp c1) (Int32.not_lt.mp c2) (by omega) (by omega)
      obtain ⟨-, -, ⟨o, k, ho, o8, hk, k8, hk7, -, hold⟩, -⟩ := id h
      refine rem_c ho hk o8 k8 r1 ?_
      intro m1 mc cp hmc rc back
      have ec : mc (29 + 16) 0 = n32 (nPl (m 284)) := by rw [rc.np]; exact e8
      simp (disch := omega) only [ec, um_a, xin_t, ix_n32, lt_t, not_true_eq_false, false_implies, true_implies, and_true, true_and]
      rintro μ rfl
      simp (disch := omega) only [ec, um_a, um_eq, n32_add, n32_sub, Nat.add_sub_cancel]
      have kk := WF_pl (t := n32 t) w hb1 hp12
      have p8 := plG_8 (t := n32 t) (b := n32 b) w
      have rs2 := RS_pl (t := n32 t) (b := n32 b) w rc hp12 ⟨kk.2.1, kk.2.2.2, p8.2⟩
      have f2 : ∀ x j, (x < 29 ∨ 49 ≤ x) → um (um (um (um mc (29 + 17) (nPl (m 284)) (n32 t)) (29 + 18) (nPl (m 284)) (n32 b)) (29 + 19) (nPl (m 284)) (n32 0)) (29 + 16) 0 (n32 (nPl (m 284) + 1)) x j = mc x j := fun x j hx => by rw [um_a (by omega), um_a (by omega), um_a (by omega), um_a (by omega)]
      have f31 : ∀ j, um (um (um (um mc (29 + 17) (nPl (m 284)) (n32 t)) (29 + 18) (nPl (m 284)) (n32 b)) (29 + 19) (nPl (m 284)) (n32 0)) (29 + 16) 0 (n32 (nPl (m 284) + 1)) (29 + 2) j = mc (29 + 2) j := fun j => by rw [um_a (by omega), um_a (by omega), um_a (by omega), um_a (by omega)]
      show VI (D + 12) 317 _ (um (um (um (um mc (29 + 17) (nPl (m 284)) (n32 t)) (29 + 18) (nPl (m 284)) (n32 b)) (29 + 19) (nPl (m 284)) (n32 0)) (29 + 16) 0 (n32 (nPl (m 284) + 1))) _ _
      generalize um (um (um (um mc (29 + 17) (nPl (m 284)) (n32 t)) (29 + 18) (nPl (m 284)) (n32 b)) (29 + 19) (nPl (m 284)) (n32 0)) (29 + 16) 0 (n32 (nPl (m 284) + 1)) = m2 at rs2 f2 f31 ⊢
      have g2 : m2 284 = m 284 := funext fun j => by rw [f2 284 j (by omega)]; exact back 284 j (by omega) (by omega)
      have l2 : m2 283 6 = n32 1 := by rw [f2 283 6 (by omega), back 283 6 (by omega) (by omega)]; exact h2
      refine w317_0 ⟨fun c => ?_, fun _ => ⟨fun c => absurd c c2, fun _ => ⟨fun c => ?_, fun _ => ⟨fun c => ?_, fun _ => s243 xrt2_1 ?_⟩⟩⟩⟩
      · rw [ix_n32 (by omega), g2, e9] at c
        exact absurd ((n32_le (by omega) (by omega)).mp c) (by omega)
      · rw [ix_n32 (by omega), g2, e6, n32_sub (by omega)] at c
        exact absurd ((n32_le (by omega) (by omega)).mp c) (by omega)
      · rw [ix_n32 (by omega), g2, e8] at c
        exact absurd c c4
      rw [l2, g2, h4, code0]
      refine ⟨fun c => absurd c n01, fun _ => ?_⟩
      refine s309 (k := k) (by rw [um_k (by omega), f2 283 7 (by omega), back 283 7 (by omega) (by omega)]; exact hk7) k8 ?_
      intro m' F h7 hnew hkeep
      have g' : m' 284 = m 284 := funext fun j => by rw [F 284 j (by omega) (by omega), um_a (by omega), g2]
      rw [smg_of m' g']
      simp (disch := omega) only [n32_mul, n32_add, xin_t, ix_n32, smg_at, um_smg, e8, true_and]
      rintro μ rfl
      simp (disch := omega) only [smg_at, um_smg, gup_ne, gup_eq, e8, n32_add, n32_sub, Nat.add_sub_cancel]
      obtain ⟨x1, x2⟩ := chg_fin (m2 := m2) (m' := m') (mf := m') (g' := plG (m 284) (n32 t) (n32 b)) (N' := N) h h1 hS' (Nat.le_refl _) ho o8 hk k8 hold cp hmc f2 f31 rs2 F h7 hnew hkeep (fun _ _ _ _ _ _ => rfl) hT (SI_pl si hb1 hp12 (by omega) t2) (fun i i1 i2 => plG_at (by omega) (by omega)) (plG_at (by omega) (by omega))
      first | exact ⟨⟨rfl, x1⟩, x2⟩ | exact ⟨⟨trivial, x1⟩, x2⟩ | exact ⟨x1, x2⟩
end S92
