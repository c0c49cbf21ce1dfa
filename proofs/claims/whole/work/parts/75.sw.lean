/-! Pair: swap. -/
section SWQ
variable {D : Nat} {m : XM} {g : PG} {E : Nat → XM → Prop}
theorem s74' {a b : Nat} {Q : Int32 → XM → Prop} (w : WF g) (r : RS m a g) (hb : b < nBr g) (hb2 : ¬ b + 1 < nBr g) (h : Q (n32 0) m) : VI (D + 1) 74 [vR 8 a, vI (n32 b)] m Q E := by
  have a2 := w.nb
  have h6 : m (a + 3) 0 = n32 (nBr g) := by rw [r.nb]; exact w.1.1
  refine w74_0 ⟨fun c => absurd ((n32_lt (by omega) (by omega)).mp c) (by omega), fun _ => ⟨fun _ => h, fun c => ?_⟩⟩
  rw [h6, n32_add] at c
  exact absurd ((n32_le (by omega) (by omega)).mpr (by omega)) c
theorem s216' {b : Nat} {Q : Int32 → XM → Prop} (w : WF g) (hb : b < nBr g) (hb2 : ¬ b + 1 < nBr g) (h : Q (n32 0) (smg m g)) : VI (D + 2) 216 [vR 11 283, vI (n32 b)] (smg m g) Q E := by
  have a2 := w.nb
  have h6 := w.1.1
  refine w216_0 ?_
  simp (disch := omega) only [n32_add, n32_sub, ix_n32, smg_at, h6, lt_f, lt_t, false_implies, true_implies, not_false_eq_true, not_true_eq_false, true_and, and_true]
  exact h
theorem t311_no {v1 : Int32} {N c : Nat} {Q : Int32 → XM → Prop} (h : CPL m N) (hc : (m 283 6 = n32 0 ∧ c = 1) ∨ (m 283 6 = n32 1 ∧ inI v1 (n32 0) (m 284 6 - n32 1) = n32 0 ∧ c = 2)) (hQ : ∀ r m', m' 283 0 = n32 c → CPL m' N → Q r m') : VI (D + 3) 311 [vR 11 283, vI v1] m Q E := by
  have fin := fun r => hQ r _ (um_eq m 283 0 (n32 c)) (CPL_th h)
  rcases hc with ⟨h2, rfl⟩ | ⟨h2, h4, rfl⟩
  · refine w311_0 ⟨fun _ => s176 ?_, fun c => absurd h2 c⟩
    rw [h2, code1]
    exact ⟨fun _ => fin _, fun c => absurd rfl c⟩
  · refine w311_0 ⟨fun c => absurd (h2.symm.trans c) n01, fun _ => ⟨fun _ => s176 ?_, fun c1 => ⟨fun _ => s176 ?_, fun c2 => ?_⟩⟩⟩
    · rw [h2, code2]
      exact ⟨fun _ => fin _, fun c => absurd rfl c⟩
    · rw [h2, code2]
      exact ⟨fun _ => fin _, fun c => absurd rfl c⟩
    · rw [ix_n32 (by omega)] at c2
      unfold inI at h4
      rw [if_neg c1, if_neg c2] at h4
      exact absurd h4 n01
theorem p_swap {v1 : Int32} {N : Nat} (h : CPL m N) : PRI (D + 12) 143 311 [vR 10 0, vI v1] [vR 11 283, vI v1] mpSPA m N := by
  unfold PRI
  rcases bearer_cases h v1 with ⟨h1, h2⟩ | ⟨h1, h2, h3, h4⟩ | ⟨h1, h2, hS, b, hb, rfl, h69, h4⟩
  · refine w143_0 ⟨fun _ => ?_, fun c => absurd h1 c⟩
    exact t311_no (c := 1) h (Or.inl ⟨h2, rfl⟩) (fun r m' e1 e2 => ⟨⟨e1, by decide, by decide⟩, e2⟩)
  · have rb : VI (D + 12) 311 [vR 11 283, vI v1] m (fun _ m2 => (m2 283 0 = n32 (mpSPA 2) ∧ 1 ≤ mpSPA 2 ∧ mpSPA 2 ≤ 3) ∧ CPL m2 N) (fun _ _ => False) :=
      t311_no (c := 2) h (Or.inr ⟨h2, h4, rfl⟩) (fun r m' e1 e2 => ⟨⟨e1, by decide, by decide⟩, e2⟩)
    refine w143_0 ⟨fun c => absurd (h1.symm.trans c) n01, fun _ => ⟨fun _ => rb, fun c => ⟨fun c2 => ?_, fun _ => rb⟩⟩⟩
    rcases h3 with h3 | h3
    · exact absurd h3 c
    · exact absurd c2 h3
  · have hS' := hS
    obtain ⟨r1, r2, r3, T, hT, si⟩ := hS
    have w := si.w
    have a2 := w.nb
    have a4 := w.ns
    have e6 := w.1.1
    refine w143_0 ⟨fun c => absurd (h1.symm.trans c) n01, fun _ => ⟨fun c => absurd ((n32_lt (by omega) (by omega)).mp c) (by omega), fun _ => ⟨fun _ => ?_, fun c => absurd (by rw [h69]; exact (n32_lt (by omega) (by omega)).mpr hb) c⟩⟩⟩
    by_cases hm : b + 1 < nBr (m 284) ∧ mayG (m 284) b = true
    · obtain ⟨hb2, hm⟩ := hm
      refine s74 w r1 hb2 ?_
      rw [if_pos hm]
      refine ⟨fun c => absurd c n01, fun _ => ?_⟩
      obtain ⟨-, -, ⟨o, k, ho, o8, hk, k8, hk7, -, hold⟩, -⟩ := id h
      refine rem_c ho hk o8 k8 r1 ?_
      intro m1 mc cp hmc rc back
      refine s75 w rc hb2 ?_
      intro m2 rs2 fr2
      have kk := WF_swapsG w hb2
      have f2 : ∀ x j, (x < 29 ∨ 49 ≤ x) → m2 x j = mc x j := fun x j hx => fr2 x j (by omega)
      have f31 : ∀ j, m2 (29 + 2) j = mc (29 + 2) j := fun j => fr2 _ j (by omega)
      have g2 : m2 284 = m 284 := funext fun j => by rw [f2 284 j (by omega)]; exact back 284 j (by omega) (by omega)
      have l2 : m2 283 6 = n32 1 := by rw [f2 283 6 (by omega), back 283 6 (by omega) (by omega)]; exact h2
      rw [ix_n32 (show b < 2147483648 by omega), rs2.ban (by rw [kk.2.1]; exact hb)]
      refine ⟨xin_n (by omega) (by omega), ?_⟩
      refine w311_0 ⟨fun c => absurd (l2.symm.trans c) n01, fun _ => ⟨fun c => absurd ((n32_lt (by omega) (by omega)).mp c) (by omega), fun _ => ⟨fun c => ?_, fun _ => ?_⟩⟩⟩
      · rw [ix_n32 (by omega), g2, e6, n32_sub (by omega)] at c
        exact absurd ((n32_lt (by omega) (by omega)).mp c) (by omega)
      · have e284 := smg_of m2 g2
        have go : ∀ Q : Int32 → XM → Prop, Q (n32 1) m2 → VI (D + 11) 216 [vR 11 283, vI (n32 b)] m2 Q (fun _ _ => False) := by
          intro Q hQ
          have := s216 (D := D + 9) (m := m2) (E := fun _ _ => False) w hb2 (Q := Q) (by rw [if_pos hm, ← e284]; exact hQ)
          rw [← e284] at this; exact this
        refine go _ ⟨fun c => absurd c n01, fun _ => s176 ?_⟩
        rw [l2, code0]
        refine ⟨fun c => absurd c n01, fun _ => ?_⟩
        refine s309 (k := k) (by rw [um_k (by omega), f2 283 7 (by omega), back 283 7 (by omega) (by omega)]; exact hk7) k8 ?_
        intro m' F h7 hnew hkeep
        have g' : m' 284 = m 284 := funext fun j => by rw [F 284 j (by omega) (by omega), um_a (by omega), g2]
        rw [smg_of m' g']
        refine s218 (by omega) ?_
        simp (disch := omega) only [n32_mul, n32_add, Nat.add_zero, xin_t, ix_n32, smg_at, true_and]
        obtain ⟨x1, x2⟩ := chg_fin (m2 := m2) (m' := m') (mf := m') (N' := N) h h1 hS' (Nat.le_refl _) ho o8 hk k8 hold cp hmc f2 f31 rs2 F h7 hnew hkeep (fun _ _ _ _ _ _ => rfl) hT (SI_swaps si hb2) (fun j a1 a2 => swapsG_at (by omega) (by omega) (by omega)) (swapsG_at (by omega) (by omega) (by omega))
        exact ⟨x1, x2⟩
    · have no : VI (D + 12) 311 [vR 11 283, vI (n32 b)] m (fun _ m2 => (m2 283 0 = n32 (mpSPA 1) ∧ 1 ≤ mpSPA 1 ∧ mpSPA 1 ≤ 3) ∧ CPL m2 N) (fun _ _ => False) := by
        refine w311_0 ⟨fun c => absurd (h2.symm.trans c) n01, fun _ => ⟨fun c => absurd ((n32_lt (by omega) (by omega)).mp c) (by omega), fun _ => ⟨fun c => ?_, fun _ => ?_⟩⟩⟩
        · rw [ix_n32 (by omega), e6, n32_sub (by omega)] at c
          exact absurd ((n32_lt (by omega) (by omega)).mp c) (by omega)
        · have e284 := smg_of m (show m 284 = m 284 from rfl)
          have go : ∀ Q : Int32 → XM → Prop, Q (n32 0) m → VI (D + 11) 216 [vR 11 283, vI (n32 b)] m Q (fun _ _ => False) := by
            intro Q hQ
            rw [e284] at hQ
            by_cases hb2 : b + 1 < nBr (m 284)
            · have hm2 : ¬ mayG (m 284) b = true := fun e => hm ⟨hb2, e⟩
              have := s216 (D := D + 9) (m := m) (E := fun _ _ => False) w hb2 (Q := Q) (by rw [if_neg hm2]; exact hQ)
              rw [← e284] at this; exact this
            · have := s216' (D := D + 9) (m := m) (E := fun _ _ => False) w hb hb2 (Q := Q) hQ
              rw [← e284] at this; exact this
          refine go _ ⟨fun _ => s176 ?_, fun c => absurd rfl c⟩
          rw [h2, code3]
          exact ⟨fun _ => ⟨⟨um_eq _ _ _ _, by decide, by decide⟩, CPL_th h⟩, fun c => absurd rfl c⟩
      by_cases hb2 : b + 1 < nBr (m 284)
      · have hm2 : ¬ mayG (m 284) b = true := fun e => hm ⟨hb2, e⟩
        refine s74 w r1 hb2 ?_
        rw [if_neg hm2]
        exact ⟨fun _ => no, fun c => absurd rfl c⟩
      · exact s74' w r1 hb hb2 ⟨fun _ => no, fun c => absurd rfl c⟩
end SWQ
