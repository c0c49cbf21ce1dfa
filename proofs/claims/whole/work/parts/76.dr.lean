/-! Pair: drop. -/
section DRQ
variable {D : Nat} {m : XM} {g : PG} {E : Nat → XM → Prop}
theorem t312_no {v1 : Int32} {N c : Nat} {Q : Int32 → XM → Prop} (h : CPL m N) (hc : (m 283 6 = n32 0 ∧ c = 1) ∨ (m 283 6 = n32 1 ∧ inI v1 (n32 0) (m 284 6 - n32 1) = n32 0 ∧ c = 2)) (hQ : ∀ r m', m' 283 0 = n32 c → CPL m' N → Q r m') : VI (D + 2) 312 [vR 11 283, vI v1] m Q E := by
  have fin := fun r => hQ r _ (um_eq m 283 0 (n32 c)) (CPL_th h)
  rcases hc with ⟨h2, rfl⟩ | ⟨h2, h4, rfl⟩
  · refine w312_0 ⟨fun _ => s176 ?_, fun c => absurd h2 c⟩
    rw [h2, code1]
    exact ⟨fun _ => fin _, fun c => absurd rfl c⟩
  · refine w312_0 ⟨fun c => absurd (h2.symm.trans c) n01, fun _ => ⟨fun _ => s176 ?_, fun c1 => ⟨fun _ => s176 ?_, fun c2 => ?_⟩⟩⟩
    · rw [h2, code2]
      exact ⟨fun _ => fin _, fun c => absurd rfl c⟩
    · rw [h2, code2]
      exact ⟨fun _ => fin _, fun c => absurd rfl c⟩
    · rw [ix_n32 (by omega)] at c2
      unfold inI at h4
      rw [if_neg c1, if_neg c2] at h4
      exact absurd h4 n01
theorem p_drop {v1 : Int32} {N : Nat} (h : CPL m N) : PRI (D + 12) 144 312 [vR 10 0, vI v1] [vR 11 283, vI v1] mpSPA m (N + 1) := by
  unfold PRI
  have h' := CPL_le h (Nat.le_succ N)
  rcases bearer_cases h v1 with ⟨h1, h2⟩ | ⟨h1, h2, h3, h4⟩ | ⟨h1, h2, hS, b, hb, rfl, h69, h4⟩
  · refine w144_0 ⟨fun _ => ?_, fun c => absurd h1 c⟩
    exact t312_no (c := 1) h' (Or.inl ⟨h2, rfl⟩) (fun r m' e1 e2 => ⟨⟨e1, by decide, by decide⟩, e2⟩)
  · have rb : VI (D + 12) 312 [vR 11 283, vI v1] m (fun _ m2 => (m2 283 0 = n32 (mpSPA 2) ∧ 1 ≤ mpSPA 2 ∧ mpSPA 2 ≤ 3) ∧ CPL m2 (N + 1)) (fun _ _ => False) :=
      t312_no (c := 2) h' (Or.inr ⟨h2, h4, rfl⟩) (fun r m' e1 e2 => ⟨⟨e1, by decide, by decide⟩, e2⟩)
    refine w144_0 ⟨fun c => absurd (h1.symm.trans c) n01, fun _ => ⟨fun _ => rb, fun c => ⟨fun c2 => ?_, fun _ => rb⟩⟩⟩
    rcases h3 with h3 | h3
    · exact absurd h3 c
    · exact absurd c2 h3
  · have hS' := hS
    obtain ⟨r1, r2, r3, T, hT, si⟩ := hS
    have w := si.w
    have a2 := w.nb
    have a4 := w.ns
    have e6 := w.1.1
    refine w144_0 ⟨fun c => absurd (h1.symm.trans c) n01, fun _ => ⟨fun c => absurd ((n32_lt (by omega) (by omega)).mp c) (by omega), fun _ => ⟨fun _ => ?_, fun c => absurd (by rw [h69]; exact (n32_lt (by omega) (by omega)).mpr hb) c⟩⟩⟩
    rw [ix_n32 (show b < 2147483648 by omega), r1.ban hb]
    refine ⟨xin_n (by omega) (by omega), fun c => ?_, fun c => ?_⟩
    · have c' := (weak_iff w hb).mp c
      refine w312_0 ⟨fun c => absurd (h2.symm.trans c) n01, fun _ => ⟨fun c => absurd ((n32_lt (by omega) (by omega)).mp c) (by omega), fun _ => ⟨fun c => ?_, fun _ => ?_⟩⟩⟩
      · rw [ix_n32 (by omega), e6, n32_sub (by omega)] at c
        exact absurd ((n32_lt (by omega) (by omega)).mp c) (by omega)
      · simp (disch := omega) only [n32_mul, n32_add, Nat.add_zero, xin_t, ix_n32, true_and]
        refine ⟨fun _ => s176 ?_, fun c'' => absurd c' c''⟩
        rw [h2, code3]
        exact ⟨fun _ => ⟨⟨um_eq _ _ _ _, by decide, by decide⟩, CPL_th h'⟩, fun c => absurd rfl c⟩
    · have c' : ¬ m 284 (15 + 7 * b) ≤ n32 0 := fun e => c ((weak_iff w hb).mpr e)
      obtain ⟨-, -, ⟨o, k, ho, o8, hk, k8, hk7, -, hold⟩, -⟩ := id h
      refine rem_c ho hk o8 k8 r1 ?_
      intro m1 mc cp hmc rc back
      refine s76 w rc hb c' ?_
      intro m2 rs2 fr2
      have kk := WF_dropG w hb c'
      have a9 := w.nl
      have dat : ∀ j, j < 10 ∨ j = 11 ∨ j = 12 ∨ j = 14 ∨ (99 ≤ j ∧ j < 207) → dropG (m 284) b j = m 284 j := fun j hj => dropG_at (m 284) b (by omega) (by omega) (by omega) (by omega) (by omega) (by omega)
      have f2 : ∀ x j, (x < 29 ∨ 49 ≤ x) → m2 x j = mc x j := fun x j hx => fr2 x j (by omega)
      have f31 : ∀ j, m2 (29 + 2) j = mc (29 + 2) j := fun j => fr2 _ j (by omega)
      have g2 : m2 284 = m 284 := funext fun j => by rw [f2 284 j (by omega)]; exact back 284 j (by omega) (by omega)
      have l2 : m2 283 6 = n32 1 := by rw [f2 283 6 (by omega), back 283 6 (by omega) (by omega)]; exact h2
      rw [rs2.nl]
      refine w312_0 ⟨fun c => absurd (l2.symm.trans c) n01, fun _ => ⟨fun c => absurd ((n32_lt (by omega) (by omega)).mp c) (by omega), fun _ => ⟨fun c => ?_, fun _ => ?_⟩⟩⟩
      · rw [ix_n32 (by omega), g2, e6, n32_sub (by omega)] at c
        exact absurd ((n32_lt (by omega) (by omega)).mp c) (by omega)
      · simp (disch := omega) only [n32_mul, n32_add, Nat.add_zero, xin_t, ix_n32, true_and]
        rw [g2]
        refine ⟨fun e => absurd e c', fun _ => s176 ?_⟩
        rw [l2, code0]
        refine ⟨fun c => absurd c n01, fun _ => ?_⟩
        refine s309 (k := k) (by rw [um_k (by omega), f2 283 7 (by omega), back 283 7 (by omega) (by omega)]; exact hk7) k8 ?_
        intro m' F h7 hnew hkeep
        have g' : m' 284 = m 284 := funext fun j => by rw [F 284 j (by omega) (by omega), um_a (by omega), g2]
        rw [smg_of m' g']
        refine s213 w hb c' ?_
        have si' : SI (dropG (m 284) b) T (12 * T + (N + 1)) := SI_le (SI_drop si hb c') (by omega)
        obtain ⟨x1, x2⟩ := chg_fin (m2 := m2) (m' := m') (mf := m') (N' := N + 1) h h1 hS' (Nat.le_succ N) ho o8 hk k8 hold cp hmc f2 f31 rs2 F h7 hnew hkeep (fun _ _ _ _ _ _ => rfl) hT si' (fun j a1 a2 => dat j (by omega)) (dat 7 (by omega))
        simp (disch := omega) only [ix_n32, smg_at]
        first | exact ⟨⟨rfl, x1⟩, x2⟩ | exact ⟨⟨trivial, x1⟩, x2⟩ | exact ⟨x1, x2⟩
end DRQ
