/-! Pair: strengthen. -/
theorem SI_str {g : PG} {T N b : Nat} {v : Int32} (h : SI g T N) (hb : b < nBr g) : SI (strG g b v) T N := by
  have a2 := h.w.nb
  have a6 := h.w.np
  exact SI_of h (WF_strG h.w hb) (strG_at (by omega)) (strG_at (by omega)) (strG_at (by omega)) (fun k hk => ⟨strG_at (by omega), strG_at (by omega)⟩) (fun c hc => strG_at (by omega))
section STH
variable {D : Nat} {m : XM} {E : Nat → XM → Prop}
theorem t314_no {v1 v2 : Int32} {N c : Nat} (h : CPL m N) (hc : c = 1 ∨ c = 2 ∨ c = 3) (h0 : ∀ t, (t = n32 0 ∨ (t = n32 1 ∧ ¬ v2 < -(n32 100) ∧ ¬ n32 100 < v2)) → codeOf (m 283 6) (inI v1 (n32 0) (m 284 6 - n32 1)) t = c) {Q : Int32 → XM → Prop} (hQ : ∀ r m', m' 283 0 = n32 c → CPL m' N → Q r m') : VI (D + 3) 314 [vR 11 283, vI v1, vI v2] m Q E := by
  have cn : ¬ c = 0 := by omega
  have fin := fun r => hQ r _ (um_eq m 283 0 (n32 c)) (CPL_th h)
  refine w314_0 ⟨fun _ => s243 xrt2_0 ?_, fun c1 => ⟨fun _ => s243 xrt2_0 ?_, fun c2 => s243 xrt2_1 ?_⟩⟩
  · rw [h0 _ (Or.inl rfl), if_neg cn]
    exact ⟨fun _ => fin _, fun c => absurd rfl c⟩
  · rw [h0 _ (Or.inl rfl), if_neg cn]
    exact ⟨fun _ => fin _, fun c => absurd rfl c⟩
  · rw [h0 _ (Or.inr ⟨rfl, c1, c2⟩), if_neg cn]
    exact ⟨fun _ => fin _, fun c => absurd rfl c⟩
theorem CPL_le {m : XM} {N N' : Nat} (h : CPL m N) (hN : N ≤ N') : CPL m N' := CPL_fr h hN (fun _ _ _ => rfl)
theorem p_strengthen {v1 v2 : Int32} {N : Nat} (h : CPL m N) : PRI (D + 12) 146 314 [vR 10 0, vI v1, vI v2] [vR 11 283, vI v1, vI v2] mpSPA m N := by
  unfold PRI
  rcases bearer_cases h v1 with ⟨h1, h2⟩ | ⟨h1, h2, h3, h4⟩ | ⟨h1, h2, hS, b, hb, rfl, h69, h4⟩
  · refine w146_0 ⟨fun _ => ?_, fun c => absurd h1 c⟩
    exact t314_no (c := 1) h (Or.inl rfl) (fun t _ => by rw [h2, code1]) (fun r m' e1 e2 => ⟨⟨e1, by decide, by decide⟩, e2⟩)
  · have rb : VI (D + 12) 314 [vR 11 283, vI v1, vI v2] m (fun _ m2 => (m2 283 0 = n32 (mpSPA 2) ∧ 1 ≤ mpSPA 2 ∧ mpSPA 2 ≤ 3) ∧ CPL m2 N) (fun _ _ => False) :=
      t314_no (c := 2) h (Or.inr (Or.inl rfl)) (fun t _ => by rw [h2, h4, code2]) (fun r m' e1 e2 => ⟨⟨e1, by decide, by decide⟩, e2⟩)
    refine w146_0 ⟨fun c => absurd (h1.symm.trans c) n01, fun _ => ⟨fun _ => rb, fun c => ⟨fun c2 => ?_, fun _ => rb⟩⟩⟩
    rcases h3 with h3 | h3
    · exact absurd h3 c
    · exact absurd c2 h3
  · have hS' := hS
    obtain ⟨r1, r2, r3, T, hT, si⟩ := hS
    have w := si.w
    have a2 := w.nb
    have a4 := w.ns
    refine w146_0 ⟨fun c => absurd (h1.symm.trans c) n01, fun _ => ⟨fun c => absurd ((n32_lt (by omega) (by omega)).mp c) (by omega), fun _ => ⟨fun _ => ?_, fun c => absurd (by rw [h69]; exact (n32_lt (by omega) (by omega)).mpr hb) c⟩⟩⟩
    refine ⟨fun c1 => ?_, fun c1 => ⟨fun c2 => ?_, fun c2 => ?_⟩⟩
    · refine t314_no (c := 3) h (Or.inr (Or.inr rfl)) (fun t ht => ?_) (fun r m' e1 e2 => ⟨⟨e1, by decide, by decide⟩, e2⟩)
      rcases ht with rfl | ⟨-, d1, -⟩
      · rw [h2, h4, code3]
      · exact absurd c1 d1
    · refine t314_no (c := 3) h (Or.inr (Or.inr rfl)) (fun t ht => ?_) (fun r m' e1 e2 => ⟨⟨e1, by decide, by decide⟩, e2⟩)
      rcases ht with rfl | ⟨-, -, d2⟩
      · rw [h2, h4, code3]
      · exact absurd c2 d2
    · obtain ⟨-, -, ⟨o, k, ho, o8, hk, k8, hk7, -, hold⟩, -⟩ := id h
      refine s13 ho hk o8 k8 ?_
      intro m1 cp
      have j8 : (o + k) % 8 < 8 := Nat.mod_lt _ (by omega)
      have ei : ∀ x j, x ≠ 74 → (if k < 8 then um m1 74 1 (n32 (k + 1)) else um m1 74 0 (n32 ((o + 1) % 8))) x j = m1 x j := by
        intro x j hx
        split
        · exact um_a hx
        · exact um_a hx
      generalize hmc : (if k < 8 then um m1 74 1 (n32 (k + 1)) else um m1 74 0 (n32 ((o + 1) % 8))) = mc at ei
      have back : ∀ x j, x ≠ 74 → ¬ (78 + 20 * ((o + k) % 8) ≤ x ∧ x < 78 + 20 * ((o + k) % 8) + 20) → mc x j = m x j := by
        intro x j hx hx2
        rw [ei x j hx]; exact cp.2 x j (by omega)
      have rc : RS mc 29 (m 284) := RS_eq r1 (fun d j hd _ _ => back _ _ (by omega) (by omega))
      have rm2 := RS_str (v := v2) w rc hb
      refine s52 (by omega) ?_
      refine ⟨xin_n (by omega) (by omega), ?_⟩
      rw [ix_n32 (show b < 2147483648 by omega), um_eq]
      generalize hm2 : um mc (29 + 3 + 4) b (imax (n32 0) (imin (n32 100) (mc (29 + 3 + 4) b + v2))) = m2 at rm2
      have f2 : ∀ x j, (x < 29 ∨ 49 ≤ x) → m2 x j = mc x j := fun x j hx => by rw [← hm2]; exact um_a (by omega)
      have f31 : ∀ j, m2 (29 + 2) j = mc (29 + 2) j := fun j => by rw [← hm2]; exact um_a (by omega)
      have g2 : m2 284 = m 284 := funext fun j => by rw [f2 284 j (by omega)]; exact back 284 j (by omega) (by omega)
      have l2 : m2 283 6 = n32 1 := by rw [f2 283 6 (by omega), back 283 6 (by omega) (by omega)]; exact h2
      rw [rc.str hb]
      refine w314_0 ⟨fun c => absurd c c1, fun _ => ⟨fun c => absurd c c2, fun _ => s243 xrt2_1 ?_⟩⟩
      rw [l2, g2, h4, code0]
      refine ⟨fun c => absurd c n01, fun _ => ?_⟩
      refine s309 (k := k) (by rw [um_k (by omega), f2 283 7 (by omega), back 283 7 (by omega) (by omega)]; exact hk7) k8 ?_
      intro m' F h7 hnew hkeep
      have g' : m' 284 = m 284 := funext fun j => by rw [F 284 j (by omega) (by omega), um_a (by omega), g2]
      rw [smg_of m' g']
      refine s212 (by omega) ?_
      simp (disch := omega) only [n32_mul, n32_add, xin_t, ix_n32, smg_at, true_and]
      have eS : smg m' (strG (m 284) b v2) 284 = strG (m 284) b v2 := funext fun j => smg_at _ _ _
      have fm : ∀ x j, (29 ≤ x ∧ x < 49) → smg m' (strG (m 284) b v2) x j = m2 x j := by
        intro x j hx
        rw [smg_ne (by omega), F x j (by omega) (by omega), um_a (by omega)]
      have now : SS (smg m' (strG (m 284) b v2)) 29 (smg m' (strG (m 284) b v2) 284) N := by
        rw [eS]
        have kk := WF_strG (v := v2) w hb
        refine ⟨RS_eq rm2 (fun d j hd _ _ => fm _ _ (by omega)), ?_, ?_, T, hT, SI_str si hb⟩
        · intro s hs
          rw [kk.2.2.1] at hs
          rw [fm _ _ (by omega), f31, back _ _ (by omega) (by omega), r2 s hs, strG_at (by omega)]
        · have e69 : ∀ d j, d < 5 → smg m' (strG (m 284) b v2) (69 + d) j = m (69 + d) j := by
            intro d j hd
            rw [smg_ne (by omega), F _ j (by omega) (by omega), um_a (by omega), f2 _ _ (by omega)]
            exact back _ _ (by omega) (by omega)
          have rt := RT_eq r3 e69
          refine ⟨by rw [strG_at (by omega)]; exact rt.1, fun s hs => ?_⟩
          rw [kk.2.2.1] at hs
          obtain ⟨q1, q2, q3, q4⟩ := rt.2 s hs
          obtain ⟨l1, l2, -⟩ := wl w hs
          rw [strG_at (by omega), strG_at (by omega), strG_at (by omega)]
          exact ⟨q1, q2, q3, fun i hi => by rw [strG_at (by omega)]; exact q4 i hi⟩
      obtain ⟨x1, x2⟩ := chg_ok (m2 := m2) (m' := m') h h1 (Nat.le_refl _) ho o8 hk k8 hold cp (by rw [hmc]; exact f2) F h7 hnew hkeep (fun x j a1 _ _ _ => smg_ne a1) now
      refine ⟨⟨?_, x1⟩, x2⟩
      unfold strG
      rw [gup_eq]
end STH
