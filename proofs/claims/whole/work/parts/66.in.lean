/-! Pairs: what would be (written by program: wip/whole/mkin.py). -/
section PIN
variable {D : Nat} {m : XM} {E : Nat → XM → Prop}
theorem far_cases (v : Int32) : v < n32 0 ∨ (¬ v < n32 0 ∧ n32 300 < v) ∨ ∃ n, n ≤ 300 ∧ v = n32 n := by
  by_cases c1 : v < n32 0
  · exact Or.inl c1
  · by_cases c2 : n32 300 < v
    · exact Or.inr (Or.inl ⟨c1, c2⟩)
    · right; right
      rw [Int32.lt_iff_toInt_lt, n32_toInt (by omega)] at c1 c2
      refine ⟨v.toInt.toNat, by omega, ?_⟩
      apply Int32.toInt_inj.mp
      rw [n32_toInt (by omega)]; omega
theorem code1 (x y : Int32) : codeOf (n32 0) x y = 1 := by unfold codeOf; rw [if_pos rfl]
theorem code2 (y : Int32) : codeOf (n32 1) (n32 0) y = 2 := by unfold codeOf; rw [if_neg n01, if_pos rfl]
theorem code3 : codeOf (n32 1) (n32 1) (n32 0) = 3 := by unfold codeOf; rw [if_neg n01, if_neg n01, if_pos rfl]
theorem xrt2_0 : xrt 2 (n32 0) = true := by decide
theorem xrt2_1 : xrt 2 (n32 1) = true := by decide
/-- the reference refuses: whatever is asked behind its 'may' -/
theorem t291_no {v1 v2 v3 : Int32} {N c : Nat} (h : CPL m N) (hc : c = 1 ∨ c = 2 ∨ c = 3) (h0 : ∀ t, (t = n32 0 ∨ (t = n32 1 ∧ ∃ n, n ≤ 300 ∧ v2 = n32 n)) → codeOf (m 283 6) (inI v1 (n32 0) (m 284 6 - n32 1)) t = c) {Q : Int32 → XM → Prop} (hQ : ∀ r m', m' 283 0 = n32 c → CPL m' N → Q r m') : VI (D + 7) 291 [vR 11 283, vI v1, vI v2, vI v3] m Q E := by
  have cn : ¬ c = 0 := by omega
  have fin := fun r => hQ r _ (um_eq m 283 0 (n32 c)) (CPL_th h)
  rcases far_cases v2 with c1 | ⟨c1, c2⟩ | ⟨n, hn, rfl⟩
  · refine w291_0 ⟨fun _ => s243 xrt2_0 ?_, fun c' => absurd c1 c'⟩
    rw [h0 _ (Or.inl rfl), if_neg cn]
    exact ⟨fun _ => fin _, fun c => absurd rfl c⟩
  · refine w291_0 ⟨fun c' => absurd c' c1, fun _ => ⟨fun _ => s243 xrt2_0 ?_, fun c' => absurd c2 c'⟩⟩
    rw [h0 _ (Or.inl rfl), if_neg cn]
    exact ⟨fun _ => fin _, fun c => absurd rfl c⟩
  · refine w291_0 ⟨fun c' => absurd ((n32_lt (by omega) (by omega)).mp c') (by omega), fun _ => ⟨fun c' => absurd ((n32_lt (by omega) (by omega)).mp c') (by omega), fun _ => s243 xrt2_1 ?_⟩⟩
    rw [h0 _ (Or.inr ⟨rfl, n, hn, rfl⟩), if_neg cn]
    exact ⟨fun _ => fin _, fun c => absurd rfl c⟩
/-- the reference answers -/
theorem t291_yes {b n wh T X N : Nat} {Q : Int32 → XM → Prop} (h : CPL m N) (h2 : m 283 6 = n32 1) (h4 : inI (n32 b) (n32 0) (m 284 6 - n32 1) = n32 1) (si : SI (m 284) T X) (hT : T ≤ 5000) (hb : b < 12) (hn : n ≤ 300) (hw : wh < 7) (hQ : ∀ m', m' 283 0 = n32 0 → CPL m' N → Q (tkn (m 284) n (15 + 7 * b + wh)) m') : VI (D + 7) 291 [vR 11 283, vI (n32 b), vI (n32 n), vI (n32 wh)] m Q E := by
  refine w291_0 ⟨fun c' => absurd ((n32_lt (by omega) (by omega)).mp c') (by omega), fun _ => ⟨fun c' => absurd ((n32_lt (by omega) (by omega)).mp c') (by omega), fun _ => s243 xrt2_1 ?_⟩⟩
  rw [h2, h4, code0]
  refine ⟨fun c => absurd c n01, fun _ => ?_⟩
  rw [st0 (show m 284 = m 284 from rfl)]
  refine s284 (s229 si hT (by omega) ?_)
  intro m' f
  simp (disch := omega) only [smg_at, n32_mul, n32_add, xin_t, ix_n32, true_and]
  refine s285 (asd_at f) (fun k hk => tkn_hi si hT hk n (by omega)) ?_
  obtain ⟨x1, x2⟩ := finA h (show m 284 = m 284 from rfl) ((asd_rfa _ _).tr f.a)
  exact hQ _ x1 x2
theorem p_placeIn {v1 v2 : Int32} {N : Nat} (h : CPL m N) : PRI (D + 12) 128 292 [vR 10 0, vI v1, vI v2] [vR 11 283, vI v1, vI v2] mpSPA m N := by
  unfold PRI
  rcases bearer_cases h v1 with ⟨h1, h2⟩ | ⟨h1, h2, h3, h4⟩ | ⟨h1, h2, hS, b, hb, rfl, h69, h4⟩
  · refine w128_0 ⟨fun _ => ?_, fun c => absurd h1 c⟩
    exact w292_0 (t291_no (c := 1) h (Or.inl rfl) (fun t _ => by rw [h2, code1]) (fun r m' e1 e2 => ⟨⟨e1, by decide, by decide⟩, e2⟩))
  · have rb : VI (D + 12) 292 [vR 11 283, vI v1, vI v2] m (fun _ m2 => (m2 283 0 = n32 (mpSPA 2) ∧ 1 ≤ mpSPA 2 ∧ mpSPA 2 ≤ 3) ∧ CPL m2 N) (fun _ _ => False) :=
      w292_0 (t291_no (c := 2) h (Or.inr (Or.inl rfl)) (fun t _ => by rw [h2, h4, code2]) (fun r m' e1 e2 => ⟨⟨e1, by decide, by decide⟩, e2⟩))
    refine w128_0 ⟨fun c => absurd (h1.symm.trans c) n01, fun _ => ⟨fun _ => rb, fun c => ⟨fun c2 => ?_, fun _ => rb⟩⟩⟩
    rcases h3 with h3 | h3
    · exact absurd h3 c
    · exact absurd c2 h3
  · obtain ⟨r1, r2, r3, T, hT, si⟩ := hS
    have w := si.w
    have a2 := w.nb
    refine w128_0 ⟨fun c => absurd (h1.symm.trans c) n01, fun _ => ⟨fun c => absurd ((n32_lt (by omega) (by omega)).mp c) (by omega), fun _ => ⟨fun _ => ?_, fun c => absurd (by rw [h69]; exact (n32_lt (by omega) (by omega)).mpr hb) c⟩⟩⟩
    rcases far_cases v2 with c1 | ⟨c1, c2⟩ | ⟨n, hn, rfl⟩
    · refine ⟨fun _ => ?_, fun c => absurd c1 c⟩
      exact w292_0 (t291_no (c := 3) h (Or.inr (Or.inr rfl)) (fun t ht => by
        rcases ht with rfl | ⟨-, n, hn, rfl⟩
        · rw [h2, h4, code3]
        · exact absurd ((n32_lt (by omega) (by omega)).mp c1) (by omega)) (fun r m' e1 e2 => ⟨⟨e1, by decide, by decide⟩, e2⟩))
    · refine ⟨fun c => absurd c c1, fun _ => ⟨fun _ => ?_, fun c => absurd c2 c⟩⟩
      exact w292_0 (t291_no (c := 3) h (Or.inr (Or.inr rfl)) (fun t ht => by
        rcases ht with rfl | ⟨-, n, hn, rfl⟩
        · rw [h2, h4, code3]
        · exact absurd ((n32_lt (by omega) (by omega)).mp c2) (by omega)) (fun r m' e1 e2 => ⟨⟨e1, by decide, by decide⟩, e2⟩))
    · refine ⟨fun c => absurd ((n32_lt (by omega) (by omega)).mp c) (by omega), fun _ => ⟨fun c => absurd ((n32_lt (by omega) (by omega)).mp c) (by omega), fun _ => ?_⟩⟩
      refine s163 si hT hn r1 ?_
      intro m1 rl fl
      have hb' : b < nBr (tkn (m 284) n) := by rw [(tkn_keeps si hT n (by omega)).2.1]; exact hb
      rw [ix_n32 (show b < 2147483648 by omega), rl.pla hb']
      refine ⟨xin_n (by omega) (by omega), ?_⟩
      have f := QF_fl fl
      have hc : CPL m1 N := CPL_fr h (Nat.le_refl _) f
      have hg : m1 284 = m 284 := funext fun k => f _ _ (by unfold REL; omega)
      have h2' : m1 283 6 = n32 1 := by rw [f _ _ (by unfold REL; omega)]; exact h2
      have := t291_yes (D := D + 4) (E := fun _ _ => False) (wh := 1) (Q := fun r2 m2 => (tkn (m 284) n (15 + 7 * b + 1) = r2 ∧ m2 283 0 = n32 0) ∧ CPL m2 N) hc h2' (by rw [hg]; exact h4) (by rw [hg]; exact si) hT (by omega) hn (by omega) (by
        rw [hg]
        exact fun m' e1 e2 => ⟨⟨rfl, e1⟩, e2⟩)
      exact w292_0 this

theorem p_strengthIn {v1 v2 : Int32} {N : Nat} (h : CPL m N) : PRI (D + 12) 129 293 [vR 10 0, vI v1, vI v2] [vR 11 283, vI v1, vI v2] mpSPA m N := by
  unfold PRI
  rcases bearer_cases h v1 with ⟨h1, h2⟩ | ⟨h1, h2, h3, h4⟩ | ⟨h1, h2, hS, b, hb, rfl, h69, h4⟩
  · refine w129_0 ⟨fun _ => ?_, fun c => absurd h1 c⟩
    exact w293_0 (t291_no (c := 1) h (Or.inl rfl) (fun t _ => by rw [h2, code1]) (fun r m' e1 e2 => ⟨⟨e1, by decide, by decide⟩, e2⟩))
  · have rb : VI (D + 12) 293 [vR 11 283, vI v1, vI v2] m (fun _ m2 => (m2 283 0 = n32 (mpSPA 2) ∧ 1 ≤ mpSPA 2 ∧ mpSPA 2 ≤ 3) ∧ CPL m2 N) (fun _ _ => False) :=
      w293_0 (t291_no (c := 2) h (Or.inr (Or.inl rfl)) (fun t _ => by rw [h2, h4, code2]) (fun r m' e1 e2 => ⟨⟨e1, by decide, by decide⟩, e2⟩))
    refine w129_0 ⟨fun c => absurd (h1.symm.trans c) n01, fun _ => ⟨fun _ => rb, fun c => ⟨fun c2 => ?_, fun _ => rb⟩⟩⟩
    rcases h3 with h3 | h3
    · exact absurd h3 c
    · exact absurd c2 h3
  · obtain ⟨r1, r2, r3, T, hT, si⟩ := hS
    have w := si.w
    have a2 := w.nb
    refine w129_0 ⟨fun c => absurd (h1.symm.trans c) n01, fun _ => ⟨fun c => absurd ((n32_lt (by omega) (by omega)).mp c) (by omega), fun _ => ⟨fun _ => ?_, fun c => absurd (by rw [h69]; exact (n32_lt (by omega) (by omega)).mpr hb) c⟩⟩⟩
    rcases far_cases v2 with c1 | ⟨c1, c2⟩ | ⟨n, hn, rfl⟩
    · refine ⟨fun _ => ?_, fun c => absurd c1 c⟩
      exact w293_0 (t291_no (c := 3) h (Or.inr (Or.inr rfl)) (fun t ht => by
        rcases ht with rfl | ⟨-, n, hn, rfl⟩
        · rw [h2, h4, code3]
        · exact absurd ((n32_lt (by omega) (by omega)).mp c1) (by omega)) (fun r m' e1 e2 => ⟨⟨e1, by decide, by decide⟩, e2⟩))
    · refine ⟨fun c => absurd c c1, fun _ => ⟨fun _ => ?_, fun c => absurd c2 c⟩⟩
      exact w293_0 (t291_no (c := 3) h (Or.inr (Or.inr rfl)) (fun t ht => by
        rcases ht with rfl | ⟨-, n, hn, rfl⟩
        · rw [h2, h4, code3]
        · exact absurd ((n32_lt (by omega) (by omega)).mp c2) (by omega)) (fun r m' e1 e2 => ⟨⟨e1, by decide, by decide⟩, e2⟩))
    · refine ⟨fun c => absurd ((n32_lt (by omega) (by omega)).mp c) (by omega), fun _ => ⟨fun c => absurd ((n32_lt (by omega) (by omega)).mp c) (by omega), fun _ => ?_⟩⟩
      refine s163 si hT hn r1 ?_
      intro m1 rl fl
      have hb' : b < nBr (tkn (m 284) n) := by rw [(tkn_keeps si hT n (by omega)).2.1]; exact hb
      rw [ix_n32 (show b < 2147483648 by omega), rl.str hb']
      refine ⟨xin_n (by omega) (by omega), ?_⟩
      have f := QF_fl fl
      have hc : CPL m1 N := CPL_fr h (Nat.le_refl _) f
      have hg : m1 284 = m 284 := funext fun k => f _ _ (by unfold REL; omega)
      have h2' : m1 283 6 = n32 1 := by rw [f _ _ (by unfold REL; omega)]; exact h2
      have := t291_yes (D := D + 4) (E := fun _ _ => False) (wh := 4) (Q := fun r2 m2 => (tkn (m 284) n (15 + 7 * b + 4) = r2 ∧ m2 283 0 = n32 0) ∧ CPL m2 N) hc h2' (by rw [hg]; exact h4) (by rw [hg]; exact si) hT (by omega) hn (by omega) (by
        rw [hg]
        exact fun m' e1 e2 => ⟨⟨rfl, e1⟩, e2⟩)
      exact w293_0 this

theorem p_bannerIn {v1 v2 : Int32} {N : Nat} (h : CPL m N) : PRI (D + 12) 130 294 [vR 10 0, vI v1, vI v2] [vR 11 283, vI v1, vI v2] mpSPA m N := by
  unfold PRI
  rcases bearer_cases h v1 with ⟨h1, h2⟩ | ⟨h1, h2, h3, h4⟩ | ⟨h1, h2, hS, b, hb, rfl, h69, h4⟩
  · refine w130_0 ⟨fun _ => ?_, fun c => absurd h1 c⟩
    exact w294_0 (t291_no (c := 1) h (Or.inl rfl) (fun t _ => by rw [h2, code1]) (fun r m' e1 e2 => ⟨⟨e1, by decide, by decide⟩, e2⟩))
  · have rb : VI (D + 12) 294 [vR 11 283, vI v1, vI v2] m (fun _ m2 => (m2 283 0 = n32 (mpSPA 2) ∧ 1 ≤ mpSPA 2 ∧ mpSPA 2 ≤ 3) ∧ CPL m2 N) (fun _ _ => False) :=
      w294_0 (t291_no (c := 2) h (Or.inr (Or.inl rfl)) (fun t _ => by rw [h2, h4, code2]) (fun r m' e1 e2 => ⟨⟨e1, by decide, by decide⟩, e2⟩))
    refine w130_0 ⟨fun c => absurd (h1.symm.trans c) n01, fun _ => ⟨fun _ => rb, fun c => ⟨fun c2 => ?_, fun _ => rb⟩⟩⟩
    rcases h3 with h3 | h3
    · exact absurd h3 c
    · exact absurd c2 h3
  · obtain ⟨r1, r2, r3, T, hT, si⟩ := hS
    have w := si.w
    have a2 := w.nb
    refine w130_0 ⟨fun c => absurd (h1.symm.trans c) n01, fun _ => ⟨fun c => absurd ((n32_lt (by omega) (by omega)).mp c) (by omega), fun _ => ⟨fun _ => ?_, fun c => absurd (by rw [h69]; exact (n32_lt (by omega) (by omega)).mpr hb) c⟩⟩⟩
    rcases far_cases v2 with c1 | ⟨c1, c2⟩ | ⟨n, hn, rfl⟩
    · refine ⟨fun _ => ?_, fun c => absurd c1 c⟩
      exact w294_0 (t291_no (c := 3) h (Or.inr (Or.inr rfl)) (fun t ht => by
        rcases ht with rfl | ⟨-, n, hn, rfl⟩
        · rw [h2, h4, code3]
        · exact absurd ((n32_lt (by omega) (by omega)).mp c1) (by omega)) (fun r m' e1 e2 => ⟨⟨e1, by decide, by decide⟩, e2⟩))
    · refine ⟨fun c => absurd c c1, fun _ => ⟨fun _ => ?_, fun c => absurd c2 c⟩⟩
      exact w294_0 (t291_no (c := 3) h (Or.inr (Or.inr rfl)) (fun t ht => by
        rcases ht with rfl | ⟨-, n, hn, rfl⟩
        · rw [h2, h4, code3]
        · exact absurd ((n32_lt (by omega) (by omega)).mp c2) (by omega)) (fun r m' e1 e2 => ⟨⟨e1, by decide, by decide⟩, e2⟩))
    · refine ⟨fun c => absurd ((n32_lt (by omega) (by omega)).mp c) (by omega), fun _ => ⟨fun c => absurd ((n32_lt (by omega) (by omega)).mp c) (by omega), fun _ => ?_⟩⟩
      refine s163 si hT hn r1 ?_
      intro m1 rl fl
      have hb' : b < nBr (tkn (m 284) n) := by rw [(tkn_keeps si hT n (by omega)).2.1]; exact hb
      rw [ix_n32 (show b < 2147483648 by omega), rl.ban hb']
      refine ⟨xin_n (by omega) (by omega), ?_⟩
      have f := QF_fl fl
      have hc : CPL m1 N := CPL_fr h (Nat.le_refl _) f
      have hg : m1 284 = m 284 := funext fun k => f _ _ (by unfold REL; omega)
      have h2' : m1 283 6 = n32 1 := by rw [f _ _ (by unfold REL; omega)]; exact h2
      have := t291_yes (D := D + 4) (E := fun _ _ => False) (wh := 0) (Q := fun r2 m2 => (tkn (m 284) n (15 + 7 * b + 0) = r2 ∧ m2 283 0 = n32 0) ∧ CPL m2 N) hc h2' (by rw [hg]; exact h4) (by rw [hg]; exact si) hT (by omega) hn (by omega) (by
        rw [hg]
        exact fun m' e1 e2 => ⟨⟨rfl, e1⟩, e2⟩)
      exact w294_0 this

end PIN
