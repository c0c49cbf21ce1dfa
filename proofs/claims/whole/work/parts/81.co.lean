/-! Pairs: copies, holder. -/
section COQ
variable {D : Nat} {m : XM} {g : PG} {E : Nat → XM → Prop}
theorem letter_cases (v : Int32) : (v < n32 1 ∧ inI v (n32 1) (n32 26) = n32 0) ∨ (¬ v < n32 1 ∧ n32 26 < v ∧ inI v (n32 1) (n32 26) = n32 0) ∨ (¬ v < n32 1 ∧ ¬ n32 26 < v ∧ inI v (n32 1) (n32 26) = n32 1) := by
  unfold inI
  by_cases c1 : v < n32 1
  · rw [if_pos c1]; exact Or.inl ⟨c1, rfl⟩
  · rw [if_neg c1]
    by_cases c2 : n32 26 < v
    · rw [if_pos c2]; exact Or.inr (Or.inl ⟨c1, c2, rfl⟩)
    · rw [if_neg c2]; exact Or.inr (Or.inr ⟨c1, c2, rfl⟩)
theorem p_copies {v : Int32} {N : Nat} (h : CPL m N) : PRI (D + 12) 114 267 [vR 10 0, vI v] [vR 11 283, vI v] mpSA m N := by
  unfold PRI
  have no : ∀ c, ((m 283 6 = n32 0 ∧ c = 1) ∨ (m 283 6 = n32 1 ∧ inI v (n32 1) (n32 26) = n32 0 ∧ c = 2)) → 1 ≤ c → c ≤ 3 → VI (D + 12) 267 [vR 11 283, vI v] m (fun _ m2 => (m2 283 0 = n32 c ∧ 1 ≤ c ∧ c ≤ 3) ∧ CPL m2 N) (fun _ _ => False) := by
    intro c hc x1 x3
    refine w267_0 (t265_no (z := 0) (Q := fun _ _ => True) h hc (fun m' e1 e2 => ?_) rfl rfl)
    exact ⟨fun _ => ⟨⟨e1, x1, x3⟩, e2⟩, fun c => absurd rfl c⟩
  rcases h.ld with ⟨h1, h2⟩ | ⟨h1, h2, r1, r2, r3, T, hT, si⟩
  · refine w114_0 ⟨fun _ => ?_, fun c => absurd h1 c⟩
    exact no 1 (Or.inl ⟨h2, rfl⟩) (by omega) (by omega)
  · have w := si.w
    have a2 := w.nb
    have a9 := w.nl
    refine w114_0 ⟨fun c => absurd (h1.symm.trans c) n01, fun _ => ?_⟩
    rcases letter_cases v with ⟨c1, c3⟩ | ⟨c1, c2, c3⟩ | ⟨c1, c2, c3⟩
    · exact ⟨fun _ => no 2 (Or.inr ⟨h2, c3, rfl⟩) (by omega) (by omega), fun c => absurd c1 c⟩
    · exact ⟨fun c => absurd c c1, fun _ => ⟨fun _ => no 2 (Or.inr ⟨h2, c3, rfl⟩) (by omega) (by omega), fun c => absurd c2 c⟩⟩
    · refine ⟨fun c => absurd c c1, fun _ => ⟨fun c => absurd c c2, fun _ => ?_⟩⟩
      obtain ⟨x1, x2⟩ := fin1 h (show m 284 = m 284 from rfl)
      refine s56 (n := nBr (m 284)) (by rw [r1.nb]; exact w.1.1) a2 ?_
      refine s9 (n := nL (m 284)) (by rw [r1.nl]; exact w.2.2.2.1.1) (by omega) ?_
      refine w267_0 (s265 ?_)
      rw [h2, c3, code0]
      refine ⟨fun c => absurd c n01, fun _ => ?_⟩
      rw [st0 (show m 284 = m 284 from rfl)]
      refine t267 w ?_
      refine ⟨⟨?_, x1⟩, x2⟩
      rw [n32_add]
      congr 2
      · exact cnt_congr fun i hi => by rw [r1.ban hi]
      · exact cnt_congr fun i hi => by rw [r1.ll hi]
/-- the first bearer with a banner, from i on -/
def phl (g : PG) (v : Int32) (b : Nat) : Bool := decide (g (15 + 7 * b) = v)
theorem p_holder {v : Int32} {N : Nat} (h : CPL m N) : PRI (D + 12) 113 266 [vR 10 0, vI v] [vR 11 283, vI v] mpSA m N := by
  unfold PRI
  have no : ∀ c, ((m 283 6 = n32 0 ∧ c = 1) ∨ (m 283 6 = n32 1 ∧ inI v (n32 1) (n32 26) = n32 0 ∧ c = 2)) → 1 ≤ c → c ≤ 3 → VI (D + 12) 266 [vR 11 283, vI v] m (fun _ m2 => (m2 283 0 = n32 c ∧ 1 ≤ c ∧ c ≤ 3) ∧ CPL m2 N) (fun _ _ => False) := by
    intro c hc x1 x3
    refine w266_0 (t265_no (z := 0) (Q := fun _ _ => True) h hc (fun m' e1 e2 => ?_) rfl rfl)
    exact ⟨fun _ => ⟨⟨e1, x1, x3⟩, e2⟩, fun c => absurd rfl c⟩
  rcases h.ld with ⟨h1, h2⟩ | ⟨h1, h2, r1, r2, r3, T, hT, si⟩
  · refine w113_0 ⟨fun _ => ?_, fun c => absurd h1 c⟩
    exact no 1 (Or.inl ⟨h2, rfl⟩) (by omega) (by omega)
  · have w := si.w
    have a2 := w.nb
    refine w113_0 ⟨fun c => absurd (h1.symm.trans c) n01, fun _ => ?_⟩
    rcases letter_cases v with ⟨c1, c3⟩ | ⟨c1, c2, c3⟩ | ⟨c1, c2, c3⟩
    · exact ⟨fun _ => no 2 (Or.inr ⟨h2, c3, rfl⟩) (by omega) (by omega), fun c => absurd c1 c⟩
    · exact ⟨fun c => absurd c c1, fun _ => ⟨fun _ => no 2 (Or.inr ⟨h2, c3, rfl⟩) (by omega) (by omega), fun c => absurd c2 c⟩⟩
    · refine ⟨fun c => absurd c c1, fun _ => ⟨fun c => absurd c c2, fun _ => ?_⟩⟩
      obtain ⟨x1, x2⟩ := fin1 h (show m 284 = m 284 from rfl)
      have h6 : m (29 + 3) 0 = n32 (nBr (m 284)) := by rw [r1.nb]; exact w.1.1
      have e6 := w.1.1
      -- the reference, whatever is found
      have rf : ∀ (Q : Int32 → XM → Prop), Q (fnd (phl (m 284) v) (nBr (m 284)) 0) (smg (um m 283 0 (n32 0)) (m 284)) → VI (D + 12) 266 [vR 11 283, vI v] m Q (fun _ _ => False) := by
        intro Q hQ
        refine w266_0 (s265 ?_)
        rw [h2, c3, code0]
        refine ⟨fun c => absurd c n01, fun _ => ?_⟩
        rw [st0 (show m 284 = m 284 from rfl)]
        have key : ∀ r i, i + r = nBr (m 284) → Q (fnd (phl (m 284) v) r i) (smg (um m 283 0 (n32 0)) (m 284)) → VLI (D + 12) 266 3 [(0, vR 11 283), (1, vI v), (2, vI (n32 i))] [] (smg (um m 283 0 (n32 0)) (m 284)) Q (fun _ _ => False) := by
          intro r
          induction r with
          | zero =>
            intro i hi hq
            refine w266_3 ?_
            simp (disch := omega) only [smg_at, ix_n32, e6]
            refine ⟨fun _ => hq, fun c => absurd ((n32_le (by omega) (by omega)).mpr (by omega)) c⟩
          | succ r ih =>
            intro i hi hq
            refine w266_3 ?_
            simp (disch := omega) only [smg_at, n32_mul, n32_add, Nat.add_zero, ix_n32, xin_t, e6, le_f, false_implies, not_false_eq_true, true_implies, true_and]
            rw [fnd_succ] at hq
            by_cases c : m 284 (15 + 7 * i) = v
            · have e : phl (m 284) v i = true := decide_eq_true c
              rw [e, if_pos rfl] at hq
              exact ⟨fun _ => hq, fun c' => absurd c c'⟩
            · have e : phl (m 284) v i = false := decide_eq_false c
              rw [e, if_neg (by decide)] at hq
              exact ⟨fun c' => absurd c' c, fun _ => ih (i + 1) (by omega) hq⟩
        exact key _ 0 (by omega) hQ
      have key : ∀ r i, i + r = nBr (m 284) → (∀ x, x = fnd (phl (m 284) v) r i → x = fnd (phl (m 284) v) (nBr (m 284)) 0) → VLI (D + 12) 113 1 [(0, vR 10 0), (1, vI v), (2, vI (n32 i))] [] m (fun r m1 => VI (D + 12) 266 [vR 11 283, vI v] m1 (fun r2 m2 => (r = r2 ∧ m2 283 0 = n32 0) ∧ CPL m2 N) (fun _ _ => False)) (fun e m1 => VI (D + 12) 266 [vR 11 283, vI v] m1 (fun _ m2 => (m2 283 0 = n32 (mpSA e) ∧ 1 ≤ mpSA e ∧ mpSA e ≤ 3) ∧ CPL m2 N) (fun _ _ => False)) := by
        intro r
        induction r with
        | zero =>
          intro i hi hx
          refine w113_1 ?_
          rw [h6]
          refine ⟨fun _ => rf _ ⟨⟨hx _ rfl, x1⟩, x2⟩, fun c => absurd ((n32_le (by omega) (by omega)).mpr (by omega)) c⟩
        | succ r ih =>
          intro i hi hx
          refine w113_1 ?_
          rw [h6]
          simp (disch := omega) only [r1.ban (show i < nBr (m 284) by omega), n32_add, ix_n32, xin_t, le_f, false_implies, not_false_eq_true, true_implies, true_and]
          rw [fnd_succ] at hx
          by_cases c : m 284 (15 + 7 * i) = v
          · have e : phl (m 284) v i = true := decide_eq_true c
            rw [e, if_pos rfl] at hx
            exact ⟨fun _ => rf _ ⟨⟨hx _ rfl, x1⟩, x2⟩, fun c' => absurd c c'⟩
          · have e : phl (m 284) v i = false := decide_eq_false c
            rw [e, if_neg (by decide)] at hx
            exact ⟨fun c' => absurd c' c, fun _ => ih (i + 1) (by omega) hx⟩
      exact key _ 0 (by omega) (fun x hx => hx)
end COQ
