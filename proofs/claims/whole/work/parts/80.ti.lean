/-! Pairs: tired, copies. -/
section TIQ
variable {D : Nat} {m : XM} {g : PG} {E : Nat → XM → Prop}
theorem p_tired {v : Int32} {N : Nat} (h : CPL m N) : PRI (D + 12) 115 268 [vR 10 0, vI v] [vR 11 283, vI v] mpSA m N := by
  unfold PRI
  have no : ∀ (l : Int32) (c : Nat), m 283 6 = l → (∀ t, (t = n32 0 ∨ (t = n32 1 ∧ ¬ v < n32 0 ∧ ¬ n32 100 < v)) → codeOf l t (n32 1) = c) → 1 ≤ c → c ≤ 3 → VI (D + 12) 268 [vR 11 283, vI v] m (fun _ m2 => (m2 283 0 = n32 c ∧ 1 ≤ c ∧ c ≤ 3) ∧ CPL m2 N) (fun _ _ => False) := by
    intro l c hl hc x1 x3
    have cn : ¬ c = 0 := by omega
    refine w268_0 ⟨fun _ => s177 ?_, fun c1 => ⟨fun _ => s177 ?_, fun c2 => s177 ?_⟩⟩
    · rw [hl, hc _ (Or.inl rfl), if_neg cn]
      exact ⟨fun _ => ⟨⟨um_eq _ _ _ _, x1, x3⟩, CPL_th h⟩, fun c => absurd rfl c⟩
    · rw [hl, hc _ (Or.inl rfl), if_neg cn]
      exact ⟨fun _ => ⟨⟨um_eq _ _ _ _, x1, x3⟩, CPL_th h⟩, fun c => absurd rfl c⟩
    · rw [hl, hc _ (Or.inr ⟨rfl, c1, c2⟩), if_neg cn]
      exact ⟨fun _ => ⟨⟨um_eq _ _ _ _, x1, x3⟩, CPL_th h⟩, fun c => absurd rfl c⟩
  rcases h.ld with ⟨h1, h2⟩ | ⟨h1, h2, r1, r2, r3, T, hT, si⟩
  · refine w115_0 ⟨fun _ => ?_, fun c => absurd h1 c⟩
    exact no _ 1 h2 (fun t _ => code1 _ _) (by omega) (by omega)
  · have w := si.w
    have a2 := w.nb
    refine w115_0 ⟨fun c => absurd (h1.symm.trans c) n01, fun _ => ⟨fun c1 => no _ 2 h2 (fun t ht => ?_) (by omega) (by omega), fun c1 => ⟨fun c2 => no _ 2 h2 (fun t ht => ?_) (by omega) (by omega), fun c2 => ?_⟩⟩⟩
    · rcases ht with rfl | ⟨-, d1, -⟩
      · exact code2 _
      · exact absurd c1 d1
    · rcases ht with rfl | ⟨-, -, d2⟩
      · exact code2 _
      · exact absurd c2 d2
    · obtain ⟨x1, x2⟩ := fin1 h (show m 284 = m 284 from rfl)
      refine s62 (n := nBr (m 284)) (by rw [r1.nb]; exact w.1.1) a2 ?_
      refine w268_0 ⟨fun c => absurd c c1, fun _ => ⟨fun c => absurd c c2, fun _ => s177 ?_⟩⟩
      rw [h2, code0]
      refine ⟨fun c => absurd c n01, fun _ => ?_⟩
      rw [st0 (show m 284 = m 284 from rfl)]
      refine t268 w ?_
      refine ⟨⟨?_, x1⟩, x2⟩
      exact bset_congr fun i hi => by rw [r1.str hi]
theorem t267 {v1 : Int32} {Q : Int32 → XM → Prop} (w : WF g) (h : Q (n32 (cnt (nBr g) (fun k => decide (g (15 + 7 * k) = v1)) + cnt (nL g) (fun k => decide (g (207 + 3 * k) = v1)))) (smg m g)) : VLI (D + 3) 267 3 [(0, vR 11 283), (1, vI v1), (2, vI (n32 0)), (3, vI (n32 0))] [] (smg m g) Q E := by
  have a2 := w.nb
  have a9 := w.nl
  have h6 := w.1.1
  have h10 := w.2.2.2.1.1
  have part2 : ∀ A, VLI (D + 3) 267 9 [(0, vR 11 283), (1, vI v1), (2, vI (n32 (A + cnt (nL g) (fun k => decide (g (207 + 3 * k) = v1))))), (3, vI (n32 (nL g)))] [] (smg m g) Q E → VLI (D + 3) 267 9 [(0, vR 11 283), (1, vI v1), (2, vI (n32 A)), (3, vI (n32 0))] [] (smg m g) Q E := by
    intro A hA
    refine up (C := fun i => VLI (D + 3) 267 9 [(0, vR 11 283), (1, vI v1), (2, vI (n32 (A + cnt i (fun k => decide (g (207 + 3 * k) = v1))))), (3, vI (n32 i))] [] (smg m g) Q E) (n := nL g) ?_ hA 0 (Nat.zero_le _)
    intro i hi ih
    refine w267_9 ?_
    simp (disch := omega) only [h10, smg_at, n32_mul, Nat.add_zero, le_f, xin_t, ix_n32, n32_add, false_implies, not_false_eq_true, true_implies, true_and]
    by_cases c1 : g (207 + 3 * i) = v1
    · rw [cnt_succ, decide_eq_true c1, if_pos rfl, ← Nat.add_assoc] at ih
      exact ⟨fun _ => ih, fun c => absurd c1 c⟩
    · rw [cnt_succ, decide_eq_false c1, if_neg (by decide)] at ih
      exact ⟨fun c => absurd c c1, fun _ => ih⟩
  refine up (C := fun i => VLI (D + 3) 267 3 [(0, vR 11 283), (1, vI v1), (2, vI (n32 (cnt i (fun k => decide (g (15 + 7 * k) = v1))))), (3, vI (n32 i))] [] (smg m g) Q E) (n := nBr g) ?_ ?_ 0 (Nat.zero_le _)
  · intro i hi ih
    refine w267_3 ?_
    simp (disch := omega) only [h6, smg_at, n32_mul, Nat.add_zero, le_f, xin_t, ix_n32, n32_add, false_implies, not_false_eq_true, true_implies, true_and]
    by_cases c1 : g (15 + 7 * i) = v1
    · rw [cnt_succ, decide_eq_true c1, if_pos rfl] at ih
      exact ⟨fun _ => ih, fun c => absurd c1 c⟩
    · rw [cnt_succ, decide_eq_false c1, if_neg (by decide)] at ih
      exact ⟨fun c => absurd c c1, fun _ => ih⟩
  · refine w267_3 ?_
    simp (disch := omega) only [h6, smg_at, ix_n32]
    refine ⟨fun _ => part2 _ ?_, fun c => absurd (n32_rfl _) c⟩
    refine w267_9 ?_
    simp (disch := omega) only [h10, smg_at, ix_n32]
    exact ⟨fun _ => h, fun c => absurd (n32_rfl _) c⟩
theorem t265_no {v1 : Int32} {N c z : Nat} {Q : Int32 → XM → Prop} (h : CPL m N) (hc : (m 283 6 = n32 0 ∧ c = 1) ∨ (m 283 6 = n32 1 ∧ inI v1 (n32 1) (n32 26) = n32 0 ∧ c = 2)) {k : Int32 → XM → Prop} (hk : ∀ m', m' 283 0 = n32 c → CPL m' N → k (n32 0) m') (_ : z = z) (_ : Q = Q) : VI (D + 2) 265 [vR 11 283, vI v1] m k E := by
  refine s265 ?_
  rcases hc with ⟨h2, rfl⟩ | ⟨h2, h4, rfl⟩
  · rw [h2, code1]
    exact hk _ (um_eq _ _ _ _) (CPL_th h)
  · rw [h2, h4, code2]
    exact hk _ (um_eq _ _ _ _) (CPL_th h)
end TIQ
