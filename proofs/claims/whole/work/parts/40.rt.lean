/-! The reference's tick, over its array. -/
section RT
variable {D : Nat} {m : XM} {g : PG} {E : Nat → XM → Prop}
theorem s210 {b : Nat} {Q : Int32 → XM → Prop} (w : WF g) (hb : b < nBr g) (h : Q (stride (g (15 + 7 * b + 2)) (g (15 + 7 * b + 4))) (smg m g)) : VI (D + 1) 210 [vR 11 283, vI (n32 b)] (smg m g) Q E := by
  have a2 := w.nb
  refine w210_0 ?_
  simp (disch := omega) only [n32_mul, n32_add, xin_t, ix_n32, smg_at, true_and]
  obtain ⟨h1, h2, -⟩ := stride_ok (w.st_b hb) (w.b4 hb)
  exact ⟨h1, h2, h⟩
theorem s212 {b : Nat} {v : Int32} {Q : XM → Prop} (hb : b < 12) (h : Q (smg m (strG g b v))) : VU (D + 1) 212 [vR 11 283, vI (n32 b), vI v] (smg m g) Q E := by
  refine w212_0 ?_
  simp (disch := omega) only [n32_mul, n32_add, xin_t, ix_n32, smg_at, true_and]
  refine s386 (s385 ?_)
  rw [um_smg]
  exact h
theorem s218 {b : Nat} {Q : XM → Prop} (hb : b + 1 < 12) (h : Q (smg m (swapsG g b))) : VU (D + 2) 218 [vR 11 283, vI (n32 b)] (smg m g) Q E := by
  refine w218_0 ?_
  simp (disch := omega) only [n32_mul, n32_add, Nat.add_zero, xin_t, ix_n32, smg_at, um_smg, true_and]
  rintro μ rfl
  refine s212 (by omega) (s212 (by omega) ?_)
  simp (disch := omega) only [smg_at, um_smg]
  exact h
theorem s216 {b : Nat} {Q : Int32 → XM → Prop} (w : WF g) (hb : b + 1 < nBr g) (h : Q (if mayG g b = true then n32 1 else n32 0) (smg m g)) : VI (D + 2) 216 [vR 11 283, vI (n32 b)] (smg m g) Q E := by
  have a2 := w.nb
  have h6 := w.1.1
  refine w216_0 ?_
  simp (disch := omega) only [n32_mul, n32_add, n32_sub, Nat.add_zero, Nat.add_sub_cancel, xin_t, ix_n32, smg_at, h6, lt_f, false_implies, true_implies, not_false_eq_true, true_and]
  unfold mayG at h
  by_cases c1 : g 5 < g (15 + 7 * b + 1) - g (15 + 7 * (b + 1) + 1) <;> by_cases c2 : g (15 + 7 * b + 4) ≤ n32 0 <;> by_cases c3 : g (15 + 7 * (b + 1) + 4) ≤ n32 0 <;>
    simp only [c1, c2, c3, decide_true, decide_false, not_true_eq_false, not_false_eq_true, Bool.and_true, Bool.true_and, Bool.and_false, Bool.false_and, if_true, if_false, false_implies, true_implies, and_true, true_and, Bool.false_eq_true] at h ⊢ <;> exact h
theorem s225 {Q : XM → Prop} (w : WF g) (h : Q (smg m (plansG g))) : VU (D + 3) 225 [vR 11 283] (smg m g) Q E := by
  have a6 := w.np
  have a2 := w.nb
  have h8 := w.2.2.1.1
  refine w225_0 (up (C := fun i => VLU (D + 3) 225 1 [(0, vR 11 283), (1, vI (n32 i))] [] (smg m (itr i planG g)) Q E) (n := nPl g) ?_ ?_ 0 (Nat.zero_le _))
  · intro i hi ih
    have hx : keeps g (itr i planG g) := keeps_itr (f := planG) w fun j x hj hx => WF_planG hx.1 (by rw [hx.2.2.2]; omega)
    have e1 : itr (i + 1) planG g = planG i (itr i planG g) := rfl
    rw [e1] at ih
    generalize itr i planG g = x at ih hx
    have h8x : x 8 = n32 (nPl g) := by rw [hx.1.2.2.1.1, hx.2.2.2]
    obtain ⟨p1, p2⟩ := hx.1.pa (k := i) (by rw [hx.2.2.2]; exact hi)
    have hb2 := hx.2.1
    refine w225_1 ?_
    simp (disch := omega) only [n32_mul, n32_add, Nat.add_zero, xin_t, ix_n32, smg_at, h8x, le_f, false_implies, true_implies, not_false_eq_true, true_and]
    refine ⟨fun c1 => ⟨fun c2 => ?_, fun c2 => ?_⟩, fun c1 => ?_⟩
    · rw [p1]
      refine s216 hx.1 p2 ?_
      by_cases hm : mayG x (aheadG x i) = true
      · have e : planG i x = gup (swapsG x (aheadG x i)) (171 + 3 * i + 2) (n32 1) := by unfold planG; rw [if_pos ⟨c1, c2⟩, if_pos hm]
        rw [e] at ih
        rw [if_pos hm]
        refine ⟨fun c => absurd c (by decide), fun _ => ?_⟩
        simp (disch := omega) only [smg_at, ix_n32, p1]
        refine s218 (by omega) ?_
        rw [um_smg]; exact ih
      · have e : planG i x = gup (gup x 12 (x 12 + n32 1)) (171 + 3 * i + 2) (n32 2) := by unfold planG; rw [if_pos ⟨c1, c2⟩, if_neg hm]
        rw [e] at ih
        rw [if_neg hm]
        refine ⟨fun _ => ?_, fun c => absurd rfl c⟩
        simp (disch := omega) only [smg_at, ix_n32, um_smg]
        exact ih
    · have e : planG i x = x := by unfold planG; rw [if_neg (fun h => c2 h.2)]
      rw [e] at ih; exact ih
    · have e : planG i x = x := by unfold planG; rw [if_neg (fun h => c1 h.1)]
      rw [e] at ih; exact ih
  · have hx : keeps g (plansG g) := WF_plansG w
    have h8x : itr (nPl g) planG g 8 = n32 (nPl g) := by
      have := hx.1.2.2.1.1
      rw [hx.2.2.2] at this; exact this
    refine w225_1 ?_
    simp (disch := omega) only [ix_n32, smg_at, h8x]
    exact ⟨fun _ => h, fun c => absurd (n32_rfl _) c⟩
/-- the places before a tick, as far as they are written -/
def bfm (m : XM) (g : PG) (i : Nat) : XM := fun a k => if a = 291 ∧ k < i then g (15 + 7 * k + 1) else m a k
theorem bfm_um (m : XM) (g : PG) (i : Nat) : um (bfm m g i) 291 i (g (15 + 7 * i + 1)) = bfm m g (i + 1) := by
  funext a k
  unfold um bfm
  by_cases h1 : a = 291
  · subst h1
    by_cases h2 : k = i
    · subst h2; simp
    · by_cases h3 : k < i
      · simp [h2, h3, show k < i + 1 by omega]
      · simp [h2, h3, show ¬ k < i + 1 by omega]
  · simp [h1]
theorem s226 {b : Nat} {Q : XM → Prop} (w : WF g) (hb : b < nBr g) (h : Q (smg (um m 291 b (g (15 + 7 * b + 1))) (moveG b g))) : VU (D + 2) 226 [vR 11 283, vI (n32 b)] (smg m g) Q E := by
  have a2 := w.nb
  refine w226_0 ?_
  simp (disch := omega) only [n32_mul, n32_add, Nat.add_zero, xin_t, ix_n32, smg_at, um_smg_ne, true_and]
  refine s210 w hb ?_
  unfold moveG goalG at h
  refine ⟨fun c => ?_, fun c => ?_⟩
  · have hb0 : b = 0 := by
      have := (n32_le (by omega) (by omega)).mp c
      omega
    rw [if_pos hb0] at h
    refine ⟨fun c1 => ?_, fun c1 => ?_⟩
    · rw [if_pos c1] at h
      simp (disch := omega) only [smg_at, ix_n32]
      refine s212 (by omega) ?_
      simp (disch := omega) only [smg_at, um_smg, n32_0, Int32.add_zero, gup_same]
      exact h
    · rw [if_neg c1] at h
      simp (disch := omega) only [smg_at, um_smg, ix_n32, gup_ne]
      refine s212 (by omega) ?_
      simp (disch := omega) only [smg_at, um_smg]
      have e : strG (gup g (15 + 7 * b + 1) (g (15 + 7 * b + 1) + stride (g (15 + 7 * b + 2)) (g (15 + 7 * b + 4)))) b (-(g (15 + 7 * b + 3))) (15 + 7 * b + 5) = g (15 + 7 * b + 5) := by
        unfold strG; rw [gup_ne (by omega), gup_ne (by omega)]
      rw [e]; exact h
  · have hb0 : ¬ b = 0 := by rintro rfl; exact c (n32_rfl 0)
    rw [if_neg hb0] at h
    simp (disch := omega) only [n32_sub, n32_mul, n32_add, xin_t, ix_n32, smg_at, true_and]
    refine s386 ?_
    refine ⟨fun c1 => ?_, fun c1 => ?_⟩
    · rw [if_pos c1] at h
      simp (disch := omega) only [smg_at, ix_n32]
      refine s212 (by omega) ?_
      simp (disch := omega) only [smg_at, um_smg, n32_0, Int32.add_zero, gup_same]
      exact h
    · rw [if_neg c1] at h
      simp (disch := omega) only [smg_at, um_smg, ix_n32, gup_ne]
      refine s212 (by omega) ?_
      simp (disch := omega) only [smg_at, um_smg]
      have e : strG (gup g (15 + 7 * b + 1) (imin (g (15 + 7 * b + 1) + stride (g (15 + 7 * b + 2)) (g (15 + 7 * b + 4))) (g (15 + 7 * (b - 1) + 1) - g 0))) b (-(g (15 + 7 * b + 3))) (15 + 7 * b + 5) = g (15 + 7 * b + 5) := by
        unfold strG; rw [gup_ne (by omega), gup_ne (by omega)]
      rw [e]; exact h
theorem s213 {b : Nat} {Q : XM → Prop} (w : WF g) (hb : b < nBr g) (hp : ¬ g (15 + 7 * b) ≤ n32 0) (h : Q (smg m (dropG g b))) : VU (D + 1) 213 [vR 11 283, vI (n32 b)] (smg m g) Q E := by
  have a2 := w.nb
  have a8 := w.lc
  have p3 := carried_pos w hb (ban_pos w hb hp).2
  have h10 := w.2.2.2.1.1
  refine w213_0 ?_
  simp (disch := omega) only [n32_mul, n32_add, Nat.add_zero, xin_t, ix_n32, smg_at, um_smg, true_and, h10]
  rintro μ rfl
  simp (disch := omega) only [n32_mul, n32_add, Nat.add_zero, xin_t, ix_n32, smg_at, um_smg, true_and, gup_ne]
  rintro μ rfl
  simp (disch := omega) only [smg_at, um_smg, gup_ne]
  unfold dropG at h
  exact h
end RT
