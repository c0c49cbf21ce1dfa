/-! The reference lifts; its tick up to the reading of words. -/
section RT2
variable {D : Nat} {m : XM} {g : PG} {E : Nat → XM → Prop}
theorem s215 {v1 v2 : Int32} {Q : Int32 → XM → Prop} (w : WF g) (h : Q (lieG g v1 v2) (smg m g)) : VI (D + 1) 215 [vR 11 283, vI v1, vI v2] (smg m g) Q E := by
  have a2 := w.nb
  have a9 := w.nl
  have h10 := w.2.2.2.1.1
  refine w215_0 (up (C := fun i => VLI (D + 1) 215 1 [(0, vR 11 283), (1, vI v1), (2, vI v2), (3, vI (bst i (fun k => decide (¬ g (207 + 3 * k + 1) < v1) && decide (¬ v2 < g (207 + 3 * k + 1))) (fun k b => decide (¬ g (207 + 3 * k + 1) ≤ g (207 + 3 * b + 1))))), (4, vI (n32 i))] [] (smg m g) Q E) (n := nL g) ?_ ?_ 0 (Nat.zero_le _))
  · intro i hi ih
    refine w215_1 ?_
    simp (disch := omega) only [n32_mul, n32_add, Nat.add_zero, xin_t, ix_n32, smg_at, h10, le_f, false_implies, true_implies, not_false_eq_true, true_and]
    rw [bst_succ] at ih
    rcases bst_rng i (fun k => decide (¬ g (207 + 3 * k + 1) < v1) && decide (¬ v2 < g (207 + 3 * k + 1))) (fun k b => decide (¬ g (207 + 3 * k + 1) ≤ g (207 + 3 * b + 1))) (by omega) with hb | ⟨j, hj, -, hb⟩
    · rw [hb] at ih ⊢
      by_cases c1 : g (207 + 3 * i + 1) < v1 <;> by_cases c2 : v2 < g (207 + 3 * i + 1) <;> simp only [c1, c2, BEq.rfl, Bool.true_or, decide_true, decide_false, not_true_eq_false, not_false_eq_true, Bool.and_true, Bool.true_and, Bool.and_false, Bool.false_and, if_true, if_false, false_implies, true_implies, and_true, true_and, Bool.false_eq_true] at ih ⊢ <;> exact ih
    · have hne : ¬ n32 j = -(n32 1) := n32_nm1 (by omega)
      have hne2 : (n32 j == -(n32 1)) = false := by rw [beq_eq_false_iff_ne]; exact hne
      rw [hb] at ih ⊢
      simp (disch := omega) only [n32_mul, n32_add, nm1_f, xin_t, ix_n32, smg_at] at ih ⊢
      by_cases c1 : g (207 + 3 * i + 1) < v1 <;> by_cases c2 : v2 < g (207 + 3 * i + 1) <;> by_cases c3 : g (207 + 3 * i + 1) ≤ g (207 + 3 * j + 1) <;> simp only [c1, c2, c3, hne, hne2, Bool.false_or, decide_true, decide_false, not_true_eq_false, not_false_eq_true, Bool.and_true, Bool.true_and, Bool.and_false, Bool.false_and, if_true, if_false, false_implies, true_implies, and_true, true_and, Bool.false_eq_true] at ih ⊢ <;> exact ih
  · refine w215_1 ?_
    simp (disch := omega) only [ix_n32, smg_at, h10]
    exact ⟨fun _ => h, fun c => absurd (n32_rfl _) c⟩
theorem shiftG_0 (g : PG) (lo : Nat) : shiftG g lo lo = g := by
  funext i; unfold shiftG; rw [if_neg (by omega)]
theorem shiftG_succ (g : PG) {lo i : Nat} (h : lo ≤ i) : gup (shiftG g lo i) i (shiftG g lo i (i + 3)) = shiftG g lo (i + 1) := by
  funext j
  unfold gup shiftG
  by_cases h1 : j = i
  · subst h1; rw [if_pos rfl, if_neg (by omega), if_pos (by omega)]
  · rw [if_neg h1]
    by_cases h2 : lo ≤ j ∧ j < i
    · rw [if_pos h2, if_pos (by omega)]
    · rw [if_neg h2, if_neg (by omega)]
theorem s214 {b j : Nat} {Q : XM → Prop} (w : WF g) (hb : b < nBr g) (hj : j < nL g) (h : Q (smg m (pickG g b j))) : VU (D + 1) 214 [vR 11 283, vI (n32 b), vI (n32 j)] (smg m g) Q E := by
  have a2 := w.nb
  have a9 := w.nl
  have h10 := w.2.2.2.1.1
  refine w214_0 ?_
  simp (disch := omega) only [n32_mul, n32_add, n32_sub, Nat.add_zero, xin_t, ix_n32, smg_at, um_smg, true_and, gup_ne, h10]
  rintro μ rfl
  generalize hg1 : gup (gup g (15 + 7 * b) (g (207 + 3 * j))) 10 (n32 (nL g - 1)) = g1
  have e10 : ∀ i, shiftG g1 (207 + 3 * j) i 10 = n32 (nL g - 1) := by
    intro i; unfold shiftG; rw [if_neg (by omega), ← hg1, gup_eq]
  have key : ∀ k, 207 + 3 * j + k ≤ 207 + 3 * (nL g - 1) → VLU (D + 1) 214 1 [(0, vR 11 283), (3, vI (n32 (207 + 3 * j + (207 + 3 * (nL g - 1) - (207 + 3 * j) - k))))] [] (smg m (shiftG g1 (207 + 3 * j) (207 + 3 * j + (207 + 3 * (nL g - 1) - (207 + 3 * j) - k)))) Q E := by
    intro k
    induction k with
    | zero =>
      intro hk
      refine w214_1 ?_
      have e : 207 + 3 * j + (207 + 3 * (nL g - 1) - (207 + 3 * j) - 0) = 207 + 3 * (nL g - 1) := by omega
      rw [e]
      simp (disch := omega) only [n32_mul, n32_add, ix_n32, smg_at, um_smg, e10, le_t, true_implies, not_true_eq_false, false_implies, and_true]
      unfold pickG at h
      rw [h10, n32_sub (by omega)] at h
      try dsimp only at h
      rw [hg1] at h
      exact h
    | succ k ih =>
      intro hk
      have ih := ih (by omega)
      generalize hi : 207 + 3 * j + (207 + 3 * (nL g - 1) - (207 + 3 * j) - (k + 1)) = i
      have e : 207 + 3 * j + (207 + 3 * (nL g - 1) - (207 + 3 * j) - k) = i + 1 := by omega
      rw [e] at ih
      refine w214_1 ?_
      simp (disch := omega) only [n32_mul, n32_add, ix_n32, xin_t, smg_at, um_smg, e10, le_f, false_implies, true_implies, not_false_eq_true, true_and]
      rw [shiftG_succ g1 (by omega)]
      exact ih
  have := key (207 + 3 * (nL g - 1) - (207 + 3 * j)) (by omega)
  rw [show 207 + 3 * j + (207 + 3 * (nL g - 1) - (207 + 3 * j) - (207 + 3 * (nL g - 1) - (207 + 3 * j))) = 207 + 3 * j by omega, shiftG_0] at this
  exact this
theorem s227 {b : Nat} {bf : Nat → Int32} {Q : XM → Prop} (w : WF g) (hb : b < nBr g) (hm : m 291 b = bf b) (h : Q (smg m (liftG bf b g))) : VU (D + 2) 227 [vR 11 283, vI (n32 b)] (smg m g) Q E := by
  have a2 := w.nb
  have a9 := w.nl
  have e9 : smg m g 291 b = bf b := by rw [smg_ne (by omega)]; exact hm
  refine w227_0 ?_
  simp (disch := omega) only [n32_mul, n32_add, Nat.add_zero, xin_t, ix_n32, smg_at, e9, true_and]
  refine ⟨fun c => ?_, fun c => ⟨fun c1 => ?_, fun c1 => ?_⟩⟩
  · unfold liftG at h; rw [if_pos c] at h; exact h
  · unfold liftG at h; rw [if_neg c, if_pos c1] at h
    refine s215 w ?_
    rcases lieG_rng g (bf b) (g (15 + 7 * b + 1)) (by omega) with h3 | ⟨j, h3, h4⟩
    · rw [if_pos h3] at h
      exact ⟨fun _ => h, fun c => absurd h3 c⟩
    · have hne : ¬ n32 j = -(n32 1) := n32_nm1 (by omega)
      rw [h4] at h ⊢
      rw [if_neg hne, ix_n32 (by omega)] at h
      exact ⟨fun c => absurd c hne, fun _ => s214 w hb h3 h⟩
  · unfold liftG at h; rw [if_neg c, if_neg c1] at h; exact h
theorem place_moves (g : PG) : ∀ i j, i ≤ j → itr i moveG g (15 + 7 * j + 1) = g (15 + 7 * j + 1) := by
  intro i
  induction i with
  | zero => intro j _; rfl
  | succ i ih =>
    intro j hj
    have e : itr (i + 1) moveG g = moveG i (itr i moveG g) := rfl
    rw [e, ← ih j (by omega)]
    unfold moveG strG
    split
    · rw [gup_ne (by omega)]
    · rw [gup_ne (by omega), gup_ne (by omega), gup_ne (by omega)]
/-- what stays of a memory over a tick of the reference: all but its array, the places before and the text -/
def rfr (m m' : XM) : Prop := ∀ a k, a ≠ 284 → a ≠ 290 → a ≠ 291 → ¬ (a = 283 ∧ k = 18) → m' a k = m a k
theorem rfr.rf (m : XM) : rfr m m := fun _ _ _ _ _ _ => rfl
theorem rfr.tr {m1 m2 m3 : XM} (h1 : rfr m1 m2) (h2 : rfr m2 m3) : rfr m1 m3 := fun a k c1 c2 c3 c4 => (h2 a k c1 c2 c3 c4).trans (h1 a k c1 c2 c3 c4)
theorem bfm_fr (m : XM) (g : PG) (i : Nat) : rfr m (bfm m g i) := fun a k _ _ c _ => if_neg fun e => c e.1
theorem t228_10 {g1 g3 : PG} {Q : XM → Prop} (k3 : keeps g1 g3) (h : ∀ m', rfr m m' → VLU (D + 5) 228 13 [(0, vR 11 283), (1, vI (n32 0))] [] (smg m' (liftsG (fun b => g1 (15 + 7 * b + 1)) g3)) Q E) : VLU (D + 5) 228 10 [(0, vR 11 283), (1, vI (n32 0))] [] (smg (bfm m g1 (nBr g1)) g3) Q E := by
  have e3 := k3.2.1
  have a2 := k3.1.nb
  unfold liftsG at h
  rw [e3] at h a2
  refine up (C := fun i => VLU (D + 5) 228 10 [(0, vR 11 283), (1, vI (n32 i))] [] (smg (bfm m g1 (nBr g1)) (itr i (liftG fun b => g1 (15 + 7 * b + 1)) g3)) Q E) (n := nBr g1) ?_ ?_ 0 (Nat.zero_le _)
  · intro i hi ih
    have hx : keeps g3 (itr i (liftG fun b => g1 (15 + 7 * b + 1)) g3) := keeps_itr k3.1 fun j x hj hx => WF_liftG hx.1 (by rw [hx.2.1, e3]; omega)
    have e1 : itr (i + 1) (liftG fun b => g1 (15 + 7 * b + 1)) g3 = liftG (fun b => g1 (15 + 7 * b + 1)) i (itr i (liftG fun b => g1 (15 + 7 * b + 1)) g3) := rfl
    rw [e1] at ih
    generalize itr i (liftG fun b => g1 (15 + 7 * b + 1)) g3 = x at ih hx
    have h6x : x 6 = n32 (nBr g1) := by rw [hx.1.1.1, hx.2.1, e3]
    refine w228_10 ?_
    simp (disch := omega) only [n32_add, ix_n32, smg_at, h6x, le_f, false_implies, true_implies, not_false_eq_true, true_and]
    have e9 : bfm m g1 (nBr g1) 291 i = (fun b => g1 (15 + 7 * b + 1)) i := by unfold bfm; rw [if_pos ⟨rfl, hi⟩]
    exact s227 (bf := fun b => g1 (15 + 7 * b + 1)) hx.1 (by rw [hx.2.1, e3]; exact hi) e9 ih
  · have hx : keeps g3 (itr (nBr g1) (liftG fun b => g1 (15 + 7 * b + 1)) g3) := keeps_itr k3.1 fun j x hj hx => WF_liftG hx.1 (by rw [hx.2.1, e3]; omega)
    have h6x : itr (nBr g1) (liftG fun b => g1 (15 + 7 * b + 1)) g3 6 = n32 (nBr g1) := by rw [hx.1.1.1, hx.2.1, e3]
    refine w228_10 ?_
    simp (disch := omega) only [ix_n32, smg_at, h6x]
    exact ⟨fun _ => h _ (bfm_fr _ _ _), fun c => absurd (n32_rfl _) c⟩
theorem t228_4 {g2 : PG} {n : Nat} {Q : XM → Prop} (w2 : WF g2) (e2 : nBr g2 = n) (h : VLU (D + 5) 228 10 [(0, vR 11 283), (1, vI (n32 0))] [] (smg m (weaksG g2)) Q E) : VLU (D + 5) 228 4 [(0, vR 11 283), (1, vI (n32 0))] [] (smg m g2) Q E := by
  have a2 := w2.nb
  unfold weaksG at h
  rw [e2] at h a2
  refine up (C := fun i => VLU (D + 5) 228 4 [(0, vR 11 283), (1, vI (n32 i))] [] (smg m (itr i weakG g2)) Q E) (n := n) ?_ ?_ 0 (Nat.zero_le _)
  · intro i hi ih
    have hx : keeps g2 (itr i weakG g2) := keeps_itr w2 fun j x hj hx => WF_weakG hx.1 (by rw [hx.2.1, e2]; omega)
    have e1 : itr (i + 1) weakG g2 = weakG i (itr i weakG g2) := rfl
    rw [e1] at ih
    generalize itr i weakG g2 = x at ih hx
    have h6x : x 6 = n32 n := by rw [hx.1.1.1, hx.2.1, e2]
    refine w228_4 ?_
    simp (disch := omega) only [n32_mul, n32_add, Nat.add_zero, xin_t, ix_n32, smg_at, h6x, le_f, false_implies, true_implies, not_false_eq_true, true_and]
    refine ⟨fun c => ?_, fun c => ⟨fun c1 => ?_, fun c1 => ?_⟩⟩
    · have e : weakG i x = x := by unfold weakG; rw [if_neg (fun h => h.1 c)]
      rw [e] at ih; exact ih
    · have e : weakG i x = dropG x i := by unfold weakG; rw [if_pos ⟨c, c1⟩]
      rw [e] at ih
      exact s213 hx.1 (by rw [hx.2.1, e2]; exact hi) c ih
    · have e : weakG i x = x := by unfold weakG; rw [if_neg (fun h => c1 h.2)]
      rw [e] at ih; exact ih
  · have hx : keeps g2 (itr n weakG g2) := keeps_itr w2 fun j x hj hx => WF_weakG hx.1 (by rw [hx.2.1, e2]; omega)
    have h6x : itr n weakG g2 6 = n32 n := by rw [hx.1.1.1, hx.2.1, e2]
    refine w228_4 ?_
    simp (disch := omega) only [ix_n32, smg_at, h6x]
    exact ⟨fun _ => h, fun c => absurd (n32_rfl _) c⟩
theorem t228_1 {g1 : PG} {Q : XM → Prop} (w1 : WF g1) (h : VLU (D + 5) 228 4 [(0, vR 11 283), (1, vI (n32 0))] [] (smg (bfm m g1 (nBr g1)) (movesG g1)) Q E) : VLU (D + 5) 228 1 [(0, vR 11 283), (1, vI (n32 0))] [] (smg m g1) Q E := by
  have a2 := w1.nb
  have k2 : keeps g1 (movesG g1) := WF_movesG w1
  have e0 : bfm m g1 0 = m := by
    funext a k
    unfold bfm
    rw [if_neg (fun h => absurd h.2 (Nat.not_lt_zero k))]
  have := up (C := fun i => VLU (D + 5) 228 1 [(0, vR 11 283), (1, vI (n32 i))] [] (smg (bfm m g1 i) (itr i moveG g1)) Q E) (n := nBr g1) ?_ ?_ 0 (Nat.zero_le _)
  · try dsimp only at this
    rw [e0] at this; exact this
  · intro i hi ih
    have hx : keeps g1 (itr i moveG g1) := keeps_itr w1 fun j x hj hx => WF_moveG hx.1 (by rw [hx.2.1]; omega)
    have e1 : itr (i + 1) moveG g1 = moveG i (itr i moveG g1) := rfl
    have ep := place_moves g1 i i (Nat.le_refl _)
    rw [e1, ← bfm_um, ← ep] at ih
    generalize itr i moveG g1 = x at ih hx ep
    have h6x : x 6 = n32 (nBr g1) := by rw [hx.1.1.1, hx.2.1]
    refine w228_1 ?_
    simp (disch := omega) only [n32_add, ix_n32, smg_at, h6x, le_f, false_implies, true_implies, not_false_eq_true, true_and]
    exact s226 hx.1 (by rw [hx.2.1]; exact hi) ih
  · have h6x : itr (nBr g1) moveG g1 6 = n32 (nBr g1) := by
      have := k2.1.1.1
      rw [k2.2.1] at this; exact this
    refine w228_1 ?_
    simp (disch := omega) only [ix_n32, smg_at, h6x]
    exact ⟨fun _ => h, fun c => absurd (n32_rfl _) c⟩
/-- the reference's tick up to its last loop -/
theorem s228a {Q : XM → Prop} (w : WF g) (h : ∀ m', rfr m m' → VLU (D + 5) 228 13 [(0, vR 11 283), (1, vI (n32 0))] [] (smg m' (tkG g)) Q E) : VU (D + 5) 228 [vR 11 283] (smg m g) Q E := by
  refine w228_0 ?_
  simp (disch := omega) only [ix_n32, smg_at, um_smg]
  have k0 : keeps g (gup g 9 (g 9 + n32 1)) := WF_freeN w (Or.inl (Or.inl rfl))
  refine s225 k0.1 ?_
  unfold tkG at h
  dsimp only at h
  have k1 := WF_plansG k0.1
  generalize plansG (gup g 9 (g 9 + n32 1)) = g1 at h k1
  have k2 : keeps g1 (movesG g1) := WF_movesG k1.1
  have k3 : keeps g1 (weaksG (movesG g1)) := k2.tr (WF_weaksG k2.1)
  exact t228_1 k1.1 (t228_4 k2.1 rfl (t228_10 k3 h))
end RT2
