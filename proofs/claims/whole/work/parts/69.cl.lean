/-! Pairs: closedIn, passedIn. -/
section CLO
variable {D : Nat} {m : XM} {g : PG} {E : Nat → XM → Prop}
def pcl (g : PG) (b n : Nat) : Bool := decide (tkn g n (15 + 7 * (b - 1) + 1) - tkn g n (15 + 7 * b + 1) = g 0)
theorem c136 {b T X : Nat} {Q : Int32 → XM → Prop} (si : SI g T X) (hT : T ≤ 5000) (hb : b < nBr g) (hb0 : b ≠ 0) {m0 : XM} (r0 : RS m0 49 (tkn g 0)) (f0 : FL m m0) (h : ∀ m', FL m m' → Q (fnd (pcl g b) 301 0) m') : VLI (D + 5) 136 3 [(0, vR 10 0), (1, vI (n32 b)), (2, vI (g 0)), (3, vI (n32 0))] [] m0 Q E := by
  have a2 := si.w.nb
  have key : ∀ r i m1, i + r = 300 → RS m1 49 (tkn g i) → FL m m1 → (∀ m', FL m m' → Q (fnd (pcl g b) (r + 1) i) m') → VLI (D + 5) 136 3 [(0, vR 10 0), (1, vI (n32 b)), (2, vI (g 0)), (3, vI (n32 i))] [] m1 Q E := by
    intro r
    induction r with
    | zero =>
      intro i m1 hi r1 f1 h
      have e : i = 300 := by omega
      subst e
      have kk := tkn_keeps si hT 300 (by omega)
      have e1 := r1.pla (b := b) (by rw [kk.2.1]; exact hb)
      have e2 := r1.pla (b := b - 1) (by rw [kk.2.1]; omega)
      refine w136_3 ⟨fun _ => ⟨fun c => absurd ((n32_le (by omega) (by omega)).mp c) (by omega), fun _ => ?_⟩, fun c => absurd (n32_rfl _) c⟩
      simp (disch := omega) only [n32_sub, xin_t, ix_n32, e1, e2, true_and]
      have hq := h m1 f1
      rw [fnd_succ] at hq
      by_cases c : tkn g 300 (15 + 7 * (b - 1) + 1) - tkn g 300 (15 + 7 * b + 1) = g 0
      · have e : pcl g b 300 = true := by unfold pcl; exact decide_eq_true c
        rw [e, if_pos rfl] at hq
        exact ⟨fun _ => hq, fun c' => absurd c c'⟩
      · have e : pcl g b 300 = false := by unfold pcl; exact decide_eq_false c
        rw [e, if_neg (by decide)] at hq
        exact ⟨fun c' => absurd c' c, fun _ => hq⟩
    | succ r ih =>
      intro i m1 hi r1 f1 h
      have kk := tkn_keeps si hT i (by omega)
      have e1 := r1.pla (b := b) (by rw [kk.2.1]; exact hb)
      have e2 := r1.pla (b := b - 1) (by rw [kk.2.1]; omega)
      refine w136_3 ⟨fun c => absurd ((n32_le (by omega) (by omega)).mp c) (by omega), fun _ => ⟨fun c => absurd ((n32_le (by omega) (by omega)).mp c) (by omega), fun _ => ?_⟩⟩
      simp (disch := omega) only [n32_sub, xin_t, ix_n32, e1, e2, true_and]
      rw [fnd_succ] at h
      by_cases c : tkn g i (15 + 7 * (b - 1) + 1) - tkn g i (15 + 7 * b + 1) = g 0
      · have e : pcl g b i = true := by unfold pcl; exact decide_eq_true c
        rw [e, if_pos rfl] at h
        exact ⟨fun _ => h m1 f1, fun c' => absurd c c'⟩
      · have e : pcl g b i = false := by unfold pcl; exact decide_eq_false c
        rw [e, if_neg (by decide)] at h
        refine ⟨fun c' => absurd c' c, fun _ => ?_⟩
        refine s70l si hT (by omega) r1 ?_
        intro m3 r3 f3
        rw [n32_add]
        exact ih (i + 1) m3 (by omega) r3 (f1.tr f3) h
  exact key 300 0 m0 (by omega) r0 f0 h
theorem c301 {b T X : Nat} {Q : Int32 → XM → Prop} (si : SI g T X) (hT : T ≤ 5000) (hb : b < nBr g) (hb0 : b ≠ 0) {m0 : XM} (f0 : rfr (asd m g) m0) (h : ∀ m', rfr (asd m g) m' → Q (fnd (pcl g b) 301 0) (smg m' g)) : VLI (D + 6) 301 7 [(0, vR 11 283), (1, vI (n32 b)), (2, vI (n32 0))] [] (smg m0 (tkn g 0)) Q E := by
  have a2 := si.w.nb
  have key : ∀ r i m1, i + r = 301 → rfr (asd m g) m1 → (∀ m', rfr (asd m g) m' → Q (fnd (pcl g b) r i) (smg m' g)) → VLI (D + 6) 301 7 [(0, vR 11 283), (1, vI (n32 b)), (2, vI (n32 i))] [] (smg m1 (tkn g i)) Q E := by
    intro r
    induction r with
    | zero =>
      intro i m1 hi f1 h
      refine w301_7 ⟨fun _ => ?_, fun c => absurd ((n32_lt (by omega) (by omega)).mpr (by omega)) c⟩
      exact s285 (asd_at f1) (fun k hk => tkn_hi si hT hk _ (by omega)) (h m1 f1)
    | succ r ih =>
      intro i m1 hi f1 h
      have kk := tkn_keeps si hT i (by omega)
      have e0 := tkn_lo si hT (k := 0) (by omega) i (by omega)
      refine w301_7 ⟨fun c => absurd ((n32_lt (by omega) (by omega)).mp c) (by omega), fun _ => ?_⟩
      simp (disch := omega) only [n32_mul, n32_add, n32_sub, xin_t, ix_n32, smg_at, e0, true_and]
      rw [fnd_succ] at h
      by_cases c : tkn g i (15 + 7 * (b - 1) + 1) - tkn g i (15 + 7 * b + 1) = g 0
      · have e : pcl g b i = true := by unfold pcl; exact decide_eq_true c
        rw [e, if_pos rfl] at h
        exact ⟨fun _ => s285 (asd_at f1) (fun k hk => tkn_hi si hT hk _ (by omega)) (h m1 f1), fun c' => absurd c c'⟩
      · have e : pcl g b i = false := by unfold pcl; exact decide_eq_false c
        rw [e, if_neg (by decide)] at h
        refine ⟨fun c' => absurd c' c, fun _ => ?_⟩
        refine s228 kk.1 ?_
        intro m3 f3
        rw [← tkn_succ]
        exact ih (i + 1) m3 (by omega) (f1.tr f3) h
  exact key 301 0 m0 (by omega) f0 h
theorem p_closedIn {v : Int32} {N : Nat} (h : CPL m N) : PRI (D + 12) 136 301 [vR 10 0, vI v] [vR 11 283, vI v] mpSPA m N := by
  unfold PRI
  rcases bearer_cases h v with ⟨h1, h2⟩ | ⟨h1, h2, h3, h4⟩ | ⟨h1, h2, hS, b, hb, rfl, h69, h4⟩
  · refine w136_0 ⟨fun _ => ?_, fun c => absurd h1 c⟩
    refine w301_0 (s241 ?_)
    rw [h2]
    exact ⟨fun _ => ⟨fun _ => ⟨⟨um_eq _ _ _ _, by decide, by decide⟩, CPL_th h⟩, fun _ => ⟨⟨um_eq _ _ _ _, by decide, by decide⟩, CPL_th h⟩⟩, fun c => absurd rfl c⟩
  · have rb : VI (D + 12) 301 [vR 11 283, vI v] m (fun _ m2 => (m2 283 0 = n32 (mpSPA 2) ∧ 1 ≤ mpSPA 2 ∧ mpSPA 2 ≤ 3) ∧ CPL m2 N) (fun _ _ => False) := by
      refine w301_0 (s241 ?_)
      rw [h2, h4]
      exact ⟨fun _ => ⟨fun _ => ⟨⟨um_eq _ _ _ _, by decide, by decide⟩, CPL_th h⟩, fun _ => ⟨⟨um_eq _ _ _ _, by decide, by decide⟩, CPL_th h⟩⟩, fun c => absurd rfl c⟩
    refine w136_0 ⟨fun c => absurd (h1.symm.trans c) n01, fun _ => ⟨fun _ => rb, fun c => ⟨fun c2 => ?_, fun _ => rb⟩⟩⟩
    rcases h3 with h3 | h3
    · exact absurd h3 c
    · exact absurd c2 h3
  · obtain ⟨r1, r2, r3, T, hT, si⟩ := hS
    have w := si.w
    have a2 := w.nb
    refine w136_0 ⟨fun c => absurd (h1.symm.trans c) n01, fun _ => ⟨fun c => absurd ((n32_lt (by omega) (by omega)).mp c) (by omega), fun _ => ⟨fun _ => ?_, fun c => absurd (by rw [h69]; exact (n32_lt (by omega) (by omega)).mpr hb) c⟩⟩⟩
    by_cases hb0 : b = 0
    · subst hb0
      refine ⟨fun _ => ?_, fun c => absurd rfl c⟩
      refine w301_0 (s241 ?_)
      rw [h2, h4, code0]
      refine ⟨fun c => absurd c n01, fun _ => ⟨fun _ => ⟨fun _ => ⟨⟨rfl, um_eq _ _ _ _⟩, CPL_th h⟩, fun c => ?_⟩, fun c => absurd rfl c⟩⟩
      rw [um_eq] at c
      exact absurd (n32_rfl 0) c
    · refine ⟨fun c => absurd (n32_inj (by omega) (by omega) c) hb0, fun _ => ?_⟩
      refine s68l w r1 ?_
      intro m0 r0 f0
      rw [ix_n32 (by omega), r1.se (k := 0) (by omega)]
      refine c136 (m := m) si hT hb hb0 r0 f0 ?_
      intro m1 f1
      have f := QF_fl f1
      have hc : CPL m1 N := CPL_fr h (Nat.le_refl _) f
      have hg : m1 284 = m 284 := funext fun k => f _ _ (by unfold REL; omega)
      have h2' : m1 283 6 = n32 1 := by rw [f _ _ (by unfold REL; omega)]; exact h2
      refine w301_0 (s241 ?_)
      rw [h2', hg, h4, code0]
      refine ⟨fun c => absurd c n01, fun _ => ⟨fun c => absurd (n32_inj (by omega) (by omega) c) hb0, fun _ => ?_⟩⟩
      rw [st0 hg]
      refine s284 ?_
      refine c301 (m := um m1 283 0 (n32 0)) si hT hb hb0 (rfr.rf _) ?_
      intro m2 f2
      obtain ⟨x1, x2⟩ := finA hc hg ((asd_rfa _ _).tr f2.a)
      exact ⟨⟨rfl, x1⟩, x2⟩
/-- all bearers are past a place -/
def pasG (x : PG) (e : Int32) : Bool := decide (cnt (nBr x) (fun k => decide (¬ x (15 + 7 * k + 1) ≤ e)) = nBr x)
theorem and10 : n32 1 &&& n32 1 = n32 1 ∧ n32 0 &&& n32 1 = n32 0 ∧ n32 1 &&& n32 0 = n32 0 ∧ n32 0 &&& n32 0 = n32 0 := by decide
theorem s288 {s : Nat} {Q : Int32 → XM → Prop} (w : WF g) (hs : s < 6) (h : Q (if pasG g (g (99 + 12 * s + 1) + g 1) = true then n32 1 else n32 0) (smg m g)) : VI (D + 1) 288 [vR 11 283, vI (n32 s)] (smg m g) Q E := by
  have a2 := w.nb
  have h6 := w.1.1
  unfold pasG at h
  refine w288_0 (up (C := fun i => VLI (D + 1) 288 1 [(0, vR 11 283), (1, vI (n32 s)), (2, vI (if decide (cnt i (fun k => decide (¬ g (15 + 7 * k + 1) ≤ g (99 + 12 * s + 1) + g 1)) = i) = true then n32 1 else n32 0)), (3, vI (n32 i))] [] (smg m g) Q E) (n := nBr g) ?_ ?_ 0 (Nat.zero_le _))
  · intro i hi ih
    refine w288_1 ?_
    simp (disch := omega) only [n32_mul, n32_add, xin_t, ix_n32, smg_at, h6, le_f, false_implies, true_implies, not_false_eq_true, true_and]
    have cl := cnt_le i (fun k => decide (¬ g (15 + 7 * k + 1) ≤ g (99 + 12 * s + 1) + g 1))
    rw [cnt_succ] at ih
    refine ⟨fun c => ?_, fun c => ?_⟩
    · have e2 : decide (¬ g (15 + 7 * i + 1) ≤ g (99 + 12 * s + 1) + g 1) = false := decide_eq_false (fun c' => c' c)
      rw [e2, if_neg (show ¬ false = true by decide)] at ih
      have e3 : decide (cnt i (fun k => decide (¬ g (15 + 7 * k + 1) ≤ g (99 + 12 * s + 1) + g 1)) = i + 1) = false := decide_eq_false (by omega)
      rw [e3, if_neg (show ¬ false = true by decide)] at ih
      have e : (if decide (cnt i (fun k => decide (¬ g (15 + 7 * k + 1) ≤ g (99 + 12 * s + 1) + g 1)) = i) = true then n32 1 else n32 0) &&& n32 0 = n32 0 := by
        split
        · exact and10.2.2.1
        · exact and10.2.2.2
      rw [e]; exact ih
    · rw [decide_eq_true c, if_pos rfl] at ih
      by_cases c2 : cnt i (fun k => decide (¬ g (15 + 7 * k + 1) ≤ g (99 + 12 * s + 1) + g 1)) = i
      · rw [decide_eq_true (by omega), if_pos rfl] at ih
        rw [decide_eq_true c2, if_pos rfl, and10.1]; exact ih
      · rw [decide_eq_false (by omega), if_neg (by decide)] at ih
        rw [decide_eq_false c2, if_neg (by decide), and10.2.1]; exact ih
  · refine w288_1 ?_
    simp (disch := omega) only [ix_n32, smg_at, h6]
    exact ⟨fun _ => ⟨xrt_if, h⟩, fun c => absurd (n32_rfl _) c⟩
def ppa (g : PG) (s n : Nat) : Bool := pasG (tkn g n) (g (99 + 12 * s + 1) + g 1)
theorem c127 {s T X : Nat} {Q : Int32 → XM → Prop} (si : SI g T X) (hT : T ≤ 5000) {m0 : XM} (r0 : RS m0 49 (tkn g 0)) (f0 : FL m m0) (h : ∀ m', FL m m' → Q (fnd (ppa g s) 301 0) m') : VLI (D + 5) 127 1 [(0, vR 10 0), (2, vI (g (99 + 12 * s + 1) + g 1)), (3, vI (n32 0))] [] m0 Q E := by
  have a2 := si.w.nb
  have pq : ∀ i m1, i ≤ 300 → RS m1 49 (tkn g i) → (cnt (nBr g) (fun k => decide (¬ m1 (49 + 3 + 6) k ≤ g (99 + 12 * s + 1) + g 1)) = nBr g ↔ ppa g s i = true) := by
    intro i m1 hi r1
    have kk := tkn_keeps si hT i (by omega)
    unfold ppa pasG
    rw [kk.2.1, decide_eq_true_eq]
    have : cnt (nBr g) (fun k => decide (¬ m1 (49 + 3 + 6) k ≤ g (99 + 12 * s + 1) + g 1)) = cnt (nBr g) (fun k => decide (¬ tkn g i (15 + 7 * k + 1) ≤ g (99 + 12 * s + 1) + g 1)) := cnt_congr fun k hk => by rw [r1.pla (by rw [kk.2.1]; exact hk)]
    rw [this]
  have key : ∀ r i m1, i + r = 300 → RS m1 49 (tkn g i) → FL m m1 → (∀ m', FL m m' → Q (fnd (ppa g s) (r + 1) i) m') → VLI (D + 5) 127 1 [(0, vR 10 0), (2, vI (g (99 + 12 * s + 1) + g 1)), (3, vI (n32 i))] [] m1 Q E := by
    intro r
    induction r with
    | zero =>
      intro i m1 hi r1 f1 h
      have e : i = 300 := by omega
      subst e
      have kk := tkn_keeps si hT 300 (by omega)
      have h6 : m1 (49 + 3) 0 = n32 (nBr g) := by rw [r1.nb, kk.1.1.1, kk.2.1]
      have cl := cnt_le (nBr g) (fun k => decide (¬ m1 (49 + 3 + 6) k ≤ g (99 + 12 * s + 1) + g 1))
      refine w127_1 ⟨fun _ => ?_, fun c => absurd (n32_rfl _) c⟩
      refine s64 (n := nBr g) h6 a2 ?_
      rw [h6]
      have hq := h m1 f1
      rw [fnd_succ] at hq
      by_cases c : ppa g s 300 = true
      · rw [if_pos c] at hq
        exact ⟨fun _ => hq, fun c' => absurd (by rw [(pq 300 m1 (by omega) r1).mpr c]) c'⟩
      · rw [if_neg c] at hq
        exact ⟨fun c' => absurd ((pq 300 m1 (by omega) r1).mp (n32_inj (by omega) (by omega) c')) c, fun _ => hq⟩
    | succ r ih =>
      intro i m1 hi r1 f1 h
      have kk := tkn_keeps si hT i (by omega)
      have h6 : m1 (49 + 3) 0 = n32 (nBr g) := by rw [r1.nb, kk.1.1.1, kk.2.1]
      have cl := cnt_le (nBr g) (fun k => decide (¬ m1 (49 + 3 + 6) k ≤ g (99 + 12 * s + 1) + g 1))
      refine w127_1 ⟨fun c => absurd ((n32_le (by omega) (by omega)).mp c) (by omega), fun _ => ?_⟩
      refine s64 (n := nBr g) h6 a2 ?_
      rw [h6]
      rw [fnd_succ] at h
      by_cases c : ppa g s i = true
      · rw [if_pos c] at h
        exact ⟨fun _ => h m1 f1, fun c' => absurd (by rw [(pq i m1 (by omega) r1).mpr c]) c'⟩
      · rw [if_neg c] at h
        refine ⟨fun c' => absurd ((pq i m1 (by omega) r1).mp (n32_inj (by omega) (by omega) c')) c, fun _ => ?_⟩
        refine s70l si hT (by omega) r1 ?_
        intro m3 r3 f3
        rw [n32_add]
        exact ih (i + 1) m3 (by omega) r3 (f1.tr f3) h
  exact key 300 0 m0 (by omega) r0 f0 h
theorem c289 {s T X : Nat} {Q : Int32 → XM → Prop} (si : SI g T X) (hT : T ≤ 5000) (hs : s < nSt g) {m0 : XM} (f0 : rfr (asd m g) m0) (h : ∀ m', rfr (asd m g) m' → Q (fnd (ppa g s) 301 0) (smg m' g)) : VLI (D + 6) 289 3 [(0, vR 11 283), (1, vI (n32 s)), (2, vI (n32 0))] [] (smg m0 (tkn g 0)) Q E := by
  have a4 := si.w.ns
  have key : ∀ r i m1, i + r = 301 → rfr (asd m g) m1 → (∀ m', rfr (asd m g) m' → Q (fnd (ppa g s) r i) (smg m' g)) → VLI (D + 6) 289 3 [(0, vR 11 283), (1, vI (n32 s)), (2, vI (n32 i))] [] (smg m1 (tkn g i)) Q E := by
    intro r
    induction r with
    | zero =>
      intro i m1 hi f1 h
      refine w289_3 ⟨fun _ => ?_, fun c => absurd ((n32_lt (by omega) (by omega)).mpr (by omega)) c⟩
      exact s285 (asd_at f1) (fun k hk => tkn_hi si hT hk _ (by omega)) (h m1 f1)
    | succ r ih =>
      intro i m1 hi f1 h
      have kk := tkn_keeps si hT i (by omega)
      have e1 := tkn_lo si hT (k := 1) (by omega) i (by omega)
      have e2 := tkn_st si hT (k := 99 + 12 * s + 1) (by omega) (fun s' _ => by omega) i (by omega)
      refine w289_3 ⟨fun c => absurd ((n32_lt (by omega) (by omega)).mp c) (by omega), fun _ => ?_⟩
      refine s288 kk.1 (by omega) ?_
      rw [e1, e2]
      rw [fnd_succ] at h
      have ep : pasG (tkn g i) (g (99 + 12 * s + 1) + g 1) = ppa g s i := rfl
      rw [ep]
      by_cases c : ppa g s i = true
      · rw [if_pos c] at h ⊢
        refine ⟨fun c => absurd c n01, fun _ => ?_⟩
        exact s285 (asd_at f1) (fun k hk => tkn_hi si hT hk _ (by omega)) (h m1 f1)
      · rw [if_neg c] at h ⊢
        refine ⟨fun _ => ?_, fun c => absurd rfl c⟩
        refine s228 kk.1 ?_
        intro m3 f3
        rw [n32_add, ← tkn_succ]
        exact ih (i + 1) m3 (by omega) (f1.tr f3) h
  exact key 301 0 m0 (by omega) f0 h
theorem p_passedIn {v : Int32} {N : Nat} (h : CPL m N) : PRI (D + 12) 127 289 [vR 10 0, vI v] [vR 11 283, vI v] mpSPA m N := by
  unfold PRI
  rcases stand_cases h v with ⟨h1, h2⟩ | ⟨h1, h2, h3, h4⟩ | ⟨h1, h2, hS, s, hs, rfl, h69, h4⟩
  · refine w127_0 ⟨fun _ => ?_, fun c => absurd h1 c⟩
    refine w289_0 (s242 ?_)
    rw [h2]
    exact ⟨fun _ => ⟨⟨um_eq _ _ _ _, by decide, by decide⟩, CPL_th h⟩, fun c => absurd rfl c⟩
  · have rb : VI (D + 12) 289 [vR 11 283, vI v] m (fun _ m2 => (m2 283 0 = n32 (mpSPA 2) ∧ 1 ≤ mpSPA 2 ∧ mpSPA 2 ≤ 3) ∧ CPL m2 N) (fun _ _ => False) := by
      refine w289_0 (s242 ?_)
      rw [h2, h4]
      exact ⟨fun _ => ⟨⟨um_eq _ _ _ _, by decide, by decide⟩, CPL_th h⟩, fun c => absurd rfl c⟩
    refine w127_0 ⟨fun c => absurd (h1.symm.trans c) n01, fun _ => ⟨fun _ => rb, fun c => ⟨fun c2 => ?_, fun _ => rb⟩⟩⟩
    rcases h3 with h3 | h3
    · exact absurd h3 c
    · exact absurd c2 h3
  · obtain ⟨r1, r2, r3, T, hT, si⟩ := hS
    have w := si.w
    have a4 := w.ns
    refine w127_0 ⟨fun c => absurd (h1.symm.trans c) n01, fun _ => ⟨fun c => absurd ((n32_lt (by omega) (by omega)).mp c) (by omega), fun _ => ⟨fun _ => ?_, fun c => absurd (by rw [h69]; exact (n32_lt (by omega) (by omega)).mpr hs) c⟩⟩⟩
    refine ⟨xin_n (by omega) (by omega), ?_⟩
    refine s68l w r1 ?_
    intro m0 r0 f0
    rw [ix_n32 (show s < 2147483648 by omega), ix_n32 (show 1 < 2147483648 by omega), (r3.2 s hs).2.1, r1.se (k := 1) (by omega)]
    refine c127 (m := m) si hT r0 f0 ?_
    intro m1 f1
    have f := QF_fl f1
    have hc : CPL m1 N := CPL_fr h (Nat.le_refl _) f
    have hg : m1 284 = m 284 := funext fun k => f _ _ (by unfold REL; omega)
    have h2' : m1 283 6 = n32 1 := by rw [f _ _ (by unfold REL; omega)]; exact h2
    refine w289_0 (s242 ?_)
    rw [h2', hg, h4, code0]
    refine ⟨fun c => absurd c n01, fun _ => ?_⟩
    rw [st0 hg]
    refine s284 ?_
    refine c289 (m := um m1 283 0 (n32 0)) si hT hs (rfr.rf _) ?_
    intro m2 f2
    obtain ⟨x1, x2⟩ := finA hc hg ((asd_rfa _ _).tr f2.a)
    exact ⟨⟨rfl, x1⟩, x2⟩
end CLO
