/-! Pairs: drops to come, the closing of a gap, the passing of a stand. -/
theorem tkR_lo {g : PG} (w : WF g) {k : Nat} (hk : k < 9) : tkR g k = g k := by
  have k0 : keeps g (gup g 9 (g 9 + n32 1)) := WF_freeN w (Or.inl (Or.inl rfl))
  have e0 : gup g 9 (g 9 + n32 1) k = g k := gup_ne (by omega)
  unfold tkR tkG
  try dsimp only
  generalize gup g 9 (g 9 + n32 1) = g0 at k0 e0
  have k1 : keeps g0 (plansG g0) := WF_plansG k0.1
  have e1 : plansG g0 k = g0 k := by
    have b := k0.1.np
    exact plans_at k0.1 _ (Nat.le_refl _) k (by omega) (by omega) (by omega) (fun j hj => by omega)
  generalize plansG g0 = g1 at k1 e1
  have k2 : keeps g1 (movesG g1) := WF_movesG k1.1
  have e2 : movesG g1 k = g1 k := moves_at (by omega) _ k1.1.nb
  generalize hbf : (fun b => g1 (15 + 7 * b + 1)) = bf
  generalize movesG g1 = g2 at k2 e2
  have k3 : keeps g2 (weaksG g2) := WF_weaksG k2.1
  have e3 : weaksG g2 k = g2 k := by
    have := itr_inv (P := fun _ x => keeps g2 x ∧ x k = g2 k) (f := weakG) (a := g2) (n := nBr g2) ⟨keeps.rf k2.1, rfl⟩ (fun i x hi hx => by
      have hi' : i < nBr x := by rw [hx.1.2.1]; exact hi
      exact ⟨hx.1.tr (WF_weakG hx.1.1 hi'), by rw [weakG_at hx.1.1 hi' (by omega)]; exact hx.2⟩)
    exact this.2
  generalize weaksG g2 = g3 at k3 e3
  have k4 : keeps g3 (liftsG bf g3) := WF_liftsG k3.1
  have e4 : liftsG bf g3 k = g3 k := by
    have := itr_inv (P := fun _ x => keeps g3 x ∧ x k = g3 k) (f := liftG bf) (a := g3) (n := nBr g3) ⟨keeps.rf k3.1, rfl⟩ (fun i x hi hx => by
      have hi' : i < nBr x := by rw [hx.1.2.1]; exact hi
      exact ⟨hx.1.tr (WF_liftG hx.1.1 hi'), by rw [liftG_at hx.1.1 hi' (by omega)]; exact hx.2⟩)
    exact this.2
  generalize liftsG bf g3 = g4 at k4 e4
  have e5 : rdsG g4 k = g4 k := by
    have := itr_inv (P := fun _ x => keeps g4 x ∧ x k = g4 k) (f := rdStep) (a := g4) (n := nSt g4) ⟨keeps.rf k4.1, rfl⟩ (fun i x hi hx => by
      have hi' : i < nSt x := by rw [hx.1.2.2.1]; exact hi
      refine ⟨hx.1.tr (WF_rdStep hx.1.1 hi'), ?_⟩
      rw [← hx.2]
      unfold rdStep
      split
      · rw [gup_ne (by omega)]
      · rfl)
    exact this.2
  rw [e5, e4, e3, e2, e1, e0]
theorem tkn_lo {g : PG} {T X : Nat} (h : SI g T X) (hT : T ≤ 5000) {k : Nat} (hk : k < 9) : ∀ n, n ≤ 4000 → tkn g n k = g k := by
  intro n
  induction n with
  | zero => intro _; rfl
  | succ n ih =>
    intro hn
    rw [tkn_succ, tkR_lo (tkn_keeps h hT n (by omega)).1 hk, ih (by omega)]
section FD2
variable {D : Nat} {m : XM} {g : PG} {E : Nat → XM → Prop}
theorem RS_fl {m m' : XM} (h : FL m m') (r : RS m 29 g) : RS m' 29 g := RS_eq r (fun d k hd _ _ => h _ _ (by omega))
/-- a drop comes within so many ticks -/
def pdr (g : PG) (n : Nat) : Bool := decide (¬ tkn g n 13 ≤ g 13)
theorem s164 {L T X : Nat} {Q : Int32 → XM → Prop} (si : SI g T X) (hT : T ≤ 5000) (hL : L ≤ 300) {m0 : XM} (r0 : RS m0 49 (tkn g 0)) (r1 : RS m 29 g) (f0 : FL m m0) (h : ∀ m', FL m m' → Q (fnd (pdr g) L 1) m') : VI (D + 5) 164 [vR 10 0, vI (n32 L)] m0 Q E := by
  have key : ∀ r i m1, i + r = L → RS m1 49 (tkn g i) → FL m m1 → (∀ m', FL m m' → Q (fnd (pdr g) r (i + 1)) m') → VLI (D + 5) 164 1 [(0, vR 10 0), (1, vI (n32 L)), (2, vI (n32 (i + 1)))] [] m1 Q E := by
    intro r
    induction r with
    | zero =>
      intro i m1 hi _ f1 h
      refine w164_1 ⟨fun _ => h m1 f1, fun c => absurd ((n32_lt (by omega) (by omega)).mpr (by omega)) c⟩
    | succ r ih =>
      intro i m1 hi r2 f1 h
      refine w164_1 ⟨fun c => absurd ((n32_lt (by omega) (by omega)).mp c) (by omega), fun _ => ?_⟩
      refine s70l si hT (by omega) r2 ?_
      intro m2 r3 f2
      have f3 := f1.tr f2
      rw [r3.dr, (RS_fl f3 r1).dr]
      rw [fnd_succ] at h
      by_cases c : tkn g (i + 1) 13 ≤ g 13
      · have e : pdr g (i + 1) = false := by unfold pdr; simp only [c, not_true_eq_false, decide_false]
        rw [e, if_neg (by decide)] at h
        refine ⟨fun _ => ?_, fun c' => absurd c c'⟩
        rw [n32_add]
        exact ih (i + 1) m2 (by omega) r3 f3 h
      · have e : pdr g (i + 1) = true := by unfold pdr; simp only [c, not_false_eq_true, decide_true]
        rw [e, if_pos rfl] at h
        exact ⟨fun c' => absurd c' c, fun _ => h m2 f3⟩
  exact w164_0 (key L 0 m0 (by omega) r0 f0 h)
theorem c296 {T X : Nat} {Q : Int32 → XM → Prop} (si : SI g T X) (hT : T ≤ 5000) {m0 : XM} (f0 : rfr (asd m g) m0) (h : ∀ m', rfr (asd m g) m' → Q (fnd (pdr g) 300 1) (smg m' g)) : VLI (D + 6) 296 3 [(0, vR 11 283), (1, vI (n32 1))] [] (smg m0 (tkn g 0)) Q E := by
  have key : ∀ r i m1, i + r = 300 → rfr (asd m g) m1 → (∀ m', rfr (asd m g) m' → Q (fnd (pdr g) r (i + 1)) (smg m' g)) → VLI (D + 6) 296 3 [(0, vR 11 283), (1, vI (n32 (i + 1)))] [] (smg m1 (tkn g i)) Q E := by
    intro r
    induction r with
    | zero =>
      intro i m1 hi f1 h
      refine w296_3 ⟨fun _ => ?_, fun c => absurd ((n32_lt (by omega) (by omega)).mpr (by omega)) c⟩
      exact s285 (asd_at f1) (fun k hk => tkn_hi si hT hk _ (by omega)) (h m1 f1)
    | succ r ih =>
      intro i m1 hi f1 h
      have kk := tkn_keeps si hT i (by omega)
      refine w296_3 ⟨fun c => absurd ((n32_lt (by omega) (by omega)).mp c) (by omega), fun _ => ?_⟩
      refine s228 kk.1 ?_
      intro m2 f2
      have f3 := f1.tr f2
      rw [← tkn_succ]
      have e13 : smg m2 (tkn g (i + 1)) 285 13 = g 13 := by rw [smg_ne (by omega)]; exact asd_at f3 13 (by omega)
      simp (disch := omega) only [smg_at, ix_n32, e13]
      rw [fnd_succ] at h
      by_cases c : tkn g (i + 1) 13 ≤ g 13
      · have e : pdr g (i + 1) = false := by unfold pdr; simp only [c, not_true_eq_false, decide_false]
        rw [e, if_neg (by decide)] at h
        refine ⟨fun _ => ?_, fun c' => absurd c c'⟩
        rw [n32_add]
        exact ih (i + 1) m2 (by omega) f3 h
      · have e : pdr g (i + 1) = true := by unfold pdr; simp only [c, not_false_eq_true, decide_true]
        rw [e, if_pos rfl] at h
        refine ⟨fun c' => absurd c' c, fun _ => ?_⟩
        exact s285 (asd_at f3) (fun k hk => tkn_hi si hT hk _ (by omega)) (h m2 f3)
  exact key 300 0 m0 (by omega) f0 h
theorem p_firstDrop {N : Nat} (h : CPL m N) : PRI (D + 12) 132 296 [vR 10 0] [vR 11 283] mpSA m N := by
  unfold PRI
  rcases h.ld with ⟨h1, h2⟩ | ⟨h1, h2, r1, r2, r3, T, hT, si⟩
  · refine w132_0 ⟨fun _ => ?_, fun c => absurd h1 c⟩
    refine w296_0 (s275 ?_)
    rw [h2]
    exact ⟨fun _ => ⟨⟨um_eq _ _ _ _, by decide, by decide⟩, CPL_th h⟩, fun c => absurd rfl c⟩
  · have w := si.w
    refine w132_0 ⟨fun c => absurd (h1.symm.trans c) n01, fun _ => ?_⟩
    refine s68l w r1 ?_
    intro m0 r0 f0
    refine s164 (m := m) si hT (by omega) r0 r1 f0 ?_
    intro m1 f1
    have f := QF_fl f1
    have hc : CPL m1 N := CPL_fr h (Nat.le_refl _) f
    have hg : m1 284 = m 284 := funext fun k => f _ _ (by unfold REL; omega)
    have h2' : m1 283 6 = n32 1 := by rw [f _ _ (by unfold REL; omega)]; exact h2
    refine w296_0 (s275 ?_)
    rw [h2', code0]
    refine ⟨fun c => absurd c n01, fun _ => ?_⟩
    rw [st0 hg]
    refine s284 ?_
    refine c296 (m := um m1 283 0 (n32 0)) si hT (rfr.rf _) ?_
    intro m2 f2
    obtain ⟨x1, x2⟩ := finA hc hg ((asd_rfa _ _).tr f2.a)
    exact ⟨⟨rfl, x1⟩, x2⟩
theorem p_dropsIn {v : Int32} {N : Nat} (h : CPL m N) : PRI (D + 12) 131 295 [vR 10 0, vI v] [vR 11 283, vI v] mpSA m N := by
  unfold PRI
  have no : ∀ (l : Int32) (c : Nat), m 283 6 = l → (∀ t, (t = n32 0 ∨ (t = n32 1 ∧ ∃ n, n ≤ 300 ∧ v = n32 n)) → codeOf l t (n32 1) = c) → 1 ≤ c → c ≤ 3 → VI (D + 12) 295 [vR 11 283, vI v] m (fun _ m2 => (m2 283 0 = n32 c ∧ 1 ≤ c ∧ c ≤ 3) ∧ CPL m2 N) (fun _ _ => False) := by
    intro l c hl hc h1 h3
    have cn : ¬ c = 0 := by omega
    rcases far_cases v with c1 | ⟨c1, c2⟩ | ⟨n, hn, rfl⟩
    · refine w295_0 ⟨fun _ => s177 ?_, fun c' => absurd c1 c'⟩
      rw [hl, hc _ (Or.inl rfl), if_neg cn]
      exact ⟨fun _ => ⟨⟨um_eq _ _ _ _, h1, h3⟩, CPL_th h⟩, fun c => absurd rfl c⟩
    · refine w295_0 ⟨fun c' => absurd c' c1, fun _ => ⟨fun _ => s177 ?_, fun c' => absurd c2 c'⟩⟩
      rw [hl, hc _ (Or.inl rfl), if_neg cn]
      exact ⟨fun _ => ⟨⟨um_eq _ _ _ _, h1, h3⟩, CPL_th h⟩, fun c => absurd rfl c⟩
    · refine w295_0 ⟨fun c' => absurd ((n32_lt (by omega) (by omega)).mp c') (by omega), fun _ => ⟨fun c' => absurd ((n32_lt (by omega) (by omega)).mp c') (by omega), fun _ => s177 ?_⟩⟩
      rw [hl, hc _ (Or.inr ⟨rfl, n, hn, rfl⟩), if_neg cn]
      exact ⟨fun _ => ⟨⟨um_eq _ _ _ _, h1, h3⟩, CPL_th h⟩, fun c => absurd rfl c⟩
  rcases h.ld with ⟨h1, h2⟩ | ⟨h1, h2, r1, r2, r3, T, hT, si⟩
  · refine w131_0 ⟨fun _ => ?_, fun c => absurd h1 c⟩
    exact no _ 1 h2 (fun t _ => code1 _ _) (by omega) (by omega)
  · have w := si.w
    refine w131_0 ⟨fun c => absurd (h1.symm.trans c) n01, fun _ => ?_⟩
    rcases far_cases v with c1 | ⟨c1, c2⟩ | ⟨n, hn, rfl⟩
    · refine ⟨fun _ => ?_, fun c => absurd c1 c⟩
      refine no _ 2 h2 (fun t ht => ?_) (by omega) (by omega)
      rcases ht with rfl | ⟨-, n, hn, rfl⟩
      · exact code2 _
      · exact absurd ((n32_lt (by omega) (by omega)).mp c1) (by omega)
    · refine ⟨fun c => absurd c c1, fun _ => ⟨fun _ => ?_, fun c => absurd c2 c⟩⟩
      refine no _ 2 h2 (fun t ht => ?_) (by omega) (by omega)
      rcases ht with rfl | ⟨-, n, hn, rfl⟩
      · exact code2 _
      · exact absurd ((n32_lt (by omega) (by omega)).mp c2) (by omega)
    · refine ⟨fun c => absurd ((n32_lt (by omega) (by omega)).mp c) (by omega), fun _ => ⟨fun c => absurd ((n32_lt (by omega) (by omega)).mp c) (by omega), fun _ => ?_⟩⟩
      refine s163 si hT hn r1 ?_
      intro m1 rl fl
      rw [rl.dr, (RS_fl fl r1).dr]
      have f := QF_fl fl
      have hc : CPL m1 N := CPL_fr h (Nat.le_refl _) f
      have hg : m1 284 = m 284 := funext fun k => f _ _ (by unfold REL; omega)
      have h2' : m1 283 6 = n32 1 := by rw [f _ _ (by unfold REL; omega)]; exact h2
      refine w295_0 ⟨fun c' => absurd ((n32_lt (by omega) (by omega)).mp c') (by omega), fun _ => ⟨fun c' => absurd ((n32_lt (by omega) (by omega)).mp c') (by omega), fun _ => s177 ?_⟩⟩
      rw [h2', code0]
      refine ⟨fun c => absurd c n01, fun _ => ?_⟩
      rw [st0 hg]
      refine s284 (s229 si hT (by omega) ?_)
      intro m2 f2
      have e13 : smg m2 (tkn (m 284) n) 285 13 = m 284 13 := by rw [smg_ne (by omega)]; exact asd_at f2 13 (by omega)
      simp (disch := omega) only [smg_at, ix_n32, e13]
      refine s285 (asd_at f2) (fun k hk => tkn_hi si hT hk n (by omega)) ?_
      obtain ⟨x1, x2⟩ := finA hc hg ((asd_rfa _ _).tr f2.a)
      exact ⟨⟨rfl, x1⟩, x2⟩
end FD2
