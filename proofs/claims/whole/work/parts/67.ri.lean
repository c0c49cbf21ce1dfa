/-! Pairs: when a word will be read, when a banner will drop. -/
theorem tkR_st {g : PG} (w : WF g) {k : Nat} (hk : 99 ≤ k ∧ k < 171) (h3 : ∀ s, s < 6 → k ≠ 99 + 12 * s + 3) : tkR g k = g k := by
  have k0 : keeps g (gup g 9 (g 9 + n32 1)) := WF_freeN w (Or.inl (Or.inl rfl))
  have e0 : gup g 9 (g 9 + n32 1) k = g k := gup_ne (by omega)
  unfold tkR tkG
  try dsimp only
  generalize gup g 9 (g 9 + n32 1) = g0 at k0 e0
  have k1 : keeps g0 (plansG g0) := WF_plansG k0.1
  have e1 : plansG g0 k = g0 k := by
    have b := k0.1.np
    exact plans_at k0.1 _ (Nat.le_refl _) k (by omega) (by omega) (by omega) (fun j hj => by omega)
  generalize plansG g0 = g1 at k1 e1
  have k2 : keeps g1 (movesG g1) := WF_movesG k1.1
  have e2 : movesG g1 k = g1 k := moves_at (by omega) _ k1.1.nb
  generalize hbf : (fun b => g1 (15 + 7 * b + 1)) = bf
  generalize movesG g1 = g2 at k2 e2
  have k3 : keeps g2 (weaksG g2) := WF_weaksG k2.1
  have e3 : weaksG g2 k = g2 k := by
    have := itr_inv (P := fun _ x => keeps g2 x ∧ x k = g2 k) (f := weakG) (a := g2) (n := nBr g2) ⟨keeps.rf k2.1, rfl⟩ (fun i x hi hx => by
      have hi' : i < nBr x := by rw [hx.1.2.1]; exact hi
      exact ⟨hx.1.tr (WF_weakG hx.1.1 hi'), by rw [weakG_at hx.1.1 hi' (by omega)]; exact hx.2⟩)
    exact this.2
  generalize weaksG g2 = g3 at k3 e3
  have k4 : keeps g3 (liftsG bf g3) := WF_liftsG k3.1
  have e4 : liftsG bf g3 k = g3 k := by
    have := itr_inv (P := fun _ x => keeps g3 x ∧ x k = g3 k) (f := liftG bf) (a := g3) (n := nBr g3) ⟨keeps.rf k3.1, rfl⟩ (fun i x hi hx => by
      have hi' : i < nBr x := by rw [hx.1.2.1]; exact hi
      exact ⟨hx.1.tr (WF_liftG hx.1.1 hi'), by rw [liftG_at hx.1.1 hi' (by omega)]; exact hx.2⟩)
    exact this.2
  generalize liftsG bf g3 = g4 at k4 e4
  have e5 : rdsG g4 k = g4 k := by
    have := itr_inv (P := fun _ x => keeps g4 x ∧ x k = g4 k) (f := rdStep) (a := g4) (n := nSt g4) ⟨keeps.rf k4.1, rfl⟩ (fun i x hi hx => by
      have hi' : i < nSt x := by rw [hx.1.2.2.1]; exact hi
      have wx := hx.1.1
      have b1 := wx.ns
      refine ⟨hx.1.tr (WF_rdStep wx hi'), ?_⟩
      rw [← hx.2]
      unfold rdStep
      split
      · rw [gup_ne (h3 i (by omega))]
      · rfl)
    exact this.2
  rw [e5, e4, e3, e2, e1, e0]
theorem tkn_st {g : PG} {T X : Nat} (h : SI g T X) (hT : T ≤ 5000) {k : Nat} (hk : 99 ≤ k ∧ k < 171) (h3 : ∀ s, s < 6 → k ≠ 99 + 12 * s + 3) : ∀ n, n ≤ 4000 → tkn g n k = g k := by
  intro n
  induction n with
  | zero => intro _; rfl
  | succ n ih =>
    intro hn
    rw [tkn_succ, tkR_st (tkn_keeps h hT n (by omega)).1 hk h3, ih (by omega)]
theorem RT_tkn {m : XM} {g : PG} {T X n : Nat} (h : SI g T X) (hT : T ≤ 5000) (hn : n ≤ 4000) (r : RT m 69 g) : RT m 69 (tkn g n) := by
  have kk := tkn_keeps h hT n hn
  have a4 := h.w.ns
  have at' : ∀ k, (99 ≤ k ∧ k < 171) → (∀ s, s < 6 → k ≠ 99 + 12 * s + 3) → tkn g n k = g k := fun k h1 h2 => tkn_st h hT h1 h2 n hn
  refine ⟨?_, fun s hs => ?_⟩
  · rw [r.1, kk.1.2.1.1, kk.2.2.1]; exact h.w.2.1.1
  · rw [kk.2.2.1] at hs
    obtain ⟨q1, q2, q3, q4⟩ := r.2 s hs
    obtain ⟨l1, l2, -⟩ := wl h.w hs
    rw [at' _ (by omega) (fun s' _ => by omega), at' _ (by omega) (fun s' _ => by omega), at' _ (by omega) (fun s' _ => by omega)]
    exact ⟨q1, q2, q3, fun i hi => by rw [at' _ (by omega) (fun s' _ => by omega)]; exact q4 i hi⟩
/-- the first of r numbers from i on that is so, or -1 -/
def fnd (p : Nat → Bool) : Nat → Nat → Int32
  | 0, _ => -(n32 1)
  | r + 1, i => if p i = true then n32 i else fnd p r (i + 1)
theorem fnd_succ (p : Nat → Bool) (r i : Nat) : fnd p (r + 1) i = if p i = true then n32 i else fnd p r (i + 1) := by rw [fnd]
section RI
variable {D : Nat} {m : XM} {g : PG} {E : Nat → XM → Prop}
theorem s162 {s n T X : Nat} {Q : Nat → XM → Prop} (si : SI g T X) (hT : T ≤ 5000) (hn : n ≤ 4000) (r : RS m 49 (tkn g n)) (rt : RT m 69 g) (hs : s < nSt g) (h : ∀ m', RR m' 278 (txA (tkn g n) s) → FD 278 m m' → Q 278 m') : VA (D + 3) 162 [vR 10 0, vI (n32 s)] m Q E := by
  have kk := tkn_keeps si hT n hn
  exact w162_0 (s33 kk.1 r (RT_tkn si hT hn rt) (by rw [kk.2.2.1]; exact hs) (Or.inr (by omega)) (Or.inr (by omega)) h)
/-- nothing changes but 'later' and the Reading -/
def FLR (m m' : XM) : Prop := ∀ b k, ¬ (49 ≤ b ∧ b < 69) → ¬ (278 ≤ b ∧ b ≤ 280) → m' b k = m b k
theorem FLR.rf (m : XM) : FLR m m := fun _ _ _ _ => rfl
theorem FLR.tr {m1 m2 m3 : XM} (h1 : FLR m1 m2) (h2 : FLR m2 m3) : FLR m1 m3 := fun b k c1 c2 => (h2 b k c1 c2).trans (h1 b k c1 c2)
theorem FL.r {m m' : XM} (h : FL m m') : FLR m m' := fun b k c1 _ => h b k (by omega)
theorem FD.r {m m' : XM} (h : FD 278 m m') : FLR m m' := fun b k _ c2 => h b k (by omega)
theorem QF_flr {m m' : XM} (h : FLR m m') : QF m m' := fun b k hr => h b k hr.1 hr.2.1
theorem RT_flr {m m' : XM} (h : FLR m m') (r : RT m 69 g) : RT m' 69 g := RT_eq r (fun d k hd => h _ _ (by omega) (by omega))
theorem RS_fd49 {m m' : XM} {x : PG} (h : RS m 49 x) (f : FD 278 m m') : RS m' 49 x := RS_fd h f (Or.inr (by omega))
theorem c126 {s T X : Nat} {Q : Int32 → XM → Prop} (si : SI g T X) (hT : T ≤ 5000) (hs : s < nSt g) {m0 : XM} (r0 : RS m0 49 (tkn g 0)) (rt : RT m 69 g) (f0 : FLR m m0) (h : ∀ m', FLR m m' → Q (fnd (fun n => rdG (tkn g n) s) 301 0) m') : VLI (D + 5) 126 1 [(0, vR 10 0), (1, vI (n32 s)), (2, vI (n32 0))] [] m0 Q E := by
  have a4 := si.w.ns
  have key : ∀ r i m1, i + r = 300 → RS m1 49 (tkn g i) → FLR m m1 → (∀ m', FLR m m' → Q (fnd (fun n => rdG (tkn g n) s) (r + 1) i) m') → VLI (D + 5) 126 1 [(0, vR 10 0), (1, vI (n32 s)), (2, vI (n32 i))] [] m1 Q E := by
    intro r
    induction r with
    | zero =>
      intro i m1 hi r1 f1 h
      have e : i = 300 := by omega
      subst e
      have kk := tkn_keeps si hT 300 (by omega)
      refine w126_1 ⟨fun _ => ?_, fun c => absurd (n32_rfl _) c⟩
      refine s162 si hT (by omega) r1 (RT_flr f1 rt) hs ?_
      intro m2 hT2 fd
      have f2 := f1.tr fd.r
      refine s39 kk.1 hT2 (RT_tkn si hT (by omega) (RT_flr f2 rt)) (by rw [kk.2.2.1]; exact hs) ?_
      have hq := h m2 f2
      rw [fnd_succ] at hq
      by_cases c : rdG (tkn g 300) s = true
      · rw [if_pos c] at hq ⊢
        exact ⟨fun c => absurd c n01, fun _ => hq⟩
      · rw [if_neg c] at hq ⊢
        exact ⟨fun _ => hq, fun c => absurd rfl c⟩
    | succ r ih =>
      intro i m1 hi r1 f1 h
      have kk := tkn_keeps si hT i (by omega)
      refine w126_1 ⟨fun c => absurd ((n32_le (by omega) (by omega)).mp c) (by omega), fun _ => ?_⟩
      refine s162 si hT (by omega) r1 (RT_flr f1 rt) hs ?_
      intro m2 hT2 fd
      have f2 := f1.tr fd.r
      refine s39 kk.1 hT2 (RT_tkn si hT (by omega) (RT_flr f2 rt)) (by rw [kk.2.2.1]; exact hs) ?_
      rw [fnd_succ] at h
      by_cases c : rdG (tkn g i) s = true
      · rw [if_pos c] at h ⊢
        exact ⟨fun c => absurd c n01, fun _ => h m2 f2⟩
      · rw [if_neg c] at h ⊢
        refine ⟨fun _ => ?_, fun c => absurd rfl c⟩
        refine s70l si hT (by omega) (RS_fd49 r1 fd) ?_
        intro m3 r3 f3
        rw [n32_add]
        exact ih (i + 1) m3 (by omega) r3 (f2.tr f3.r) h
  exact key 300 0 m0 (by omega) r0 f0 h
theorem c287 {s T X : Nat} {Q : Int32 → XM → Prop} (si : SI g T X) (hT : T ≤ 5000) (hs : s < nSt g) {m0 : XM} (f0 : rfr (asd m g) m0) (h : ∀ m', rfr (asd m g) m' → Q (fnd (fun n => rdG (tkn g n) s) 301 0) (smg m' g)) : VLI (D + 6) 287 3 [(0, vR 11 283), (1, vI (n32 s)), (2, vI (n32 0))] [] (smg m0 (tkn g 0)) Q E := by
  have a4 := si.w.ns
  have key : ∀ r i m1, i + r = 301 → rfr (asd m g) m1 → (∀ m', rfr (asd m g) m' → Q (fnd (fun n => rdG (tkn g n) s) r i) (smg m' g)) → VLI (D + 6) 287 3 [(0, vR 11 283), (1, vI (n32 s)), (2, vI (n32 i))] [] (smg m1 (tkn g i)) Q E := by
    intro r
    induction r with
    | zero =>
      intro i m1 hi f1 h
      have e : i = 301 := by omega
      subst e
      refine w287_3 ⟨fun _ => ?_, fun c => absurd ((n32_lt (by omega) (by omega)).mpr (by omega)) c⟩
      exact s285 (asd_at f1) (fun k hk => tkn_hi si hT hk _ (by omega)) (h m1 f1)
    | succ r ih =>
      intro i m1 hi f1 h
      have kk := tkn_keeps si hT i (by omega)
      refine w287_3 ⟨fun c => absurd ((n32_lt (by omega) (by omega)).mp c) (by omega), fun _ => ?_⟩
      refine s223 kk.1 (by rw [kk.2.2.1]; exact hs) ?_
      intro m2 f2
      rw [fnd_succ] at h
      by_cases c : rdG (tkn g i) s = true
      · rw [if_pos c] at h ⊢
        refine ⟨fun c => absurd c n01, fun _ => ?_⟩
        exact s285 (asd_at (f1.tr f2)) (fun k hk => tkn_hi si hT hk _ (by omega)) (h m2 (f1.tr f2))
      · rw [if_neg c] at h ⊢
        refine ⟨fun _ => ?_, fun c => absurd rfl c⟩
        refine s228 kk.1 ?_
        intro m3 f3
        rw [n32_add, ← tkn_succ]
        exact ih (i + 1) m3 (by omega) ((f1.tr f2).tr f3) h
  exact key 301 0 m0 (by omega) f0 h
theorem p_readsIn {v : Int32} {N : Nat} (h : CPL m N) : PRI (D + 12) 126 287 [vR 10 0, vI v] [vR 11 283, vI v] mpSPA m N := by
  unfold PRI
  rcases stand_cases h v with ⟨h1, h2⟩ | ⟨h1, h2, h3, h4⟩ | ⟨h1, h2, hS, s, hs, rfl, h69, h4⟩
  · refine w126_0 ⟨fun _ => ?_, fun c => absurd h1 c⟩
    refine w287_0 (s242 ?_)
    rw [h2]
    exact ⟨fun _ => ⟨⟨um_eq _ _ _ _, by decide, by decide⟩, CPL_th h⟩, fun c => absurd rfl c⟩
  · have rb : VI (D + 12) 287 [vR 11 283, vI v] m (fun _ m2 => (m2 283 0 = n32 (mpSPA 2) ∧ 1 ≤ mpSPA 2 ∧ mpSPA 2 ≤ 3) ∧ CPL m2 N) (fun _ _ => False) := by
      refine w287_0 (s242 ?_)
      rw [h2, h4]
      exact ⟨fun _ => ⟨⟨um_eq _ _ _ _, by decide, by decide⟩, CPL_th h⟩, fun c => absurd rfl c⟩
    refine w126_0 ⟨fun c => absurd (h1.symm.trans c) n01, fun _ => ⟨fun _ => rb, fun c => ⟨fun c2 => ?_, fun _ => rb⟩⟩⟩
    rcases h3 with h3 | h3
    · exact absurd h3 c
    · exact absurd c2 h3
  · obtain ⟨r1, r2, r3, T, hT, si⟩ := hS
    have w := si.w
    have a4 := w.ns
    refine w126_0 ⟨fun c => absurd (h1.symm.trans c) n01, fun _ => ⟨fun c => absurd ((n32_lt (by omega) (by omega)).mp c) (by omega), fun _ => ⟨fun _ => ?_, fun c => absurd (by rw [h69]; exact (n32_lt (by omega) (by omega)).mpr hs) c⟩⟩⟩
    refine s68l w r1 ?_
    intro m0 r0 f0
    refine c126 (m := m) si hT hs r0 r3 f0.r ?_
    intro m1 f1
    have f := QF_flr f1
    have hc : CPL m1 N := CPL_fr h (Nat.le_refl _) f
    have hg : m1 284 = m 284 := funext fun k => f _ _ (by unfold REL; omega)
    have h2' : m1 283 6 = n32 1 := by rw [f _ _ (by unfold REL; omega)]; exact h2
    refine w287_0 (s242 ?_)
    rw [h2', hg, h4, code0]
    refine ⟨fun c => absurd c n01, fun _ => ?_⟩
    rw [st0 hg]
    refine s284 ?_
    refine c287 (m := um m1 283 0 (n32 0)) si hT hs (rfr.rf _) ?_
    intro m2 f2
    obtain ⟨x1, x2⟩ := finA hc hg ((asd_rfa _ _).tr f2.a)
    exact ⟨⟨rfl, x1⟩, x2⟩
end RI
