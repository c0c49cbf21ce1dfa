/-! Pairs: when a word will be read, when a banner will drop. -/
theorem tkR_st {g : PG} (w : WF g) {k : Nat} (hk : 99 ≤ k ∧ k < 171) (h3 : ∀ s, s < 6 → k ≠ 99 + 12 * s + 3) : tkR g k = g k := by
  have k0 : keeps g (gup g 9 (g 9 + n32 1)) := WF_freeN w (Or.inl (Or.inl rfl))
  have e0 : gup g 9 (g 9 + n32 1) k = g k := gup_ne (by omega)
  unfold tkR tkG
  try dsimp only
  generalize gup g 9 (g 9 + n32 1) = g0 at k0 e0
  have k1 : keeps g0 (plansG g0) := WF_plansG k0.1
  have e1 : plansG g0 k = g0 k := by
    have b := k0.1.np
    exact plans_at k0.1 _ (Nat.le_refl _) k (by omega) (by omega) (by omega) (fun j hj => by omega)
  generalize plansG g0 = g1 at k1 e1
  have k2 : keeps g1 (movesG g1) := WF_movesG k1.1
  have e2 : movesG g1 k = g1 k := moves_at (by omega) _ k1.1.nb
  generalize hbf : (fun b => g1 (15 + 7 * b + 1)) = bf
  generalize movesG g1 = g2 at k2 e2
  have k3 : keeps g2 (weaksG g2) := WF_weaksG k2.1
  have e3 : weaksG g2 k = g2 k := by
    have := itr_inv (P := fun _ x => keeps g2 x ∧ x k = g2 k) (f := weakG) (a := g2) (n := nBr g2) ⟨keeps.rf k2.1, rfl⟩ (fun i x hi hx => by
      have hi' : i < nBr x := by rw [hx.1.2.1]; exact hi
      exact ⟨hx.1.tr (WF_weakG hx.1.1 hi'), by rw [weakG_at hx.1.1 hi' (by omega)]; exact hx.2⟩)
    exact this.2
  generalize weaksG g2 = g3 at k3 e3
  have k4 : keeps g3 (liftsG bf g3) := WF_liftsG k3.1
  have e4 : liftsG bf g3 k = g3 k := by
    have := itr_inv (P := fun _ x => keeps g3 x ∧ x k = g3 k) (f := liftG bf) (a := g3) (n := nBr g3) ⟨keeps.rf k3.1, rfl⟩ (fun i x hi hx => by
      have hi' : i < nBr x := by rw [hx.1.2.1]; exact hi
      exact ⟨hx.1.tr (WF_liftG hx.1.1 hi'), by rw [liftG_at hx.1.1 hi' (by omega)]; exact hx.2⟩)
    exact this.2
  generalize liftsG bf g3 = g4 at k4 e4
  have e5 : rdsG g4 k = g4 k := by
    have := itr_inv (P := fun _ x => keeps g4 x ∧ x k = g4 k) (f := rdStep) (a := g4) (n := nSt g4) ⟨keeps.rf k4.1, rfl⟩ (fun i x hi hx => by
      have hi' : i < nSt x := by rw [hx.1.2.2.1]; exact hi
      have wx := hx.1.1
      have b1 := wx.ns
      refine ⟨hx.1.tr (WF_rdStep wx hi'), ?_⟩
      rw [← hx.2]
      unfold rdStep
      split
      · rw [gup_ne (h3 i (by omega))]
      · rfl)
    exact this.2
  rw [e5, e4, e3, e2, e1, e0]
theorem tkn_st {g : PG} {T X : Nat} (h : SI g T X) (hT : T ≤ 5000) {k : Nat} (hk : 99 ≤ k ∧ k < 171) (h3 : ∀ s, s < 6 → k ≠ 99 + 12 * s + 3) : ∀ n, n ≤ 4000 → tkn g n k = g k := by
  intro n
  induction n with
  | zero => intro _; rfl
  | succ n ih =>
    intro hn
    rw [tkn_succ, tkR_st (tkn_keeps h hT n (by omega)).1 hk h3, ih (by omega)]
theorem RT_tkn {m : XM} {g : PG} {T X n : Nat} (h : SI g T X) (hT : T ≤ 5000) (hn : n ≤ 4000) (r : RT m 69 g) : RT m 69 (tkn g n) := by
  have kk := tkn_keeps h hT n hn
  have a4 := h.w.ns
  have at' : ∀ k, (99 ≤ k ∧ k < 171) → (∀ s, s < 6 → k ≠ 99 + 12 * s + 3) → tkn g n k = g k := fun k h1 h2 => tkn_st h hT h1 h2 n hn
  refine ⟨?_, fun s hs => ?_⟩
  · rw [r.1, kk.1.2.1.1, kk.2.2.1]; exact h.w.2.1.1
  · rw [kk.2.2.1] at hs
    obtain ⟨q1, q2, q3, q4⟩ := r.2 s hs
    obtain ⟨l1, l2, -⟩ := wl h.w hs
    rw [at' _ (by omega) (fun s' _ => by omega), at' _ (by omega) (fun s' _ => by omega), at' _ (by omega) (fun s' _ => by omega)]
    exact ⟨q1, q2, q3, fun i hi => by rw [at' _ (by omega) (fun s' _ => by omega)]; exact q4 i hi⟩
/-- the first of r numbers from i on that is so, or -1 -/
def fnd (p : Nat → Bool) : Nat → Nat → Int32
  | 0, _ => -(n32 1)
  | r + 1, i => if p i = true then n32 i else fnd p r (i + 1)
theorem fnd_succ (p : Nat → Bool) (r i : Nat) : fnd p (r + 1) i = if p i = true then n32 i else fnd p r (i + 1) := by rw [fnd]
section RI
variable {D : Nat} {m : XM} {g : PG} {E : Nat → XM → Prop}
/-- nothing changes but 'later' and the Reading -/
def FLR (m m' : XM) : Prop := ∀ b k, ¬ (49 ≤ b ∧ b < 69) → ¬ (278 ≤ b ∧ b ≤ 280) → m' b k = m b k
theorem FLR.rf (m : XM) : FLR m m := fun _ _ _ _ => rfl
theorem FLR.tr {m1 m2 m3 : XM} (h1 : FLR m1 m2) (h2 : FLR m2 m3) : FLR m1 m3 := fun b k c1 c2 => (h2 b k c1 c2).trans (h1 b k c1 c2)
theorem FL.r {m m' : XM} (h : FL m m') : FLR m m' := fun b k c1 _ => h b k (by omega)
theorem FD.r {m m' : XM} (h : FD 278 m m') : FLR m m' := fun b k _ c2 => h b k (by omega)
theorem QF_flr {m m' : XM} (h : FLR m m') : QF m m' := fun b k hr => h b k hr.1 hr.2.1
theorem RT_flr {m m' : XM} (h : FLR m m') (r : RT m 69 g) : RT m' 69 g := RT_eq r (fun d k hd => h _ _ (by omega) (by omega))
theorem RS_fd49 {m m' : XM} {x : PG} (h : RS m 49 x) (f : FD 278 m m') : RS m' 49 x := RS_fd h f (Or.inr (by omega))
end RI

