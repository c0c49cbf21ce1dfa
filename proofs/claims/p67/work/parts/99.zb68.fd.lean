/-! Pairs: drops to come, the closing of a gap, the passing of a stand. -/
theorem tkR_lo {g : PG} (w : WF g) {k : Nat} (hk : k < 9) : tkR g k = g k := by
  have k0 : keeps g (gup g 9 (g 9 + n32 1)) := WF_freeN w (Or.inl (Or.inl rfl))
  have e0 : gup g 9 (g 9 + n32 1) k = g k := gup_ne (by omega)
  unfold tkR tkG
  try dsimp only
  generalize gup g 9 (g 9 + n32 1) = g0 at k0 e0
  have k1 : keeps g0 (plansG g0) := WF_plansG k0.1
  have e1 : plansG g0 k = g0 k := by
    have b := k0.1.np
    exact plans_at k0.1 _ (Nat.le_refl _) k (by omega) (by omega) (by omega) (fun j hj => by omega)
  generalize plansG g0 = g1 at k1 e1
  have k2 : keeps g1 (movesG g1) := WF_movesG k1.1
  have e2 : movesG g1 k = g1 k := moves_at (by omega) _ k1.1.nb
  generalize hbf : (fun b => g1 (15 + 7 * b + 1)) = bf
  generalize movesG g1 = g2 at k2 e2
  have k3 : keeps g2 (weaksG g2) := WF_weaksG k2.1
  have e3 : weaksG g2 k = g2 k := by
    have := itr_inv (P := fun _ x => keeps g2 x ∧ x k = g2 k) (f := weakG) (a := g2) (n := nBr g2) ⟨keeps.rf k2.1, rfl⟩ (fun i x hi hx => by
      have hi' : i < nBr x := by rw [hx.1.2.1]; exact hi
      exact ⟨hx.1.tr (WF_weakG hx.1.1 hi'), by rw [weakG_at hx.1.1 hi' (by omega)]; exact hx.2⟩)
    exact this.2
  generalize weaksG g2 = g3 at k3 e3
  have k4 : keeps g3 (liftsG bf g3) := WF_liftsG k3.1
  have e4 : liftsG bf g3 k = g3 k := by
    have := itr_inv (P := fun _ x => keeps g3 x ∧ x k = g3 k) (f := liftG bf) (a := g3) (n := nBr g3) ⟨keeps.rf k3.1, rfl⟩ (fun i x hi hx => by
      have hi' : i < nBr x := by rw [hx.1.2.1]; exact hi
      exact ⟨hx.1.tr (WF_liftG hx.1.1 hi'), by rw [liftG_at hx.1.1 hi' (by omega)]; exact hx.2⟩)
    exact this.2
  generalize liftsG bf g3 = g4 at k4 e4
  have e5 : rdsG g4 k = g4 k := by
    have := itr_inv (P := fun _ x => keeps g4 x ∧ x k = g4 k) (f := rdStep) (a := g4) (n := nSt g4) ⟨keeps.rf k4.1, rfl⟩ (fun i x hi hx => by
      have hi' : i < nSt x := by rw [hx.1.2.2.1]; exact hi
      refine ⟨hx.1.tr (WF_rdStep hx.1.1 hi'), ?_⟩
      rw [← hx.2]
      unfold rdStep
      split
      · rw [gup_ne (by omega)]
      · rfl)
    exact this.2
  rw [e5, e4, e3, e2, e1, e0]
theorem tkn_lo {g : PG} {T X : Nat} (h : SI g T X) (hT : T ≤ 5000) {k : Nat} (hk : k < 9) : ∀ n, n ≤ 4000 → tkn g n k = g k := by
  intro n
  induction n with
  | zero => intro _; rfl
  | succ n ih =>
    intro hn
    rw [tkn_succ, tkR_lo (tkn_keeps h hT n (by omega)).1 hk, ih (by omega)]
section FD2
variable {D : Nat} {m : XM} {g : PG} {E : Nat → XM → Prop}
theorem RS_fl {m m' : XM} (h : FL m m') (r : RS m 29 g) : RS m' 29 g := RS_eq r (fun d k hd _ _ => h _ _ (by omega))
/-- a drop comes within so many ticks -/
def pdr (g : PG) (n : Nat) : Bool := decide (¬ tkn g n 13 ≤ g 13)
end FD2

