/-! Foresight: some ticks on a copy. -/
def tkn (g : PG) : Nat → PG
  | 0 => g
  | n + 1 => tkR (tkn g n)
theorem tkn_succ (g : PG) (n : Nat) : tkn g (n + 1) = tkR (tkn g n) := by rw [tkn]
theorem SI_tkn {g : PG} {T X : Nat} (h : SI g T X) (hT : T ≤ 5000) : ∀ n, n ≤ 4000 → SI (tkn g n) (T + n) (X + 12 * n) := by
  intro n
  induction n with
  | zero => intro _; exact h
  | succ n ih =>
    intro hn
    have := SI_tkR (ih (by omega)) (by omega)
    rw [← tkn_succ] at this
    exact SI_le this (by omega)
theorem tkn_keeps {g : PG} {T X : Nat} (h : SI g T X) (hT : T ≤ 5000) : ∀ n, n ≤ 4000 → keeps g (tkn g n) := by
  intro n
  induction n with
  | zero => intro _; exact keeps.rf h.w
  | succ n ih =>
    intro hn
    rw [tkn_succ]
    exact (ih (by omega)).tr (WF_tkR (ih (by omega)).1)
theorem tkR_hi {g : PG} (w : WF g) {k : Nat} (hk : 243 ≤ k) : tkR g k = g k := by
  have k0 : keeps g (gup g 9 (g 9 + n32 1)) := WF_freeN w (Or.inl (Or.inl rfl))
  have e0 : gup g 9 (g 9 + n32 1) k = g k := gup_ne (by omega)
  unfold tkR tkG
  try dsimp only
  generalize gup g 9 (g 9 + n32 1) = g0 at k0 e0
  have k1 : keeps g0 (plansG g0) := WF_plansG k0.1
  have e1 : plansG g0 k = g0 k := by
    have b := k0.1.np
    exact plans_at k0.1 _ (Nat.le_refl _) k (by omega) (by omega) (by omega) (fun j hj => by omega)
  generalize plansG g0 = g1 at k1 e1
  have k2 : keeps g1 (movesG g1) := WF_movesG k1.1
  have e2 : movesG g1 k = g1 k := moves_at (by omega) _ k1.1.nb
  generalize hbf : (fun b => g1 (15 + 7 * b + 1)) = bf
  generalize movesG g1 = g2 at k2 e2
  have k3 : keeps g2 (weaksG g2) := WF_weaksG k2.1
  have e3 : weaksG g2 k = g2 k := by
    have := itr_inv (P := fun _ x => keeps g2 x ∧ x k = g2 k) (f := weakG) (a := g2) (n := nBr g2) ⟨keeps.rf k2.1, rfl⟩ (fun i x hi hx => by
      have hi' : i < nBr x := by rw [hx.1.2.1]; exact hi
      have wx := hx.1.1
      have b1 := wx.nb
      have b2 := wx.lc
      refine ⟨hx.1.tr (WF_weakG wx hi'), ?_⟩
      rw [← hx.2]
      unfold weakG
      split
      · rename_i c
        have b3 := carried_pos wx hi' (ban_pos wx hi' c.1).2
        exact dropG_at x i (by omega) (by omega) (by omega) (by omega) (by omega) (by omega)
      · rfl)
    exact this.2
  generalize weaksG g2 = g3 at k3 e3
  have k4 : keeps g3 (liftsG bf g3) := WF_liftsG k3.1
  have e4 : liftsG bf g3 k = g3 k := by
    have := itr_inv (P := fun _ x => keeps g3 x ∧ x k = g3 k) (f := liftG bf) (a := g3) (n := nBr g3) ⟨keeps.rf k3.1, rfl⟩ (fun i x hi hx => by
      have hi' : i < nBr x := by rw [hx.1.2.1]; exact hi
      have wx := hx.1.1
      have b1 := wx.nb
      have b2 := wx.nl
      refine ⟨hx.1.tr (WF_liftG wx hi'), ?_⟩
      rw [← hx.2]
      unfold liftG
      split
      · rfl
      · split
        · split
          · rfl
          · exact pickG_at x i _ (by omega) (by omega) (by omega) (Or.inr (by omega))
        · rfl)
    exact this.2
  generalize liftsG bf g3 = g4 at k4 e4
  have e5 : rdsG g4 k = g4 k := by
    have := itr_inv (P := fun _ x => keeps g4 x ∧ x k = g4 k) (f := rdStep) (a := g4) (n := nSt g4) ⟨keeps.rf k4.1, rfl⟩ (fun i x hi hx => by
      have hi' : i < nSt x := by rw [hx.1.2.2.1]; exact hi
      have wx := hx.1.1
      have b1 := wx.ns
      refine ⟨hx.1.tr (WF_rdStep wx hi'), ?_⟩
      rw [← hx.2]
      unfold rdStep
      split
      · rw [gup_ne (by omega)]
      · rfl)
    exact this.2
  rw [e5, e4, e3, e2, e1, e0]
theorem tkn_hi {g : PG} {T X : Nat} (h : SI g T X) (hT : T ≤ 5000) {k : Nat} (hk : 243 ≤ k) : ∀ n, n ≤ 4000 → tkn g n k = g k := by
  intro n
  induction n with
  | zero => intro _; rfl
  | succ n ih =>
    intro hn
    rw [tkn_succ, tkR_hi (tkn_keeps h hT n (by omega)).1 hk, ih (by omega)]
theorem RS_rds {m : XM} {a : Nat} {g : PG} (w : WF g) (r : RS m a g) : RS m a (rdsG g) := by
  have := itr_inv (P := fun _ x => keeps g x ∧ RS m a x) (f := rdStep) (a := g) (n := nSt g) ⟨keeps.rf w, r⟩ (fun i x hi hx => by
    have hi' : i < nSt x := by rw [hx.1.2.2.1]; exact hi
    have wx := hx.1.1
    have b4 := wx.ns
    have b2 := wx.nb
    have b9 := wx.nl
    refine ⟨hx.1.tr (WF_rdStep wx hi'), ?_⟩
    unfold rdStep
    split
    · have kf : keeps x (gup x (99 + 12 * i + 3) (x 9)) := WF_freeN wx (Or.inr (Or.inr (Or.inr (Or.inr ⟨i, by omega, rfl⟩))))
      unfold RS
      rw [kf.2.1, kf.2.2.2, nL_upd (by omega)]
      exact RSn_ign hx.2 b2 (by omega) wx.np (Or.inr (Or.inl (by omega)))
    · exact hx.2)
  exact this.2
/-- nothing changes but the State 'later' -/
def FL (m m' : XM) : Prop := ∀ b k, (b < 49 ∨ 69 ≤ b) → m' b k = m b k
theorem FL.tr {m1 m2 m3 : XM} (h1 : FL m1 m2) (h2 : FL m2 m3) : FL m1 m3 := fun b k hb => (h2 b k hb).trans (h1 b k hb)
theorem QF_fl {m m' : XM} (h : FL m m') : QF m m' := fun b k hr => h b k (by unfold REL at hr; omega)
section FSC
variable {D : Nat} {m : XM} {g : PG} {E : Nat → XM → Prop}
theorem s70l {n T X : Nat} {Q : XM → Prop} (si : SI g T X) (hT : T ≤ 5000) (hn : n ≤ 3000) (r : RS m 49 (tkn g n)) (h : ∀ m', RS m' 49 (tkn g (n + 1)) → FL m m' → Q m') : VU (D + 4) 70 [vR 8 49] m Q E := by
  have s := SI_tkn si hT n (by omega)
  have k := tkn_keeps si hT n (by omega)
  refine s70 k.1 (s.po (by omega)) r ?_
  intro m' r' f
  refine h m' ?_ (fun b k hb => f b k (by omega))
  rw [tkn_succ]
  unfold tkR
  exact RS_rds (WF_tkG k.1).1 r'
theorem s68l {Q : XM → Prop} (w : WF g) (r : RS m 29 g) (h : ∀ m', RS m' 49 (tkn g 0) → FL m m' → Q m') : VU (D + 2) 68 [vR 8 49, vR 8 29] m Q E := by
  refine s68 (by omega) ?_
  intro m' c
  exact h m' (RS_cp w c r) (fun b k hb => c.2 b k (by omega))
theorem s163 {n T X : Nat} {Q : XM → Prop} (si : SI g T X) (hT : T ≤ 5000) (hn : n ≤ 300) (r : RS m 29 g) (h : ∀ m', RS m' 49 (tkn g n) → FL m m' → Q m') : VU (D + 5) 163 [vR 10 0, vI (n32 n)] m Q E := by
  refine w163_0 (s68l si.w r ?_)
  intro m0 r0 f0
  refine upm (C := fun i m' => VLU (D + 5) 163 1 [(0, vR 10 0), (1, vI (n32 n)), (2, vI (n32 i))] [] m' Q E) (Inv := fun i m' => RS m' 49 (tkn g i) ∧ FL m m') (n := n) ?_ ?_ 0 m0 (Nat.zero_le _) ⟨r0, f0⟩
  · intro i m1 hi hI ih
    refine w163_1 ?_
    simp (disch := omega) only [le_f, n32_add, false_implies, true_implies, not_false_eq_true, true_and]
    exact s70l si hT (by omega) hI.1 (fun m2 r2 f2 => ih m2 ⟨r2, hI.2.tr f2⟩)
  · intro m1 hI
    exact w163_1 ⟨fun _ => h m1 hI.1 hI.2, fun c => absurd (n32_rfl _) c⟩
/-- the reference's copy aside, over its array -/
def asd (m : XM) (g : PG) : XM := fun b k => if b = 285 ∧ k < 243 then g k else m b k
theorem lay_back {m' : XM} {x : PG} (ha : ∀ k, k < 243 → m' 285 k = g k) (hx : ∀ k, 243 ≤ k → x k = g k) : lay (smg m' x) 285 0 284 0 243 = smg m' g := by
  funext b k
  unfold lay smg
  by_cases h1 : b = 284
  · subst h1
    by_cases h2 : k < 243
    · rw [if_pos ⟨rfl, by omega, by omega⟩, if_neg (by omega), if_pos rfl, ha _ (by omega)]
      congr 1; omega
    · rw [if_neg (by omega), if_pos rfl, if_pos rfl, hx k (by omega)]
  · rw [if_neg (fun e => h1 e.1), if_neg h1, if_neg h1]
/-- what stays of a memory over the reference's thoughts -/
def rfa (m m' : XM) : Prop := ∀ a k, a ≠ 284 → a ≠ 285 → a ≠ 290 → a ≠ 291 → ¬ (a = 283 ∧ k = 18) → m' a k = m a k
theorem asd_rfa (m : XM) (g : PG) : rfa m (asd m g) := fun a k _ c _ _ _ => if_neg fun e => c e.1
theorem rfr.a {m m' : XM} (h : rfr m m') : rfa m m' := fun a k c1 _ c3 c4 c5 => h a k c1 c3 c4 c5
theorem rfa.tr {m1 m2 m3 : XM} (h1 : rfa m1 m2) (h2 : rfa m2 m3) : rfa m1 m3 := fun a k c1 c2 c3 c4 c5 => (h2 a k c1 c2 c3 c4 c5).trans (h1 a k c1 c2 c3 c4 c5)
theorem asd_at {m m' : XM} {g : PG} (f : rfr (asd m g) m') : ∀ k, k < 243 → m' 285 k = g k := fun k hk => by
  rw [f 285 k (by omega) (by omega) (by omega) (by omega)]
  exact if_pos ⟨rfl, hk⟩
theorem finA {m1 m2 : XM} {g : PG} {N : Nat} (hc : CPL m1 N) (hg : m1 284 = g) (f : rfa (um m1 283 0 (n32 0)) m2) : smg m2 g 283 0 = n32 0 ∧ CPL (smg m2 g) N := by
  refine ⟨?_, ?_⟩
  · rw [smg_ne (by omega), f 283 0 (by omega) (by omega) (by omega) (by omega) (by omega), um_eq]
  · have e := st0 (v := n32 0) hg
    have h1 : CPL (smg (um m1 283 0 (n32 0)) g) N := by rw [← e]; exact CPL_th hc
    refine CPL_fr h1 (Nat.le_refl _) (fun b k hr => ?_)
    unfold smg
    by_cases e : b = 284
    · rw [if_pos e, if_pos e]
    · rw [if_neg e, if_neg e]
      refine f b k e hr.2.2.1 hr.2.2.2.1 hr.2.2.2.2.1 ?_
      rintro ⟨rfl, rfl⟩
      exact hr.2.2.2.2.2.1 ⟨rfl, Or.inr (Or.inl rfl)⟩
end FSC

