/-! What the law asks of every picture: letters, gaps. -/
/-- how many banners with a letter there are: carried, or lying -/
def tot (g : PG) (v : Int32) : Nat := cnt (nBr g) (fun b => decide (g (15 + 7 * b) = v)) + cnt (nL g) (fun k => decide (g (207 + 3 * k) = v))
/-- a step that loses and adds no letter -/
def SL (g g' : PG) : Prop := nBr g' = nBr g ∧ (∀ b, b < nBr g → g' (15 + 7 * b + 6) = g (15 + 7 * b + 6)) ∧ ∀ v, ¬ v = n32 0 → tot g' v = tot g v
theorem SL.rf (g : PG) : SL g g := ⟨rfl, fun _ _ => rfl, fun _ _ => rfl⟩
theorem SL.tr {g1 g2 g3 : PG} (h1 : SL g1 g2) (h2 : SL g2 g3) : SL g1 g3 :=
  ⟨h2.1.trans h1.1, fun b hb => (h2.2.1 b (by rw [h1.1]; exact hb)).trans (h1.2.1 b hb), fun v hv => (h2.2.2 v hv).trans (h1.2.2 v hv)⟩
theorem SL_gup {g : PG} {k : Nat} {v : Int32} (h6 : 6 ≠ k) (h10 : 10 ≠ k) (hb : ∀ b, b < nBr g → 15 + 7 * b ≠ k ∧ 15 + 7 * b + 6 ≠ k) (hl : ∀ j, j < nL g → 207 + 3 * j ≠ k) : SL g (gup g k v) := by
  have n6 : nBr (gup g k v) = nBr g := nBr_upd h6
  have n10 : nL (gup g k v) = nL g := nL_upd h10
  refine ⟨n6, fun b h => gup_ne (hb b h).2, fun x hx => ?_⟩
  unfold tot
  rw [n6, n10]
  congr 1
  · exact cnt_congr fun b h => by rw [gup_ne (hb b h).1]
  · exact cnt_congr fun j h => by rw [gup_ne (hl j h)]
theorem SL_str {g : PG} {b : Nat} {v : Int32} (w : WF g) (hb : b < nBr g) : SL g (strG g b v) := by
  have a2 := w.nb
  exact SL_gup (by omega) (by omega) (fun c hc => ⟨by omega, by omega⟩) (fun j hj => by omega)
theorem SL_exch {g : PG} {b : Nat} (w : WF g) (hb : b + 1 < nBr g) : SL g (exchG g b) := by
  have a2 := w.nb
  have u : ∀ j, j ≠ 15 + 7 * b → j ≠ 15 + 7 * (b + 1) → exchG g b j = g j := fun j h1 h2 => exchG_at h1 h2
  have ub : exchG g b (15 + 7 * b) = g (15 + 7 * (b + 1)) := by unfold exchG; rw [gup_ne (by omega), gup_eq]
  have ub1 : exchG g b (15 + 7 * (b + 1)) = g (15 + 7 * b) := by unfold exchG; rw [gup_eq]
  have n6 : nBr (exchG g b) = nBr g := by unfold nBr; rw [u _ (by omega) (by omega)]
  have n10 : nL (exchG g b) = nL g := by unfold nL; rw [u _ (by omega) (by omega)]
  refine ⟨n6, fun c hc => u _ (by omega) (by omega), fun x hx => ?_⟩
  unfold tot
  rw [n6, n10]
  congr 1
  · refine cnt_swap (b := b) hb ?_ ?_ ?_
    · rw [ub]
    · rw [ub1]
    · intro i h1 h2; rw [u _ (by omega) (by omega)]
  · exact cnt_congr fun j h => by rw [u _ (by omega) (by omega)]
theorem SL_drop {g : PG} {b : Nat} (w : WF g) (hb : b < nBr g) (hp : ¬ g (15 + 7 * b) ≤ n32 0) : SL g (dropG g b) := by
  have a2 := w.nb
  have a8 := w.lc
  have p3 := carried_pos w hb (ban_pos w hb hp).2
  obtain ⟨e1, e2⟩ := nL_dropG w hb
  have u : ∀ i, i ≠ 207 + 3 * nL g → i ≠ 207 + 3 * nL g + 1 → i ≠ 207 + 3 * nL g + 2 → i ≠ 10 → i ≠ 13 → i ≠ 15 + 7 * b → dropG g b i = g i := fun i h1 h2 h3 h4 h5 h6 => dropG_at g b h1 h2 h3 h4 h5 h6
  have n6 : nBr (dropG g b) = nBr g := by unfold nBr; rw [u _ (by omega) (by omega) (by omega) (by omega) (by omega) (by omega)]
  have eb : dropG g b (15 + 7 * b) = n32 0 := by unfold dropG; rw [gup_eq]
  have el : dropG g b (207 + 3 * nL g) = g (15 + 7 * b) := by
    unfold dropG; rw [gup_ne (by omega), gup_ne (by omega), gup_ne (by omega), gup_ne (by omega), gup_ne (by omega), gup_eq]
  refine ⟨n6, fun c hc => u _ (by omega) (by omega) (by omega) (by omega) (by omega) (by omega), fun x hx => ?_⟩
  unfold tot
  rw [n6, e2, cnt_succ, el]
  have c1 : cnt (nL g) (fun k => decide (dropG g b (207 + 3 * k) = x)) = cnt (nL g) (fun k => decide (g (207 + 3 * k) = x)) := cnt_congr fun j h => by rw [u _ (by omega) (by omega) (by omega) (by omega) (by omega) (by omega)]
  have c2 : cnt (nBr g) (fun c => decide (dropG g b (15 + 7 * c) = x)) = cnt (nBr g) (fun c => if c = b then decide (n32 0 = x) else decide (g (15 + 7 * c) = x)) := cnt_congr fun c hc => by
    by_cases e : c = b
    · subst e; rw [if_pos rfl, eb]
    · rw [if_neg e, u _ (by omega) (by omega) (by omega) (by omega) (by omega) (by omega)]
  have c3 := cnt_chg (n := nBr g) (b := b) (p := fun c => decide (g (15 + 7 * c) = x)) (q := fun c => if c = b then decide (n32 0 = x) else decide (g (15 + 7 * c) = x)) hb (fun i hi => if_neg hi)
  rw [c1, c2]
  have hd : (if (fun c => if c = b then decide (n32 0 = x) else decide (g (15 + 7 * c) = x)) b = true then 1 else 0) = 0 := by
    show (if (if b = b then decide (n32 0 = x) else decide (g (15 + 7 * b) = x)) = true then 1 else 0) = 0
    rw [if_pos rfl, decide_eq_false (fun e => hx e.symm)]; rfl
  rw [hd] at c3
  split
  · rename_i q
    rw [if_pos q] at c3; omega
  · rename_i q
    rw [if_neg q] at c3; omega
theorem cnt_rm {p : Nat → Bool} {j : Nat} : ∀ n, j < n → cnt (n - 1) (fun k => if k < j then p k else p (k + 1)) + (if p j = true then 1 else 0) = cnt n p := by
  intro n
  induction n with
  | zero => intro h; omega
  | succ n ih =>
    intro h
    rw [cnt_succ, Nat.add_sub_cancel]
    by_cases e : j = n
    · subst e
      have : cnt j (fun k => if k < j then p k else p (k + 1)) = cnt j p := cnt_congr fun i hi => if_pos hi
      rw [this]; split <;> omega
    · have ih := ih (by omega)
      obtain ⟨q, rfl⟩ : ∃ q, n = q + 1 := ⟨n - 1, by omega⟩
      rw [cnt_succ, if_neg (show ¬ q < j by omega)]
      rw [Nat.add_sub_cancel] at ih
      split <;> omega
theorem SL_pick {g : PG} {b j : Nat} (w : WF g) (hb : b < nBr g) (hp : g (15 + 7 * b) = n32 0) (hj : j < nL g) : SL g (pickG g b j) := by
  have a2 := w.nb
  have a9 := w.nl
  have e2 : nL (pickG g b j) = nL g - 1 := by
    have : ix (pickG g b j 10) = nL g - 1 := by rw [pickG_10 g (by omega), w.2.2.2.1.1, n32_sub (by omega), ix_n32 (by omega)]
    exact this
  have u : ∀ i, i ≠ 14 → i ≠ 10 → i ≠ 15 + 7 * b → i < 207 → pickG g b j i = g i := fun i h1 h2 h3 h4 => pickG_at g b j h1 h2 h3 (Or.inl (by omega))
  have n6 : nBr (pickG g b j) = nBr g := by unfold nBr; rw [u _ (by omega) (by omega) (by omega) (by omega)]
  have eb := pickG_b g (b := b) (j := j) (by omega)
  refine ⟨n6, fun c hc => u _ (by omega) (by omega) (by omega) (by omega), fun x hx => ?_⟩
  unfold tot
  rw [n6, e2]
  have c1 : cnt (nL g - 1) (fun k => decide (pickG g b j (207 + 3 * k) = x)) = cnt (nL g - 1) (fun k => if k < j then decide (g (207 + 3 * k) = x) else decide (g (207 + 3 * (k + 1)) = x)) := cnt_congr fun k h => by
    by_cases e : k < j
    · rw [if_pos e, pickG_at g b j (by omega) (by omega) (by omega) (Or.inl (by omega))]
    · rw [if_neg e, pickG_sh g (by omega) (by omega) (by omega), show 207 + 3 * k + 3 = 207 + 3 * (k + 1) by omega]
  have c2 : cnt (nBr g) (fun c => decide (pickG g b j (15 + 7 * c) = x)) = cnt (nBr g) (fun c => if c = b then decide (g (207 + 3 * j) = x) else decide (g (15 + 7 * c) = x)) := cnt_congr fun c hc => by
    by_cases e : c = b
    · subst e; rw [if_pos rfl, eb]
    · rw [if_neg e, u _ (by omega) (by omega) (by omega) (by omega)]
  have c3 := cnt_chg (n := nBr g) (b := b) (p := fun c => decide (g (15 + 7 * c) = x)) (q := fun c => if c = b then decide (g (207 + 3 * j) = x) else decide (g (15 + 7 * c) = x)) hb (fun i hi => if_neg hi)
  have c4 := cnt_rm (p := fun k => decide (g (207 + 3 * k) = x)) (j := j) (nL g) hj
  rw [c1, c2]
  have hd : (if (fun c => decide (g (15 + 7 * c) = x)) b = true then 1 else 0) = 0 := by
    show (if decide (g (15 + 7 * b) = x) = true then 1 else 0) = 0
    rw [hp, decide_eq_false (fun e => hx e.symm)]; rfl
  have he : (if (if b = b then decide (g (207 + 3 * j) = x) else decide (g (15 + 7 * b) = x)) = true then 1 else 0) = (if decide (g (207 + 3 * j) = x) = true then 1 else 0) := by
    rw [if_pos rfl]
  rw [hd] at c3
  omega
theorem SL_swaps {g : PG} {b : Nat} (w : WF g) (hb : b + 1 < nBr g) : SL g (swapsG g b) := by
  have a2 := w.nb
  have k1 : keeps g (exchG g b) := WF_exchG w hb
  have s1 := SL_exch w hb
  have k2 : keeps (exchG g b) (strG (exchG g b) b (-(n32 2))) := WF_strG k1.1 (by rw [k1.2.1]; omega)
  have s2 : SL (exchG g b) (strG (exchG g b) b (-(n32 2))) := SL_str k1.1 (by rw [k1.2.1]; omega)
  have k12 := k1.tr k2
  have s3 : SL (strG (exchG g b) b (-(n32 2))) (strG (strG (exchG g b) b (-(n32 2))) (b + 1) (-(n32 2))) := SL_str k2.1 (by rw [k12.2.1]; omega)
  exact ((s1.tr s2).tr s3).tr (SL_gup (by omega) (by omega) (fun c hc => ⟨by omega, by omega⟩) (fun j hj => by omega))
theorem SL_plan {g : PG} {k : Nat} (w : WF g) (hk : k < nPl g) : SL g (planG k g) := by
  have a2 := w.nb
  have a6 := w.np
  have hb := (w.pa hk).2
  unfold planG
  split
  · split
    · have kk := WF_swapsG w hb
      exact (SL_swaps w hb).tr (SL_gup (by omega) (by omega) (fun c hc => by rw [kk.2.1] at hc; exact ⟨by omega, by omega⟩) (fun j hj => by omega))
    · refine SL.tr (g2 := gup g 12 (g 12 + n32 1)) (SL_gup (by omega) (by omega) (fun c hc => ⟨by omega, by omega⟩) (fun j hj => by omega)) (SL_gup (by omega) (by omega) (fun c hc => ?_) (fun j hj => by omega))
      rw [nBr_upd (by omega)] at hc
      exact ⟨by omega, by omega⟩
  · exact SL.rf g
theorem SL_move {g : PG} {b : Nat} (w : WF g) (hb : b < nBr g) : SL g (moveG b g) := by
  have a2 := w.nb
  unfold moveG
  split
  · exact SL_str w hb
  · have k1 : keeps g (gup g (15 + 7 * b + 1) (goalG g b)) := WF_freeN w (Or.inr (Or.inl ⟨b, by omega, Or.inl rfl⟩))
    have s1 : SL g (gup g (15 + 7 * b + 1) (goalG g b)) := SL_gup (by omega) (by omega) (fun c hc => ⟨by omega, by omega⟩) (fun j hj => by omega)
    have s2 : SL (gup g (15 + 7 * b + 1) (goalG g b)) (strG (gup g (15 + 7 * b + 1) (goalG g b)) b (-(g (15 + 7 * b + 3)))) := SL_str k1.1 (by rw [k1.2.1]; exact hb)
    exact (s1.tr s2).tr (SL_gup (by omega) (by omega) (fun c hc => ⟨by omega, by omega⟩) (fun j hj => by omega))
theorem SL_weak {g : PG} {b : Nat} (w : WF g) (hb : b < nBr g) : SL g (weakG b g) := by
  unfold weakG
  split
  · rename_i c
    exact SL_drop w hb c.1
  · exact SL.rf g
theorem SL_lift {g : PG} {bf : Nat → Int32} {b : Nat} (w : WF g) (hb : b < nBr g) : SL g (liftG bf b g) := by
  have a2 := w.nb
  have a9 := w.nl
  unfold liftG
  split
  · exact SL.rf g
  · rename_i c0
    split
    · split
      · exact SL.rf g
      · rename_i c
        rcases lieG_rng g (bf b) (g (15 + 7 * b + 1)) (by omega) with e | ⟨j, hj, e⟩
        · exact absurd e c
        · rw [e, ix_n32 (by omega)]
          exact SL_pick w hb (ban_zero w hb c0) hj
    · exact SL.rf g
theorem SL_rd {g : PG} {s : Nat} (w : WF g) (hs : s < nSt g) : SL g (rdStep s g) := by
  have a2 := w.nb
  have a4 := w.ns
  unfold rdStep
  split
  · exact SL_gup (by omega) (by omega) (fun c hc => ⟨by omega, by omega⟩) (fun j hj => by omega)
  · exact SL.rf g
theorem SL_tk {g : PG} (w : WF g) : SL g (tkR g) := by
  have k0 : keeps g (gup g 9 (g 9 + n32 1)) := WF_freeN w (Or.inl (Or.inl rfl))
  have s0 : SL g (gup g 9 (g 9 + n32 1)) := SL_gup (by omega) (by omega) (fun c hc => ⟨by omega, by omega⟩) (fun j hj => by omega)
  unfold tkR tkG
  try dsimp only
  generalize gup g 9 (g 9 + n32 1) = g0 at k0 s0
  have k1 : keeps g0 (plansG g0) := WF_plansG k0.1
  have s1 : SL g0 (plansG g0) := (itr_inv (P := fun _ x => keeps g0 x ∧ SL g0 x) (f := planG) (a := g0) (n := nPl g0) ⟨keeps.rf k0.1, SL.rf g0⟩ (fun i x hi hx => by
    have hi' : i < nPl x := by rw [hx.1.2.2.2]; exact hi
    exact ⟨hx.1.tr (WF_planG hx.1.1 hi'), hx.2.tr (SL_plan hx.1.1 hi')⟩)).2
  generalize hbf : (fun b => plansG g0 (15 + 7 * b + 1)) = bf
  generalize plansG g0 = g1 at k1 s1
  have k2 : keeps g1 (movesG g1) := WF_movesG k1.1
  have s2 : SL g1 (movesG g1) := (itr_inv (P := fun _ x => keeps g1 x ∧ SL g1 x) (f := moveG) (a := g1) (n := nBr g1) ⟨keeps.rf k1.1, SL.rf g1⟩ (fun i x hi hx => by
    have hi' : i < nBr x := by rw [hx.1.2.1]; exact hi
    exact ⟨hx.1.tr (WF_moveG hx.1.1 hi'), hx.2.tr (SL_move hx.1.1 hi')⟩)).2
  generalize movesG g1 = g2 at k2 s2
  have k3 : keeps g2 (weaksG g2) := WF_weaksG k2.1
  have s3 : SL g2 (weaksG g2) := (itr_inv (P := fun _ x => keeps g2 x ∧ SL g2 x) (f := weakG) (a := g2) (n := nBr g2) ⟨keeps.rf k2.1, SL.rf g2⟩ (fun i x hi hx => by
    have hi' : i < nBr x := by rw [hx.1.2.1]; exact hi
    exact ⟨hx.1.tr (WF_weakG hx.1.1 hi'), hx.2.tr (SL_weak hx.1.1 hi')⟩)).2
  generalize weaksG g2 = g3 at k3 s3
  have k4 : keeps g3 (liftsG bf g3) := WF_liftsG k3.1
  have s4 : SL g3 (liftsG bf g3) := (itr_inv (P := fun _ x => keeps g3 x ∧ SL g3 x) (f := liftG bf) (a := g3) (n := nBr g3) ⟨keeps.rf k3.1, SL.rf g3⟩ (fun i x hi hx => by
    have hi' : i < nBr x := by rw [hx.1.2.1]; exact hi
    exact ⟨hx.1.tr (WF_liftG hx.1.1 hi'), hx.2.tr (SL_lift hx.1.1 hi')⟩)).2
  generalize liftsG bf g3 = g4 at k4 s4
  have s5 : SL g4 (rdsG g4) := (itr_inv (P := fun _ x => keeps g4 x ∧ SL g4 x) (f := rdStep) (a := g4) (n := nSt g4) ⟨keeps.rf k4.1, SL.rf g4⟩ (fun i x hi hx => by
    have hi' : i < nSt x := by rw [hx.1.2.2.1]; exact hi
    exact ⟨hx.1.tr (WF_rdStep hx.1.1 hi'), hx.2.tr (SL_rd hx.1.1 hi')⟩)).2
  exact ((((s0.tr s1).tr s2).tr s3).tr s4).tr s5
/-- no bearer is nearer to the one ahead of it than the space asks -/
def GAP (g : PG) : Prop := ∀ b, 1 ≤ b → b < nBr g → (g 0).toInt ≤ (g (15 + 7 * (b - 1) + 1)).toInt - (g (15 + 7 * b + 1)).toInt
theorem GAP_of {g g' : PG} (h : GAP g) (n : nBr g' = nBr g) (e0 : g' 0 = g 0) (e : ∀ b, b < nBr g → g' (15 + 7 * b + 1) = g (15 + 7 * b + 1)) : GAP g' := by
  intro b h1 h2
  rw [n] at h2
  rw [e0, e b h2, e (b - 1) (by omega)]
  exact h b h1 h2
theorem GAP_move {g : PG} {T i : Nat} (w : WF g) (hi : i < nBr g) (hT : T ≤ 10000) (hx : SIx2 g T i) (h : GAP g) : GAP (moveG i g) := by
  have a2 := w.nb
  have kk := WF_moveG w hi
  intro b h1 h2
  rw [kk.2.1] at h2
  rw [moveG_at (g := g) (b := i) (j := 0) (by omega)]
  have hb := h b h1 h2
  by_cases e : b = i
  · subst e
    rw [moveG_place (g := g) (b := b) (j := b - 1) (by omega)]
    unfold moveG
    split
    · rw [strG_at (by omega)]; exact hb
    · rename_i c
      rw [gup_ne (by omega), strG_at (by omega), gup_eq]
      have x1 := hx (b - 1) (by omega)
      rw [if_pos (by omega)] at x1
      obtain ⟨s, s1, s2, s3⟩ := w.2.2.2.2.1.1
      have e2 : (g (15 + 7 * (b - 1) + 1) - g 0).toInt = (g (15 + 7 * (b - 1) + 1)).toInt - (g 0).toInt := by
        rw [Int32.toInt_sub, s3, n32_toInt (by omega)]
        apply Int.bmod_eq_of_le <;> omega
      have g1 : goalG g b ≤ g (15 + 7 * (b - 1) + 1) - g 0 := by
        unfold goalG
        rw [if_neg (by omega)]
        unfold imin
        split
        · exact Int32.le_refl _
        · rename_i q; exact Int32.not_lt.mp q
      rw [Int32.le_iff_toInt_le, e2] at g1
      omega
  · by_cases e1 : b - 1 = i
    · subst e1
      rw [moveG_place (g := g) (b := b - 1) (j := b) (by omega)]
      unfold moveG
      split
      · rw [strG_at (by omega)]; exact hb
      · rename_i c
        rw [gup_ne (by omega), strG_at (by omega), gup_eq]
        rw [Int32.le_iff_toInt_le] at c
        omega
    · rw [moveG_place (fun q => e q.symm), moveG_place (fun q => e1 q.symm)]; exact hb
theorem planG_pl {g : PG} {k b : Nat} (w : WF g) (hk : k < nPl g) (hb : b < 12) : planG k g (15 + 7 * b + 1) = g (15 + 7 * b + 1) := by
  have a6 := w.np
  unfold planG
  split
  · split
    · unfold swapsG exchG
      rw [gup_ne (by omega), gup_ne (by omega), strG_at (by omega), strG_at (by omega), gup_ne (by omega), gup_ne (by omega)]
    · rw [gup_ne (by omega), gup_ne (by omega)]
  · rfl
theorem GAP_tk {g : PG} {T N : Nat} (si : SI g T N) (hT : T ≤ 9000) (h : GAP g) : GAP (tkR g) := by
  have w := si.w
  have a2 := w.nb
  have k0 : keeps g (gup g 9 (g 9 + n32 1)) := WF_freeN w (Or.inl (Or.inl rfl))
  have p0 : GAP (gup g 9 (g 9 + n32 1)) := GAP_of h k0.2.1 (gup_ne (by omega)) (fun b hb => gup_ne (by omega))
  have x0 : SIx2 (gup g 9 (g 9 + n32 1)) T 0 := fun b hb => by
    rw [k0.2.1] at hb
    rw [gup_ne (by omega), if_neg (by omega)]
    have := si.2.2.2.2.1 b hb
    omega
  unfold tkR tkG
  try dsimp only
  generalize gup g 9 (g 9 + n32 1) = g0 at k0 p0 x0
  have st1 := itr_inv (P := fun _ x => keeps g0 x ∧ GAP x ∧ SIx2 x T 0) (f := planG) (a := g0) (n := nPl g0) ⟨keeps.rf k0.1, p0, x0⟩ (fun i x hi hx => by
    have hi' : i < nPl x := by rw [hx.1.2.2.2]; exact hi
    have wx := hx.1.1
    have kk := WF_planG wx hi'
    have b2 := wx.nb
    have b6 := wx.np
    have ep : ∀ b, b < nBr x → planG i x (15 + 7 * b + 1) = x (15 + 7 * b + 1) := fun b hb => planG_pl wx hi' (by omega)
    refine ⟨hx.1.tr kk, GAP_of hx.2.1 kk.2.1 (planG_at wx hi' (by omega) (by omega) (by omega) (by omega)) ep, fun b hb => ?_⟩
    rw [kk.2.1] at hb
    rw [ep b hb]; exact hx.2.2 b hb)
  have k1 : keeps g0 (plansG g0) := st1.1
  have p1 : GAP (plansG g0) := st1.2.1
  have x1 : SIx2 (plansG g0) T 0 := st1.2.2
  clear st1
  generalize hbf : (fun b => plansG g0 (15 + 7 * b + 1)) = bf
  generalize plansG g0 = g1 at k1 p1 x1
  have st2 := itr_inv (P := fun i x => keeps g1 x ∧ GAP x ∧ SIx2 x T i) (f := moveG) (a := g1) (n := nBr g1) ⟨keeps.rf k1.1, p1, x1⟩ (fun i x hi hx => by
    have hi' : i < nBr x := by rw [hx.1.2.1]; exact hi
    exact ⟨hx.1.tr (WF_moveG hx.1.1 hi'), GAP_move hx.1.1 hi' (by omega) hx.2.2 hx.2.1, SIx_move hx.1.1 hi' (by omega) hx.2.2⟩)
  have k2 : keeps g1 (movesG g1) := st2.1
  have p2 : GAP (movesG g1) := st2.2.1
  clear st2
  generalize movesG g1 = g2 at k2 p2
  have st3 := itr_inv (P := fun _ x => keeps g2 x ∧ GAP x) (f := weakG) (a := g2) (n := nBr g2) ⟨keeps.rf k2.1, p2⟩ (fun i x hi hx => by
    have hi' : i < nBr x := by rw [hx.1.2.1]; exact hi
    have wx := hx.1.1
    have b2 := wx.nb
    have kk := WF_weakG wx hi'
    exact ⟨hx.1.tr kk, GAP_of hx.2 kk.2.1 (weakG_at wx hi' (by omega)) (fun b hb => weakG_pl wx hi' (by omega))⟩)
  have k3 : keeps g2 (weaksG g2) := st3.1
  have p3 : GAP (weaksG g2) := st3.2
  clear st3
  generalize weaksG g2 = g3 at k3 p3
  have st4 := itr_inv (P := fun _ x => keeps g3 x ∧ GAP x) (f := liftG bf) (a := g3) (n := nBr g3) ⟨keeps.rf k3.1, p3⟩ (fun i x hi hx => by
    have hi' : i < nBr x := by rw [hx.1.2.1]; exact hi
    have wx := hx.1.1
    have b2 := wx.nb
    have kk := WF_liftG (bf := bf) wx hi'
    exact ⟨hx.1.tr kk, GAP_of hx.2 kk.2.1 (liftG_at wx hi' (by omega)) (fun b hb => liftG_pl wx hi' (by omega))⟩)
  have k4 : keeps g3 (liftsG bf g3) := st4.1
  have p4 : GAP (liftsG bf g3) := st4.2
  clear st4
  generalize liftsG bf g3 = g4 at k4 p4
  exact (itr_inv (P := fun _ x => keeps g4 x ∧ GAP x) (f := rdStep) (a := g4) (n := nSt g4) ⟨keeps.rf k4.1, p4⟩ (fun i x hi hx => by
    have hi' : i < nSt x := by rw [hx.1.2.2.1]; exact hi
    have wx := hx.1.1
    have b2 := wx.nb
    have b4 := wx.ns
    have kk := WF_rdStep wx hi'
    have at' : ∀ j, j < 99 → rdStep i x j = x j := by
      intro j hj
      unfold rdStep
      split
      · rw [gup_ne (by omega)]
      · rfl
    exact ⟨hx.1.tr kk, GAP_of hx.2 kk.2.1 (at' _ (by omega)) (fun b hb => at' _ (by omega))⟩)).2
/-- what holds of every picture that the law comes to -/
def LW (g : PG) : Prop := GAP g ∧ (∀ v, ¬ v = n32 0 → cnt (nBr g) (fun b => decide (g (15 + 7 * b + 6) = v)) = tot g v) ∧ (2 ≤ nBr g ∧ nBr g ≤ 5) ∧ nSt g ≤ 2 ∧ nPl g ≤ 2
theorem LW_of {g g' : PG} (h : LW g) (s : SL g g') (n7 : nSt g' = nSt g) (n8 : nPl g' = nPl g) (p : GAP g') : LW g' := by
  obtain ⟨-, h2, h3, h4, h5⟩ := h
  refine ⟨p, fun v hv => ?_, by rw [s.1]; exact h3, by rw [n7]; exact h4, by rw [n8]; exact h5⟩
  rw [s.2.2 v hv, s.1, ← h2 v hv]
  exact cnt_congr fun b hb => by rw [s.2.1 b hb]
theorem LW_tkn {g : PG} {T N : Nat} (si : SI g T N) (hT : T ≤ 5000) (h : LW g) : ∀ n, n ≤ 3000 → LW (tkn g n) := by
  intro n
  induction n with
  | zero => intro _; exact h
  | succ n ih =>
    intro hn
    have hi := ih (by omega)
    have s := SI_tkn si hT n (by omega)
    have kk := WF_tkR s.w
    rw [tkn_succ]
    exact LW_of hi (SL_tk s.w) kk.2.2.1 kk.2.2.2 (GAP_tk s (by omega) hi.1)
theorem LW_drop {g : PG} {b : Nat} (w : WF g) (hb : b < nBr g) (hp : ¬ g (15 + 7 * b) ≤ n32 0) (h : LW g) : LW (dropG g b) := by
  have a2 := w.nb
  have a9 := w.nl
  have kk := WF_dropG w hb hp
  exact LW_of h (SL_drop w hb hp) kk.2.2.1 kk.2.2.2 (GAP_of h.1 kk.2.1 (dropG_at g b (by omega) (by omega) (by omega) (by omega) (by omega) (by omega)) (fun c hc => dropG_at g b (by omega) (by omega) (by omega) (by omega) (by omega) (by omega)))
theorem LW_pick {g : PG} {b j : Nat} (w : WF g) (hb : b < nBr g) (hp : g (15 + 7 * b) = n32 0) (hj : j < nL g) (h : LW g) : LW (pickG g b j) := by
  have a2 := w.nb
  have a9 := w.nl
  have kk := WF_pickG w hb hp hj
  exact LW_of h (SL_pick w hb hp hj) kk.2.2.1 kk.2.2.2 (GAP_of h.1 kk.2.1 (pickG_at g b j (by omega) (by omega) (by omega) (Or.inl (by omega))) (fun c hc => pickG_at g b j (by omega) (by omega) (by omega) (Or.inl (by omega))))
theorem LW_str {g : PG} {b : Nat} {v : Int32} (w : WF g) (hb : b < nBr g) (h : LW g) : LW (strG g b v) := by
  have a2 := w.nb
  have kk := WF_strG (v := v) w hb
  exact LW_of h (SL_str w hb) kk.2.2.1 kk.2.2.2 (GAP_of h.1 kk.2.1 (strG_at (by omega)) (fun c hc => strG_at (by omega)))
theorem gap_ok {g : PG} {b T N : Nat} (si : SI g T N) (hT : T ≤ 5000) (h : GAP g) (h1 : 1 ≤ b) (hb : b < nBr g) : ¬ bq g b 6 < g 0 := by
  show ¬ (if b = 0 then -(n32 1) else g (15 + 7 * (b - 1) + 1) - g (15 + 7 * b + 1)) < g 0
  rw [if_neg (by omega), Int32.lt_iff_toInt_lt]
  have x1 := si.2.2.2.2.1 b hb
  have x2 := si.2.2.2.2.1 (b - 1) (by omega)
  have x3 := h b h1 hb
  have e2 : (g (15 + 7 * (b - 1) + 1) - g (15 + 7 * b + 1)).toInt = (g (15 + 7 * (b - 1) + 1)).toInt - (g (15 + 7 * b + 1)).toInt := by
    rw [Int32.toInt_sub]
    apply Int.bmod_eq_of_le <;> omega
  rw [e2]
  omega
/-- a stand's letters are no more than its bytes -/
theorem tx_cnt (g : PG) (s : Nat) : ∀ i, (txG g s i).2.1 = cnt i (fun k => seesG g s (ordG g s k)) := by
  intro i
  induction i with
  | zero => rfl
  | succ i ih => rw [(txc g s i).1, cnt_succ, ih]
theorem cnt_first {p : Nat → Bool} : ∀ n, cnt (n + 1) p = (if p 0 = true then 1 else 0) + cnt n (fun k => p (k + 1)) := by
  intro n
  induction n with
  | zero => rw [cnt_succ]; show (if p 0 = true then 0 + 1 else 0) = _ + 0; split <;> rfl
  | succ n ih => rw [cnt_succ, ih, cnt_succ]; split <;> omega
theorem cnt_rev {p : Nat → Bool} : ∀ n, cnt n (fun k => p (n - 1 - k)) = cnt n p := by
  intro n
  induction n with
  | zero => rfl
  | succ n ih =>
    rw [cnt_first, cnt_succ]
    have e : cnt n (fun k => p (n + 1 - 1 - (k + 1))) = cnt n (fun k => p (n - 1 - k)) := cnt_congr fun k hk => by rw [show n + 1 - 1 - (k + 1) = n - 1 - k by omega]
    rw [e, ih, Nat.add_sub_cancel, Nat.sub_zero]
    split <;> omega
theorem tx_ge (g : PG) (s : Nat) : cnt (nBr g) (fun b => seesG g s b) ≤ (txA g s).1 := by
  have h1 := (txG_ok g s (nBr g) (Nat.le_refl _)).2.1
  have h2 := tx_cnt g s (nBr g)
  have h3 : cnt (nBr g) (fun k => seesG g s (ordG g s k)) = cnt (nBr g) (fun b => seesG g s b) := by
    unfold ordG
    split
    · rfl
    · exact cnt_rev (p := fun b => seesG g s b) (nBr g)
  unfold txA
  omega
/-- a bit of a set -/
theorem bit_all : ((List.range 32).all fun k => (List.range 5).all fun b => decide (((bset 12 (tbk k) >>> (n32 b &&& 31)) &&& n32 1) = if tbk k b = true then n32 1 else n32 0)) = true := by decide +kernel
theorem bit_of {n b : Nat} (p : Nat → Bool) (h : n ≤ 5) (hb : b < n) : ((bset n p >>> (n32 b &&& 31)) &&& n32 1) = if p b = true then n32 1 else n32 0 := by
  obtain ⟨k, hk, hi⟩ := mask_of p n
  have hk32 : k < 32 := by
    have : 2 ^ n ≤ 2 ^ 5 := Nat.pow_le_pow_right (by omega) h
    omega
  have e1 : bset 12 (tbk k) = bset n p := by
    have : 12 = n + (12 - n) := by omega
    rw [this, ← bset_ext p (12 - n)]
    exact bset_congr fun i _ => hi i
  have := of_decide_eq_true (List.all_eq_true.mp (List.all_eq_true.mp bit_all k (List.mem_range.mpr hk32)) b (List.mem_range.mpr (by omega)))
  rw [e1, hi b, decide_eq_true hb, Bool.true_and] at this
  exact this
/-- a share lies between 0 and 1, and is 1 just where the word is read -/
def shaChk (n d : Nat) : Bool := Nat.beq d 0 || Nat.blt d n || (decide (¬ Op.cmpValue (FP.fcmp (FP.fdiv (FP.i2f (n32 n)) (FP.i2f (n32 d))) FP.fconst0) .g < n32 0) && decide (¬ n32 0 < Op.cmpValue (FP.fcmp (FP.fdiv (FP.i2f (n32 n)) (FP.i2f (n32 d))) FP.fconst1) .l) && (decide (Op.cmpValue (FP.fcmp (FP.fdiv (FP.i2f (n32 n)) (FP.i2f (n32 d))) FP.fconst1) .l = n32 0) == Nat.beq n d))
theorem shaChk_all : ((List.range 9).all fun n => (List.range 25).all fun d => shaChk n d) = true := by decide +kernel
theorem nbeq_f {a b : Nat} (h : a ≠ b) : Nat.beq a b = false := by
  cases hq : Nat.beq a b with
  | true => exact absurd (Nat.eq_of_beq_eq_true hq) h
  | false => rfl
theorem sha_ok {g : PG} (w : WF g) {s : Nat} (hs : s < nSt g) : ¬ Op.cmpValue (FP.fcmp (shareG g s) FP.fconst0) .g < n32 0 ∧ ¬ n32 0 < Op.cmpValue (FP.fcmp (shareG g s) FP.fconst1) .l ∧ (Op.cmpValue (FP.fcmp (shareG g s) FP.fconst1) .l = n32 0 ↔ rdG g s = true) := by
  obtain ⟨l1, l2, l3⟩ := wl w hs
  have tl := tx_len w s
  have al := alm8 w hs
  have am : almG g s ≤ min (txA g s).1 (ix (g (99 + 12 * s + 2))) := cnt_le _ _
  have := List.all_eq_true.mp (List.all_eq_true.mp shaChk_all (almG g s) (List.mem_range.mpr (by omega))) (max (txA g s).1 (ix (g (99 + 12 * s + 2)))) (List.mem_range.mpr (by omega))
  unfold shaChk at this
  rw [Bool.or_eq_true, Bool.or_eq_true] at this
  rcases this with (h | h) | h
  · exact absurd (Nat.eq_of_beq_eq_true h) (by omega)
  · rw [Nat.blt_eq] at h; omega
  · rw [Bool.and_eq_true, Bool.and_eq_true] at h
    obtain ⟨⟨h1, h2⟩, h3⟩ := h
    refine ⟨of_decide_eq_true h1, of_decide_eq_true h2, ?_⟩
    have h3 := eq_of_beq h3
    have e : rdG g s = Nat.beq (almG g s) (max (txA g s).1 (ix (g (99 + 12 * s + 2)))) := by
      unfold rdG
      by_cases q : (txA g s).1 = ix (g (99 + 12 * s + 2))
      · rw [decide_eq_true q, Bool.true_and, ← q, Nat.max_self]
        by_cases q2 : almG g s = (txA g s).1
        · rw [decide_eq_true q2, q2]; exact (Nat.beq_refl _).symm
        · rw [decide_eq_false q2]; exact (nbeq_f q2).symm
      · rw [decide_eq_false q, Bool.false_and]
        refine (nbeq_f ?_).symm
        omega
    rw [e, ← h3]
    constructor
    · intro q; exact decide_eq_true q
    · intro q; exact of_decide_eq_true q
