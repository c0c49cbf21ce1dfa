/-! Dropping and lifting keep it. -/
section WL
variable {g : PG}
theorem ban_pos (h : WF g) {b : Nat} (hb : b < nBr g) (hp : ¬ g (15 + 7 * b) ≤ n32 0) : inR (g (15 + 7 * b)) 1 26 ∧ ¬ g (15 + 7 * b) = n32 0 := by
  obtain ⟨n, h1, h2, h3⟩ := h.b0 hb
  have : n ≠ 0 := by rintro rfl; exact hp (by rw [h3]; exact n32_rfl 0)
  refine ⟨⟨n, by omega, h2, h3⟩, ?_⟩
  rw [h3]; intro e; exact this (n32_inj (by omega) (by omega) e)
theorem carried_pos (_h : WF g) {b : Nat} (hb : b < nBr g) (hp : ¬ g (15 + 7 * b) = n32 0) : 1 ≤ carried g := by
  have : 0 < carried g := cnt_pos.mpr ⟨b, hb, decide_eq_true hp⟩
  omega
theorem dropG_at (g : PG) (b : Nat) {i : Nat} (h1 : i ≠ 207 + 3 * nL g) (h2 : i ≠ 207 + 3 * nL g + 1) (h3 : i ≠ 207 + 3 * nL g + 2) (h4 : i ≠ 10) (h5 : i ≠ 13) (h6 : i ≠ 15 + 7 * b) : dropG g b i = g i := by
  unfold dropG; rw [gup_ne h6, gup_ne h5, gup_ne h4, gup_ne h3, gup_ne h2, gup_ne h1]
theorem nL_dropG (h : WF g) {b : Nat} (hb : b < nBr g) : dropG g b 10 = n32 (nL g + 1) ∧ nL (dropG g b) = nL g + 1 := by
  have a2 := h.nb
  have a8 := h.nl
  have e : dropG g b 10 = n32 (nL g + 1) := by
    unfold dropG
    rw [gup_ne (by omega), gup_ne (by omega), gup_eq, h.2.2.2.1.1, n32_add]
  exact ⟨e, by unfold nL at e ⊢; rw [e, ix_n32 (by unfold nL at a8; omega)]⟩
theorem WF_dropG {b : Nat} (h : WF g) (hb : b < nBr g) (hp : ¬ g (15 + 7 * b) ≤ n32 0) : keeps g (dropG g b) := by
  have a2 := h.nb
  have a4 := h.ns
  have a6 := h.np
  have a8 := h.lc
  obtain ⟨p1, p2⟩ := ban_pos h hb hp
  have p3 := carried_pos h hb p2
  obtain ⟨e1, e2⟩ := nL_dropG h hb
  have n1 : nBr (dropG g b) = nBr g := by unfold nBr; rw [dropG_at g b (by omega) (by omega) (by omega) (by omega) (by omega) (by omega)]
  have eb : dropG g b (15 + 7 * b) = n32 0 := by unfold dropG; rw [gup_eq]
  have ec : carried (dropG g b) + 1 = carried g := by
    unfold carried
    rw [n1]
    have e9 : cnt (nBr g) (fun c => decide (¬ dropG g b (15 + 7 * c) = n32 0)) = cnt (nBr g) (fun c => if c = b then false else decide (¬ g (15 + 7 * c) = n32 0)) := cnt_congr fun c hc => by
      by_cases e : c = b
      · subst e; rw [if_pos rfl, eb]; simp
      · rw [if_neg e, dropG_at g b (by omega) (by omega) (by omega) (by omega) (by omega) (by omega)]
    rw [e9]
    have := cnt_chg (n := nBr g) (b := b) (p := fun b => decide (¬ g (15 + 7 * b) = n32 0)) (q := fun c => if c = b then false else decide (¬ g (15 + 7 * c) = n32 0)) hb (fun i hi => if_neg hi)
    simp [p2] at this
    simpa using this
  refine ⟨?_, n1, ?_, ?_⟩
  · refine WF_of h (dropG_at g b (by omega) (by omega) (by omega) (by omega) (by omega) (by omega)) (dropG_at g b (by omega) (by omega) (by omega) (by omega) (by omega) (by omega)) (dropG_at g b (by omega) (by omega) (by omega) (by omega) (by omega) (by omega)) (by rw [e2]; exact e1) (by omega) (fun j hj => dropG_at g b (by omega) (by omega) (by omega) (by omega) (by omega) (by omega)) ?_ (fun c hc => dropG_at g b (by omega) (by omega) (by omega) (by omega) (by omega) (by omega)) (fun c hc => dropG_at g b (by omega) (by omega) (by omega) (by omega) (by omega) (by omega)) ?_ (fun c hc => dropG_at g b (by omega) (by omega) (by omega) (by omega) (by omega) (by omega)) (fun j hj => dropG_at g b (by omega) (by omega) (by omega) (by omega) (by omega) (by omega)) ?_ (fun s hs i hi h3 => dropG_at g b (by omega) (by omega) (by omega) (by omega) (by omega) (by omega))
    · intro c hc
      by_cases e : c = b
      · subst e; rw [eb]; exact ⟨0, by omega, by omega, rfl⟩
      · rw [dropG_at g b (by omega) (by omega) (by omega) (by omega) (by omega) (by omega)]; exact h.b0 hc
    · intro c hc; rw [dropG_at g b (by omega) (by omega) (by omega) (by omega) (by omega) (by omega)]; exact h.b4 hc
    · rw [e2]; intro j hj
      by_cases e : j = nL g
      · subst e
        have : dropG g b (207 + 3 * nL g) = g (15 + 7 * b) := by
          unfold dropG; rw [gup_ne (by omega), gup_ne (by omega), gup_ne (by omega), gup_ne (by omega), gup_ne (by omega), gup_eq]
        rw [this]; exact p1
      · rw [dropG_at g b (by omega) (by omega) (by omega) (by omega) (by omega) (by omega)]; exact h.l0 (by omega)
  · unfold nSt; rw [dropG_at g b (by omega) (by omega) (by omega) (by omega) (by omega) (by omega)]
  · unfold nPl; rw [dropG_at g b (by omega) (by omega) (by omega) (by omega) (by omega) (by omega)]
theorem WF_weakG {b : Nat} (h : WF g) (hb : b < nBr g) : keeps g (weakG b g) := by
  unfold weakG
  split
  · rename_i hc; exact WF_dropG h hb hc.1
  · exact keeps.rf h
theorem pickG_at (g : PG) (b j : Nat) {i : Nat} (h1 : i ≠ 14) (h2 : i ≠ 10) (h3 : i ≠ 15 + 7 * b) (h4 : i < 207 + 3 * j ∨ 207 + 3 * (nL g - 1) ≤ i) : pickG g b j i = g i := by
  unfold pickG shiftG
  try dsimp only
  rw [gup_ne h1, if_neg (by omega), gup_ne h2, gup_ne h3]
theorem pickG_sh (g : PG) {b j : Nat} {i : Nat} (hb : b < 12) (h4 : 207 + 3 * j ≤ i) (h5 : i < 207 + 3 * (nL g - 1)) : pickG g b j i = g (i + 3) := by
  unfold pickG shiftG
  try dsimp only
  rw [gup_ne (by omega), if_pos ⟨h4, h5⟩, gup_ne (by omega), gup_ne (by omega)]
theorem pickG_b (g : PG) {b j : Nat} (hb : b < 12) : pickG g b j (15 + 7 * b) = g (207 + 3 * j) := by
  unfold pickG shiftG
  try dsimp only
  rw [gup_ne (by omega), if_neg (by omega), gup_ne (by omega), gup_eq]
theorem pickG_10 (g : PG) {b j : Nat} (hb : b < 12) : pickG g b j 10 = g 10 - n32 1 := by
  unfold pickG shiftG
  try dsimp only
  rw [gup_ne (by omega), if_neg (by omega), gup_eq]
theorem WF_pickG {b j : Nat} (h : WF g) (hb : b < nBr g) (hp : g (15 + 7 * b) = n32 0) (hj : j < nL g) : keeps g (pickG g b j) := by
  have a2 := h.nb
  have a4 := h.ns
  have a6 := h.np
  have a8 := h.lc
  have a9 := h.nl
  have e1 : pickG g b j 10 = n32 (nL g - 1) := by rw [pickG_10 g (by omega), h.2.2.2.1.1, n32_sub (by omega)]
  have e2 : nL (pickG g b j) = nL g - 1 := by
    have : ix (pickG g b j 10) = nL g - 1 := by rw [e1, ix_n32 (by omega)]
    exact this
  have u : ∀ i, i ≠ 14 → i ≠ 10 → i ≠ 15 + 7 * b → i < 207 → pickG g b j i = g i := fun i h1 h2 h3 h4 => pickG_at g b j h1 h2 h3 (Or.inl (by omega))
  have n1 : nBr (pickG g b j) = nBr g := by unfold nBr; rw [u _ (by omega) (by omega) (by omega) (by omega)]
  have eb := pickG_b g (b := b) (j := j) (by omega)
  obtain ⟨q, q1, q2, q3⟩ := h.l0 hj
  have ne : ¬ pickG g b j (15 + 7 * b) = n32 0 := by
    rw [eb, q3]; intro e
    have := n32_inj (by omega) (by omega) e
    omega
  have ec : carried (pickG g b j) = carried g + 1 := by
    unfold carried
    rw [n1]
    have e9 : cnt (nBr g) (fun c => decide (¬ pickG g b j (15 + 7 * c) = n32 0)) = cnt (nBr g) (fun c => if c = b then true else decide (¬ g (15 + 7 * c) = n32 0)) := cnt_congr fun c hc => by
      by_cases e : c = b
      · subst e; rw [if_pos rfl]; exact decide_eq_true ne
      · rw [if_neg e, u _ (by omega) (by omega) (by omega) (by omega)]
    rw [e9]
    have := cnt_chg (n := nBr g) (b := b) (p := fun b => decide (¬ g (15 + 7 * b) = n32 0)) (q := fun c => if c = b then true else decide (¬ g (15 + 7 * c) = n32 0)) hb (fun i hi => if_neg hi)
    simp [hp] at this
    simpa using this
  refine ⟨?_, n1, ?_, ?_⟩
  · refine WF_of h (u _ (by omega) (by omega) (by omega) (by omega)) (u _ (by omega) (by omega) (by omega) (by omega)) (u _ (by omega) (by omega) (by omega) (by omega)) (by rw [e2]; exact e1) (by omega) (fun j hj => u _ (by omega) (by omega) (by omega) (by omega)) ?_ (fun c hc => u _ (by omega) (by omega) (by omega) (by omega)) (fun c hc => u _ (by omega) (by omega) (by omega) (by omega)) ?_ (fun c hc => u _ (by omega) (by omega) (by omega) (by omega)) (fun j hj => u _ (by omega) (by omega) (by omega) (by omega)) ?_ (fun s hs i hi h3 => u _ (by omega) (by omega) (by omega) (by omega))
    · intro c hc
      by_cases e : c = b
      · subst e; rw [eb]; exact ⟨q, by omega, q2, q3⟩
      · rw [u _ (by omega) (by omega) (by omega) (by omega)]; exact h.b0 hc
    · intro c hc; rw [u _ (by omega) (by omega) (by omega) (by omega)]; exact h.b4 hc
    · rw [e2]; intro k hk
      by_cases e : k < j
      · rw [pickG_at g b j (by omega) (by omega) (by omega) (Or.inl (by omega))]; exact h.l0 (by omega)
      · rw [pickG_sh g (by omega) (by omega) (by omega), show 207 + 3 * k + 3 = 207 + 3 * (k + 1) by omega]; exact h.l0 (by omega)
  · unfold nSt; rw [u _ (by omega) (by omega) (by omega) (by omega)]
  · unfold nPl; rw [u _ (by omega) (by omega) (by omega) (by omega)]
theorem lieG_rng (g : PG) (lo hi : Int32) (h : nL g < 2147483648) : lieG g lo hi = -(n32 1) ∨ ∃ j, j < nL g ∧ lieG g lo hi = n32 j := by
  rcases bst_rng (nL g) (fun k => decide (¬ g (207 + 3 * k + 1) < lo) && decide (¬ hi < g (207 + 3 * k + 1))) (fun k b => decide (¬ g (207 + 3 * k + 1) ≤ g (207 + 3 * b + 1))) h with h1 | ⟨k, h1, -, h2⟩
  · exact Or.inl h1
  · exact Or.inr ⟨k, h1, h2⟩
theorem ban_zero (h : WF g) {b : Nat} (hb : b < nBr g) (hp : ¬ n32 0 < g (15 + 7 * b)) : g (15 + 7 * b) = n32 0 := by
  obtain ⟨n, h1, h2, h3⟩ := h.b0 hb
  rw [h3] at hp ⊢
  by_cases e : n = 0
  · rw [e]
  · exact absurd ((n32_lt (by omega) (by omega)).mpr (by omega)) hp
theorem WF_liftG {bf : Nat → Int32} {b : Nat} (h : WF g) (hb : b < nBr g) : keeps g (liftG bf b g) := by
  have a2 := h.nb
  have a9 := h.nl
  unfold liftG
  split
  · exact keeps.rf h
  · rename_i hp
    split
    · split
      · exact keeps.rf h
      · rename_i h1 h2
        rcases lieG_rng g (bf b) (g (15 + 7 * b + 1)) (by omega) with h3 | ⟨j, h3, h4⟩
        · exact absurd h3 h2
        · rw [h4, ix_n32 (by omega)]
          exact WF_pickG h hb (ban_zero h hb hp) h3
    · exact keeps.rf h
theorem itr_inv {α : Type} {P : Nat → α → Prop} {f : Nat → α → α} {a : α} {n : Nat} (h0 : P 0 a) (h : ∀ i x, i < n → P i x → P (i + 1) (f i x)) : P n (itr n f a) := by
  induction n with
  | zero => exact h0
  | succ n ih => exact h n _ (by omega) (ih fun i x hi hx => h i x (by omega) hx)
theorem keeps_itr {f : Nat → PG → PG} {n : Nat} (hg : WF g) (h : ∀ i x, i < n → keeps g x → keeps x (f i x)) : keeps g (itr n f g) :=
  itr_inv (P := fun _ x => keeps g x) (keeps.rf hg) (fun i x hi hx => hx.tr (h i x hi hx))
theorem WF_plansG (h : WF g) : keeps g (plansG g) := keeps_itr h fun i x hi hx => WF_planG hx.1 (by rw [hx.2.2.2]; exact hi)
theorem WF_movesG (h : WF g) : keeps g (movesG g) := keeps_itr h fun i x hi hx => WF_moveG hx.1 (by rw [hx.2.1]; exact hi)
theorem WF_weaksG (h : WF g) : keeps g (weaksG g) := keeps_itr h fun i x hi hx => WF_weakG hx.1 (by rw [hx.2.1]; exact hi)
theorem WF_liftsG {bf : Nat → Int32} (h : WF g) : keeps g (liftsG bf g) := keeps_itr h fun i x hi hx => WF_liftG hx.1 (by rw [hx.2.1]; exact hi)
theorem WF_tkG (h : WF g) : keeps g (tkG g) := by
  have k0 : keeps g (gup g 9 (g 9 + n32 1)) := WF_freeN h (Or.inl (Or.inl rfl))
  have k1 := k0.tr (WF_plansG k0.1)
  have k2 := k1.tr (WF_movesG k1.1)
  have k3 := k2.tr (WF_weaksG k2.1)
  exact k3.tr (WF_liftsG k3.1)
end WL
