/-! The steps of a tick keep it. -/
section WS
variable {g : PG}
theorem WF.nb (h : WF g) : nBr g ≤ 12 := h.1.2
theorem WF.ns (h : WF g) : nSt g ≤ 6 := h.2.1.2
theorem WF.np (h : WF g) : nPl g ≤ 12 := h.2.2.1.2
theorem WF.nl (h : WF g) : nL g ≤ nBr g := by have := h.2.2.2.1.2; omega
theorem WF.lc (h : WF g) : nL g + carried g = nBr g := h.2.2.2.1.2
theorem WF.b0 (h : WF g) {b : Nat} (hb : b < nBr g) : inR (g (15 + 7 * b)) 0 26 := h.2.2.2.2.2.1 b hb
theorem WF.b2 (h : WF g) {b : Nat} (hb : b < nBr g) : inR (g (15 + 7 * b + 2)) 1 200 := h.2.2.2.2.2.2.1 b hb
theorem WF.b3 (h : WF g) {b : Nat} (hb : b < nBr g) : inR (g (15 + 7 * b + 3)) 0 20 := h.2.2.2.2.2.2.2.1 b hb
theorem WF.b4 (h : WF g) {b : Nat} (hb : b < nBr g) : inR (g (15 + 7 * b + 4)) 0 100 := h.2.2.2.2.2.2.2.2.1 b hb
theorem WF.b6 (h : WF g) {b : Nat} (hb : b < nBr g) : inR (g (15 + 7 * b + 6)) 1 26 := h.2.2.2.2.2.2.2.2.2.1 b hb
theorem WF.pa (h : WF g) {k : Nat} (hk : k < nPl g) : g (171 + 3 * k + 1) = n32 (aheadG g k) ∧ aheadG g k + 1 < nBr g := h.2.2.2.2.2.2.2.2.2.2.1 k hk
theorem WF.l0 (h : WF g) {k : Nat} (hk : k < nL g) : inR (g (207 + 3 * k)) 1 26 := h.2.2.2.2.2.2.2.2.2.2.2.1 k hk
theorem WF.st (h : WF g) {s : Nat} (hs : s < nSt g) : inR (g (99 + 12 * s)) 0 1 ∧ inR (g (99 + 12 * s + 2)) 1 8 ∧ ∀ i, i < ix (g (99 + 12 * s + 2)) → inR (g (99 + 12 * s + 4 + i)) 97 122 := h.2.2.2.2.2.2.2.2.2.2.2.2 s hs
theorem WF.st_b (h : WF g) {b : Nat} (hb : b < nBr g) : inR (g (15 + 7 * b + 2)) 0 200 := by
  obtain ⟨n, h1, h2, h3⟩ := h.b2 hb
  exact ⟨n, by omega, h2, h3⟩
def freeK (k : Nat) : Prop := (k = 9 ∨ 11 ≤ k ∧ k ≤ 14) ∨ (∃ b, b < 12 ∧ (k = 15 + 7 * b + 1 ∨ k = 15 + 7 * b + 5)) ∨ (∃ j, j < 12 ∧ (k = 171 + 3 * j ∨ k = 171 + 3 * j + 2)) ∨ (∃ j, j < 12 ∧ (k = 207 + 3 * j + 1 ∨ k = 207 + 3 * j + 2)) ∨ (∃ s, s < 6 ∧ k = 99 + 12 * s + 3)
theorem WF_free {k : Nat} {v : Int32} (h : WF g) (hk : freeK k) : WF (gup g k v) := by
  have a2 := h.nb
  have a4 := h.ns
  have a6 := h.np
  have a8 := h.nl
  have go : (∀ j, (j < 9 ∨ j = 10) → j ≠ k) → (∀ b w, b < 12 → (w = 0 ∨ w = 2 ∨ w = 3 ∨ w = 4 ∨ w = 6) → 15 + 7 * b + w ≠ k) → (∀ j, j < 12 → 171 + 3 * j + 1 ≠ k) → (∀ j, j < 12 → 207 + 3 * j ≠ k) → (∀ s i, s < 6 → i < 12 → i ≠ 3 → 99 + 12 * s + i ≠ k) → WF (gup g k v) := by
    intro g1 g2 g3 g4 g5
    have e10 : nL (gup g k v) = nL g := by unfold nL; rw [gup_ne (g1 10 (by omega))]
    have eb : ∀ b, b < nBr g → gup g k v (15 + 7 * b) = g (15 + 7 * b) := fun b hb => gup_ne (g2 b 0 (by omega) (by omega))
    have ec : carried (gup g k v) = carried g := by
      unfold carried
      have : nBr (gup g k v) = nBr g := by unfold nBr; rw [gup_ne (g1 6 (by omega))]
      rw [this]
      exact cnt_congr fun b hb => by rw [eb b hb]
    refine WF_of h (gup_ne (g1 6 (by omega))) (gup_ne (g1 7 (by omega))) (gup_ne (g1 8 (by omega))) ?_ ?_ (fun j hj => gup_ne (g1 j (by omega))) ?_ (fun b hb => gup_ne (g2 b 2 (by omega) (by omega))) (fun b hb => gup_ne (g2 b 3 (by omega) (by omega))) ?_ (fun b hb => gup_ne (g2 b 6 (by omega) (by omega))) (fun j hj => gup_ne (g3 j (by omega))) ?_ (fun s hs i hi h3 => gup_ne (g5 s i (by omega) hi h3))
    · rw [e10, gup_ne (g1 10 (by omega))]; exact h.2.2.2.1.1
    · rw [e10, ec]; exact h.lc
    · intro b hb; rw [eb b hb]; exact h.b0 hb
    · intro b hb; rw [gup_ne (g2 b 4 (by omega) (by omega))]; exact h.b4 hb
    · rw [e10]; intro j hj; rw [gup_ne (g4 j (by omega))]; exact h.l0 hj
  rcases hk with hk | ⟨b, hb, hk⟩ | ⟨j, hj, hk⟩ | ⟨j, hj, hk⟩ | ⟨s, hs, hk⟩
  all_goals exact go (fun j hj => by omega) (fun b w hb hw => by omega) (fun j hj => by omega) (fun j hj => by omega) (fun s i hs hi h3 => by omega)
theorem nBr_upd {k : Nat} {v : Int32} (h : 6 ≠ k) : nBr (gup g k v) = nBr g := by unfold nBr; rw [gup_ne h]
theorem nSt_upd {k : Nat} {v : Int32} (h : 7 ≠ k) : nSt (gup g k v) = nSt g := by unfold nSt; rw [gup_ne h]
theorem nPl_upd {k : Nat} {v : Int32} (h : 8 ≠ k) : nPl (gup g k v) = nPl g := by unfold nPl; rw [gup_ne h]
theorem nL_upd {k : Nat} {v : Int32} (h : 10 ≠ k) : nL (gup g k v) = nL g := by unfold nL; rw [gup_ne h]
theorem WF_strG {b : Nat} {v : Int32} (h : WF g) (hb : b < nBr g) : WF (strG g b v) ∧ nBr (strG g b v) = nBr g ∧ nSt (strG g b v) = nSt g ∧ nPl (strG g b v) = nPl g := by
  have a2 := h.nb
  have a4 := h.ns
  have a6 := h.np
  have a8 := h.nl
  have n1 : nBr (strG g b v) = nBr g := nBr_upd (by omega)
  have n2 : nL (strG g b v) = nL g := nL_upd (by omega)
  refine ⟨?_, n1, nSt_upd (by omega), nPl_upd (by omega)⟩
  have ec : carried (strG g b v) = carried g := by
    unfold carried
    rw [n1]
    exact cnt_congr fun c hc => by unfold strG; rw [gup_ne (by omega)]
  refine WF_of h (gup_ne (by omega)) (gup_ne (by omega)) (gup_ne (by omega)) ?_ (by rw [n2, ec]; exact h.lc) (fun j hj => gup_ne (by omega)) ?_ (fun c hc => gup_ne (by omega)) (fun c hc => gup_ne (by omega)) ?_ (fun c hc => gup_ne (by omega)) (fun j hj => gup_ne (by omega)) ?_ (fun s hs i hi h3 => gup_ne (by omega))
  · rw [n2]; unfold strG; rw [gup_ne (by omega)]; exact h.2.2.2.1.1
  · intro c hc; unfold strG; rw [gup_ne (by omega)]; exact h.b0 hc
  · intro c hc
    by_cases e : c = b
    · subst e; unfold strG; rw [gup_eq]; exact imin_imax_R _
    · unfold strG; rw [gup_ne (by omega)]; exact h.b4 hc
  · rw [n2]; intro j hj; unfold strG; rw [gup_ne (by omega)]; exact h.l0 hj
theorem WF_exchG {b : Nat} (h : WF g) (hb : b + 1 < nBr g) : WF (exchG g b) ∧ nBr (exchG g b) = nBr g ∧ nSt (exchG g b) = nSt g ∧ nPl (exchG g b) = nPl g := by
  have a2 := h.nb
  have a4 := h.ns
  have a6 := h.np
  have a8 := h.nl
  have u : ∀ j, j ≠ 15 + 7 * b → j ≠ 15 + 7 * (b + 1) → exchG g b j = g j := fun j h1 h2 => by unfold exchG; rw [gup_ne h2, gup_ne h1]
  have ub : exchG g b (15 + 7 * b) = g (15 + 7 * (b + 1)) := by unfold exchG; rw [gup_ne (by omega), gup_eq]
  have ub1 : exchG g b (15 + 7 * (b + 1)) = g (15 + 7 * b) := by unfold exchG; rw [gup_eq]
  have n1 : nBr (exchG g b) = nBr g := by unfold nBr; rw [u _ (by omega) (by omega)]
  have n2 : nL (exchG g b) = nL g := by unfold nL; rw [u _ (by omega) (by omega)]
  refine ⟨?_, n1, by unfold nSt; rw [u _ (by omega) (by omega)], by unfold nPl; rw [u _ (by omega) (by omega)]⟩
  have ec : carried (exchG g b) = carried g := by
    unfold carried
    rw [n1]
    refine cnt_swap (b := b) hb ?_ ?_ ?_
    · rw [ub]
    · rw [ub1]
    · intro i h1 h2; rw [u _ (by omega) (by omega)]
  refine WF_of h (u _ (by omega) (by omega)) (u _ (by omega) (by omega)) (u _ (by omega) (by omega)) ?_ (by rw [n2, ec]; exact h.lc) (fun j hj => u _ (by omega) (by omega)) ?_ (fun c hc => u _ (by omega) (by omega)) (fun c hc => u _ (by omega) (by omega)) ?_ (fun c hc => u _ (by omega) (by omega)) (fun j hj => u _ (by omega) (by omega)) ?_ (fun s hs i hi h3 => u _ (by omega) (by omega))
  · rw [n2, u _ (by omega) (by omega)]; exact h.2.2.2.1.1
  · intro c hc
    by_cases e : c = b
    · subst e; rw [ub]; exact h.b0 (by omega)
    · by_cases e1 : c = b + 1
      · subst e1; rw [ub1]; exact h.b0 (by omega)
      · rw [u _ (by omega) (by omega)]; exact h.b0 hc
  · intro c hc; rw [u _ (by omega) (by omega)]; exact h.b4 hc
  · rw [n2]; intro j hj; rw [u _ (by omega) (by omega)]; exact h.l0 hj
theorem WF_freeN {k : Nat} {v : Int32} (h : WF g) (hk : freeK k) : WF (gup g k v) ∧ nBr (gup g k v) = nBr g ∧ nSt (gup g k v) = nSt g ∧ nPl (gup g k v) = nPl g := by
  refine ⟨WF_free h hk, nBr_upd ?_, nSt_upd ?_, nPl_upd ?_⟩ <;> (rintro rfl; rcases hk with hk | ⟨b, hb, hk⟩ | ⟨j, hj, hk⟩ | ⟨j, hj, hk⟩ | ⟨s, hs, hk⟩ <;> omega)
def keeps (g g' : PG) : Prop := WF g' ∧ nBr g' = nBr g ∧ nSt g' = nSt g ∧ nPl g' = nPl g
theorem keeps.tr {g1 g2 g3 : PG} (h1 : keeps g1 g2) (h2 : keeps g2 g3) : keeps g1 g3 := ⟨h2.1, h2.2.1.trans h1.2.1, h2.2.2.1.trans h1.2.2.1, h2.2.2.2.trans h1.2.2.2⟩
theorem keeps.rf (h : WF g) : keeps g g := ⟨h, rfl, rfl, rfl⟩
theorem WF_swapsG {b : Nat} (h : WF g) (hb : b + 1 < nBr g) : keeps g (swapsG g b) := by
  have k1 : keeps g (exchG g b) := WF_exchG h hb
  have k2 : keeps g (strG (exchG g b) b (-(n32 2))) := k1.tr (WF_strG k1.1 (by rw [k1.2.1]; omega))
  have k3 : keeps g (strG (strG (exchG g b) b (-(n32 2))) (b + 1) (-(n32 2))) := k2.tr (WF_strG k2.1 (by rw [k2.2.1]; omega))
  exact k3.tr (WF_freeN k3.1 (Or.inl (by omega)))
theorem WF_planG {k : Nat} (h : WF g) (hk : k < nPl g) : keeps g (planG k g) := by
  have a6 := h.np
  unfold planG
  split
  · split
    · have k1 := WF_swapsG h (h.pa hk).2
      exact k1.tr (WF_freeN k1.1 (Or.inr (Or.inr (Or.inl ⟨k, by omega, Or.inr rfl⟩))))
    · have k1 : keeps g (gup g 12 (g 12 + n32 1)) := WF_freeN h (Or.inl (by omega))
      exact k1.tr (WF_freeN k1.1 (Or.inr (Or.inr (Or.inl ⟨k, by omega, Or.inr rfl⟩))))
  · exact keeps.rf h
theorem WF_moveG {b : Nat} (h : WF g) (hb : b < nBr g) : keeps g (moveG b g) := by
  have a2 := h.nb
  unfold moveG
  split
  · exact WF_strG h hb
  · have k1 : keeps g (gup g (15 + 7 * b + 1) (goalG g b)) := WF_freeN h (Or.inr (Or.inl ⟨b, by omega, Or.inl rfl⟩))
    have k2 : keeps g (strG (gup g (15 + 7 * b + 1) (goalG g b)) b (-(g (15 + 7 * b + 3)))) := k1.tr (WF_strG k1.1 (by rw [k1.2.1]; exact hb))
    exact k2.tr (WF_freeN k2.1 (Or.inr (Or.inl ⟨b, by omega, Or.inr rfl⟩)))
end WS
