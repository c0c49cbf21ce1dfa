/-! Pairs: setStep, addPlan, set. -/
section S92
variable {D : Nat} {m : XM} {g : PG} {E : Nat → XM → Prop}
theorem WF_step {b : Nat} {v : Int32} (h : WF g) (hb : b < nBr g) (hv : inR v 1 200) : keeps g (gup g (15 + 7 * b + 2) v) := by
  have a2 := h.nb
  have a4 := h.ns
  have a6 := h.np
  have a9 := h.nl
  have n6 : nBr (gup g (15 + 7 * b + 2) v) = nBr g := nBr_upd (by omega)
  have n7 : nSt (gup g (15 + 7 * b + 2) v) = nSt g := nSt_upd (by omega)
  have n8 : nPl (gup g (15 + 7 * b + 2) v) = nPl g := nPl_upd (by omega)
  have n10 : nL (gup g (15 + 7 * b + 2) v) = nL g := nL_upd (by omega)
  have e : ∀ i, i ≠ 15 + 7 * b + 2 → gup g (15 + 7 * b + 2) v i = g i := fun i hi => gup_ne hi
  have eb : gup g (15 + 7 * b + 2) v (15 + 7 * b + 2) = v := gup_eq _ _ _
  have ec : carried (gup g (15 + 7 * b + 2) v) = carried g := by
    unfold carried
    rw [n6]
    exact cnt_congr fun c hc => by rw [e _ (by omega)]
  obtain ⟨⟨b1, b2⟩, ⟨b3, b4⟩, ⟨b5, b6⟩, ⟨b7, b8⟩, ⟨c0, c1, c2, c3, c4, c5⟩, q0, q2, q3, q4, q6, qp, ql, qs⟩ := h
  refine ⟨⟨⟨?_, ?_⟩, ⟨?_, ?_⟩, ⟨?_, ?_⟩, ⟨?_, ?_⟩, ⟨?_, ?_, ?_, ?_, ?_, ?_⟩, ?_, ?_, ?_, ?_, ?_, ?_, ?_, ?_⟩, n6, n7, n8⟩
  · rw [n6, e _ (by omega)]; exact b1
  · rw [n6]; exact b2
  · rw [n7, e _ (by omega)]; exact b3
  · rw [n7]; exact b4
  · rw [n8, e _ (by omega)]; exact b5
  · rw [n8]; exact b6
  · rw [n10, e _ (by omega)]; exact b7
  · rw [n10, n6, ec]; exact b8
  · rw [e _ (by omega)]; exact c0
  · rw [e _ (by omega)]; exact c1
  · rw [e _ (by omega)]; exact c2
  · rw [e _ (by omega)]; exact c3
  · rw [e _ (by omega)]; exact c4
  · rw [e _ (by omega)]; exact c5
  · rw [n6]; intro c hc; rw [e _ (by omega)]; exact q0 c hc
  · rw [n6]; intro c hc
    by_cases ce : c = b
    · subst ce; rw [eb]; exact hv
    · rw [e _ (by omega)]; exact q2 c hc
  · rw [n6]; intro c hc; rw [e _ (by omega)]; exact q3 c hc
  · rw [n6]; intro c hc; rw [e _ (by omega)]; exact q4 c hc
  · rw [n6]; intro c hc; rw [e _ (by omega)]; exact q6 c hc
  · rw [n8, n6]; intro j hj
    have ea : aheadG (gup g (15 + 7 * b + 2) v) j = aheadG g j := by unfold aheadG; rw [e _ (by omega)]
    rw [ea, e _ (by omega)]; exact qp j hj
  · rw [n10]; intro j hj; rw [e _ (by omega)]; exact ql j hj
  · rw [n7]; intro s hs
    rw [e _ (by omega), e _ (by omega)]
    obtain ⟨x1, x2, x3⟩ := qs s hs
    refine ⟨x1, x2, fun i hi => ?_⟩
    rw [e _ (by omega)]; exact x3 i hi
theorem SI_step {b T N : Nat} {v : Int32} (h : SI g T N) (hb : b < nBr g) (hv : inR v 1 200) : SI (gup g (15 + 7 * b + 2) v) T N := by
  have a2 := h.w.nb
  have a6 := h.w.np
  exact SI_of h (WF_step h.w hb hv) (gup_ne (by omega)) (gup_ne (by omega)) (gup_ne (by omega)) (fun j hj => ⟨gup_ne (by omega), gup_ne (by omega)⟩) (fun c hc => gup_ne (by omega))
theorem lo_hi {k : Nat} (hk : k < 6) : c40 k = n32 (setLo k) ∧ c41 k = n32 (setHi k) := by
  match k, hk with
  | 0, _ => exact ⟨rfl, rfl⟩
  | 1, _ => exact ⟨rfl, rfl⟩
  | 2, _ => exact ⟨rfl, rfl⟩
  | 3, _ => exact ⟨rfl, rfl⟩
  | 4, _ => exact ⟨rfl, rfl⟩
  | 5, _ => exact ⟨rfl, rfl⟩
theorem hi_lt (k : Nat) : setLo k < 2147483648 ∧ setHi k < 2147483648 := by
  unfold setLo setHi
  constructor <;> split <;> omega
/-- one more plan -/
def plG (g : PG) (t b : Int32) : PG := gup (gup (gup (gup g (171 + 3 * nPl g) t) (171 + 3 * nPl g + 1) b) (171 + 3 * nPl g + 2) (n32 0)) 8 (n32 (nPl g + 1))
theorem plG_at {t b : Int32} {j : Nat} (h : j ≠ 8) (h1 : j < 171 + 3 * nPl g ∨ 171 + 3 * nPl g + 3 ≤ j) : plG g t b j = g j := by
  unfold plG
  rw [gup_ne h, gup_ne (by omega), gup_ne (by omega), gup_ne (by omega)]
theorem plG_0 {t b : Int32} : plG g t b (171 + 3 * nPl g) = t := by
  unfold plG
  rw [gup_ne (by omega), gup_ne (by omega), gup_ne (by omega), gup_eq]
theorem plG_1 {t b : Int32} : plG g t b (171 + 3 * nPl g + 1) = b := by
  unfold plG
  rw [gup_ne (by omega), gup_ne (by omega), gup_eq]
theorem plG_2 {t b : Int32} : plG g t b (171 + 3 * nPl g + 2) = n32 0 := by
  unfold plG
  rw [gup_ne (by omega), gup_eq]
theorem plG_8 {t b : Int32} (w : WF g) : plG g t b 8 = n32 (nPl g + 1) ∧ nPl (plG g t b) = nPl g + 1 := by
  have a6 := w.np
  have e : plG g t b 8 = n32 (nPl g + 1) := by unfold plG; rw [gup_eq]
  refine ⟨e, ?_⟩
  unfold nPl at *
  rw [e, ix_n32 (by omega)]
theorem WF_pl {b : Nat} {t : Int32} (h : WF g) (hb : b + 1 < nBr g) (h12 : nPl g < 12) : WF (plG g t (n32 b)) ∧ nBr (plG g t (n32 b)) = nBr g ∧ nSt (plG g t (n32 b)) = nSt g ∧ nL (plG g t (n32 b)) = nL g := by
  have a2 := h.nb
  have a4 := h.ns
  have a9 := h.nl
  obtain ⟨p1, p2⟩ := plG_8 (t := t) (b := n32 b) h
  have n6 : nBr (plG g t (n32 b)) = nBr g := by unfold nBr; rw [plG_at (by omega) (by omega)]
  have n7 : nSt (plG g t (n32 b)) = nSt g := by unfold nSt; rw [plG_at (by omega) (by omega)]
  have n10 : nL (plG g t (n32 b)) = nL g := by unfold nL; rw [plG_at (by omega) (by omega)]
  have e : ∀ i, i ≠ 8 → (i < 171 + 3 * nPl g ∨ 171 + 3 * nPl g + 3 ≤ i) → plG g t (n32 b) i = g i := fun i h1 h2 => plG_at h1 h2
  have ec : carried (plG g t (n32 b)) = carried g := by
    unfold carried
    rw [n6]
    exact cnt_congr fun c hc => by rw [e _ (by omega) (by omega)]
  have k1 : plG g t (n32 b) (171 + 3 * nPl g + 1) = n32 b := plG_1
  obtain ⟨⟨b1, b2⟩, ⟨b3, b4⟩, ⟨b5, b6⟩, ⟨b7, b8⟩, ⟨c0, c1, c2, c3, c4, c5⟩, q0, q2, q3, q4, q6, qp, ql, qs⟩ := h
  refine ⟨⟨⟨?_, ?_⟩, ⟨?_, ?_⟩, ⟨?_, ?_⟩, ⟨?_, ?_⟩, ⟨?_, ?_, ?_, ?_, ?_, ?_⟩, ?_, ?_, ?_, ?_, ?_, ?_, ?_, ?_⟩, n6, n7, n10⟩
  · rw [n6, e _ (by omega) (by omega)]; exact b1
  · rw [n6]; exact b2
  · rw [n7, e _ (by omega) (by omega)]; exact b3
  · rw [n7]; exact b4
  · rw [p2]; exact p1
  · rw [p2]; omega
  · rw [n10, e _ (by omega) (by omega)]; exact b7
  · rw [n10, n6, ec]; exact b8
  · rw [e _ (by omega) (by omega)]; exact c0
  · rw [e _ (by omega) (by omega)]; exact c1
  · rw [e _ (by omega) (by omega)]; exact c2
  · rw [e _ (by omega) (by omega)]; exact c3
  · rw [e _ (by omega) (by omega)]; exact c4
  · rw [e _ (by omega) (by omega)]; exact c5
  · rw [n6]; intro c hc; rw [e _ (by omega) (by omega)]; exact q0 c hc
  · rw [n6]; intro c hc; rw [e _ (by omega) (by omega)]; exact q2 c hc
  · rw [n6]; intro c hc; rw [e _ (by omega) (by omega)]; exact q3 c hc
  · rw [n6]; intro c hc; rw [e _ (by omega) (by omega)]; exact q4 c hc
  · rw [n6]; intro c hc; rw [e _ (by omega) (by omega)]; exact q6 c hc
  · rw [p2, n6]; intro j hj
    by_cases ej : j = nPl g
    · subst ej
      have ea : aheadG (plG g t (n32 b)) (nPl g) = b := by unfold aheadG; rw [k1, ix_n32 (by omega)]
      rw [ea, k1]
      exact ⟨rfl, hb⟩
    · have ea : aheadG (plG g t (n32 b)) j = aheadG g j := by unfold aheadG; rw [e _ (by omega) (by omega)]
      rw [ea, e _ (by omega) (by omega)]; exact qp j (by omega)
  · rw [n10]; intro j hj; rw [e _ (by omega) (by omega)]; exact ql j hj
  · rw [n7]; intro s hs
    obtain ⟨x1, x2, x3⟩ := qs s hs
    have hl : ∀ i, i < ix (g (99 + 12 * s + 2)) → i < 8 := by
      obtain ⟨n, y1, y2, y3⟩ := x2
      intro i hi
      rw [y3, ix_n32 (by omega)] at hi; omega
    rw [e _ (by omega) (by omega), e _ (by omega) (by omega)]
    refine ⟨x1, x2, fun i hi => ?_⟩
    have := hl i hi
    rw [e _ (by omega) (by omega)]; exact x3 i hi
theorem SI_pl {b t T N : Nat} (h : SI g T N) (hb : b + 1 < nBr g) (h12 : nPl g < 12) (t1 : 1 ≤ t) (t2 : t ≤ 5000) : SI (plG g (n32 t) (n32 b)) T N := by
  have a2 := h.w.nb
  have kk := WF_pl (t := n32 t) h.w hb h12
  obtain ⟨p1, p2⟩ := plG_8 (t := n32 t) (b := n32 b) h.w
  obtain ⟨w, i9, ip, im, ix', d, d1, d2⟩ := h
  refine ⟨kk.1, by rw [plG_at (by omega) (by omega)]; exact i9, ?_, ?_, ?_, d, by rw [plG_at (by omega) (by omega)]; exact d1, d2⟩
  · intro j hj
    rw [p2] at hj
    by_cases ej : j = nPl g
    · subst ej
      exact ⟨t, 0, plG_0, t1, t2, plG_2, by omega, fun e => absurd rfl e⟩
    · rw [plG_at (by omega) (by omega), plG_at (by omega) (by omega)]; exact ip j (by omega)
  · unfold SIm
    rw [plG_at (by omega) (by omega), p2, cnt_succ, plG_2, decide_eq_false (by decide), if_neg (by decide), im]
    congr 1
    exact cnt_congr fun j hj => by rw [plG_at (by omega) (by omega)]
  · intro c hc
    rw [kk.2.1] at hc
    rw [plG_at (by omega) (by omega)]; exact ix' c hc
theorem RS_pl {a : Nat} {t b : Int32} (w : WF g) (r : RS m a g) (hn : nPl g < 12) (kk : nBr (plG g t b) = nBr g ∧ nL (plG g t b) = nL g ∧ nPl (plG g t b) = nPl g + 1) : RS (um (um (um (um m (a + 17) (nPl g) t) (a + 18) (nPl g) b) (a + 19) (nPl g) (n32 0)) (a + 16) 0 (n32 (nPl g + 1))) a (plG g t b) := by
  have a2 := w.nb
  have a9 := w.nl
  have r1 := RSn_gup (d0 := 17) (k0 := nPl g) (v := t) r a2 (by omega) (by omega) (lv_pt hn)
  have r2 := RSn_gup (d0 := 18) (k0 := nPl g) (v := b) r1 a2 (by omega) (by omega) (lv_pa hn)
  have r3 := RSn_gup (d0 := 19) (k0 := nPl g) (v := n32 0) r2 a2 (by omega) (by omega) (lv_po hn)
  have r4 : RSn (um (um (um m (a + 17) (nPl g) t) (a + 18) (nPl g) b) (a + 19) (nPl g) (n32 0)) a (gup (gup (gup g (171 + 3 * nPl g) t) (171 + 3 * nPl g + 1) b) (171 + 3 * nPl g + 2) (n32 0)) (nBr g) (nL g) (nPl g + 1) := by
    intro d k i hl
    by_cases e : k = nPl g ∧ (d = 17 ∨ d = 18 ∨ d = 19)
    · obtain ⟨rfl, e⟩ := e
      have hl' := (lvn_fb (lvn_up hl a2 (by omega) (by omega))).1
      rcases e with rfl | rfl | rfl
      · have : i = 171 + 3 * nPl g := hl'.symm
        subst this
        rw [um_a (by omega), um_a (by omega), um_eq, gup_ne (by omega), gup_ne (by omega), gup_eq]
      · have : i = 171 + 3 * nPl g + 1 := hl'.symm
        subst this
        rw [um_a (by omega), um_eq, gup_ne (by omega), gup_eq]
      · have : i = 171 + 3 * nPl g + 2 := hl'.symm
        subst this
        rw [um_eq, gup_eq]
    · refine r3 d k i ?_
      rcases hl with hl | hl | hl | hl | hl | hl
      · exact Or.inl hl
      · exact Or.inr (Or.inl hl)
      · exact Or.inr (Or.inr (Or.inl hl))
      · exact Or.inr (Or.inr (Or.inr (Or.inl hl)))
      · exact Or.inr (Or.inr (Or.inr (Or.inr (Or.inl hl))))
      · exact Or.inr (Or.inr (Or.inr (Or.inr (Or.inr ⟨by omega, hl.2⟩))))
  have r5 := RSn_gup (d0 := 16) (k0 := 0) (v := n32 (nPl g + 1)) r4 a2 (by omega) (by omega) lv_np
  unfold RS
  rw [kk.1, kk.2.1, kk.2.2]
  exact r5
end S92

