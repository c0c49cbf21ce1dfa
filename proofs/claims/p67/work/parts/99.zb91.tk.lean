/-! A remembered change once more, with the Reading free and words read; pairs: tick, pick, rest, setStep, addPlan, set. -/
theorem chg_ok2 {m m1 m2 m' mf : XM} {N N' o k : Nat} (h : CPL m N) (hl : m 0 7 = n32 1) (hN : N ≤ N') (ho : m 74 0 = n32 o) (o8 : o < 8) (hk : m 74 1 = n32 k) (k8 : k ≤ 8) (hold : ∀ j, j < k → SS m (78 + 20 * ((o + j) % 8)) (slG m 286 j) N)
    (c : CP 29 (78 + 20 * ((o + k) % 8)) m m1) (f2 : ∀ b j, (b < 29 ∨ 49 ≤ b) → ¬ (278 ≤ b ∧ b ≤ 280) → m2 b j = (if k < 8 then um m1 74 1 (n32 (k + 1)) else um m1 74 0 (n32 ((o + 1) % 8))) b j)
    (F : ∀ b j, b ≠ 286 → ¬ (b = 283 ∧ j = 7) → m' b j = um m2 283 0 (n32 0) b j) (h7 : m' 283 7 = n32 (if k < 8 then k + 1 else 8)) (hnew : ∀ i, i < 243 → m' 286 ((if k < 8 then k else 7) * 243 + i) = um m2 283 0 (n32 0) 284 i)
    (hkeep : ∀ j, j < (if k < 8 then k else 7) → ∀ i, i < 243 → m' 286 (j * 243 + i) = um m2 283 0 (n32 0) 286 ((if k < 8 then j else j + 1) * 243 + i))
    (fF : ∀ b j, b ≠ 284 → b ≠ 290 → b ≠ 291 → ¬ (b = 283 ∧ j = 18) → mf b j = m' b j) (hnow : SS mf 29 (mf 284) N') : mf 283 0 = n32 0 ∧ CPL mf N' := by
  have j8 : (o + k) % 8 < 8 := Nat.mod_lt _ (by omega)
  generalize hq : (o + k) % 8 = q at c j8
  have ei : ∀ b j, b ≠ 74 → (if k < 8 then um m1 74 1 (n32 (k + 1)) else um m1 74 0 (n32 ((o + 1) % 8))) b j = m1 b j := by
    intro b j hb
    split
    · exact um_a hb
    · exact um_a hb
  have ch : ∀ b j, ¬ (29 ≤ b ∧ b < 49) → b ≠ 74 → ¬ (b = 283 ∧ (j = 0 ∨ j = 7 ∨ j = 18)) → b ≠ 284 → b ≠ 286 → b ≠ 290 → b ≠ 291 → ¬ (278 ≤ b ∧ b ≤ 280) → mf b j = m1 b j := by
    intro b j a1 a2 a3 a4 a5 a6 a7 a8
    rw [fF b j a4 a6 a7 (by omega), F b j a5 (by omega)]
    have : um m2 283 0 (n32 0) b j = m2 b j := by unfold um; rw [if_neg (by omega)]
    rw [this, f2 b j (by omega) a8, ei b j a2]
  have chm : ∀ b j, ¬ (29 ≤ b ∧ b < 49) → ¬ (78 + 20 * q ≤ b ∧ b < 78 + 20 * q + 20) → b ≠ 74 → ¬ (b = 283 ∧ (j = 0 ∨ j = 7 ∨ j = 18)) → b ≠ 284 → b ≠ 286 → b ≠ 290 → b ≠ 291 → ¬ (278 ≤ b ∧ b ≤ 280) → mf b j = m b j := by
    intro b j a1 a0 a2 a3 a4 a5 a6 a7 a8
    rw [ch b j a1 a2 a3 a4 a5 a6 a7 a8]
    exact c.2 b j (by omega)
  obtain ⟨⟨a1, a2⟩, a3, -, c1, ⟨l, d1, d2, d3, d4⟩, ⟨e1, e2⟩, p, p1, p2, p3, p4⟩ := h
  have f07 : mf 0 7 = n32 1 := by rw [chm 0 7 (by omega) (by omega) (by omega) (by omega) (by omega) (by omega) (by omega) (by omega) (by omega)]; exact hl
  have fR : ∀ d j, d < 5 → mf (69 + d) j = m (69 + d) j := fun d j hd => chm _ _ (by omega) (by omega) (by omega) (by omega) (by omega) (by omega) (by omega) (by omega) (by omega)
  have e284 : ∀ i, um m2 283 0 (n32 0) 284 i = m 284 i := fun i => by
    rw [um_a (by omega), f2 284 i (by omega) (by omega), ei 284 i (by omega)]
    exact c.2 284 i (by omega)
  have e286 : ∀ i, um m2 283 0 (n32 0) 286 i = m 286 i := fun i => by
    rw [um_a (by omega), f2 286 i (by omega) (by omega), ei 286 i (by omega)]
    exact c.2 286 i (by omega)
  have m286 : ∀ i, mf 286 i = m' 286 i := fun i => fF 286 i (by omega) (by omega) (by omega) (by omega)
  have m74 : ∀ j, mf 74 j = (if k < 8 then um m1 74 1 (n32 (k + 1)) else um m1 74 0 (n32 ((o + 1) % 8))) 74 j := fun j => by
    rw [fF 74 j (by omega) (by omega) (by omega) (by omega), F 74 j (by omega) (by omega)]
    rw [um_a (by omega)]
    exact f2 74 j (by omega) (by omega)
  have mem : CPM mf N' := by
    refine rem_ok (a3 hl) hN o8 k8 hold f07 ?_ ?_ ?_ fR ?_ ?_ ?_
    · intro d j hd
      rw [hq]
      have hd20 : d < 20 := by rcases hd with hd | hd | hd | hd <;> omega
      rw [ch _ _ (by omega) (by omega) (by omega) (by omega) (by omega) (by omega) (by omega) (by omega)]
      exact c.1 d j hd
    · intro q' hq8 hne d j hd
      rw [hq] at hne
      exact chm _ _ (by omega) (by omega) (by omega) (by omega) (by omega) (by omega) (by omega) (by omega) (by omega)
    · split
      · rename_i hk8
        rw [m74 0, m74 1, if_pos hk8]
        refine ⟨?_, um_eq _ _ _ _⟩
        rw [um_k (by omega), c.2 74 0 (by omega)]; exact ho
      · rename_i hk8
        rw [m74 0, m74 1, if_neg hk8]
        refine ⟨um_eq _ _ _ _, ?_⟩
        rw [um_k (by omega), c.2 74 1 (by omega), hk]
        congr 1; omega
    · rw [fF 283 7 (by omega) (by omega) (by omega) (by omega)]; exact h7
    · intro i hi
      rw [m286, hnew i hi, e284]
    · intro j hj i hi
      rw [m286, hkeep j hj i hi, e286]
  refine ⟨?_, ⟨?_, Or.inr f07⟩, fun _ => hnow, mem, ?_, ⟨l, d1, ?_, ?_, ?_⟩, ⟨?_, ?_⟩, p, p1, ?_, ?_, ?_⟩
  · rw [fF 283 0 (by omega) (by omega) (by omega) (by omega), F 283 0 (by omega) (by omega), um_eq]
  · rw [f07, chm 283 6 (by omega) (by omega) (by omega) (by omega) (by omega) (by omega) (by omega) (by omega) (by omega), ← a1, hl]
  · intro s hs
    obtain ⟨q1, q2⟩ := c1 s hs
    rw [chm 77 s (by omega) (by omega) (by omega) (by omega) (by omega) (by omega) (by omega) (by omega) (by omega), chm 288 s (by omega) (by omega) (by omega) (by omega) (by omega) (by omega) (by omega) (by omega) (by omega), f07]
    refine ⟨q1, ?_⟩
    rcases q2 with q2 | ⟨q2, q3, q4⟩
    · exact Or.inl q2
    · refine Or.inr ⟨q2, rfl, SS_eq q4 hN ?_ ?_ fR⟩
      · exact funext fun i => chm _ _ (by omega) (by omega) (by omega) (by omega) (by omega) (by omega) (by omega) (by omega) (by omega)
      · intro d j hd _
        exact chm _ _ (by omega) (by omega) (by omega) (by omega) (by omega) (by omega) (by omega) (by omega) (by omega)
  · rw [chm 2 1 (by omega) (by omega) (by omega) (by omega) (by omega) (by omega) (by omega) (by omega) (by omega)]; exact d2
  · rw [chm 283 9 (by omega) (by omega) (by omega) (by omega) (by omega) (by omega) (by omega) (by omega) (by omega)]; exact d3
  · intro i hi
    rw [chm 3 i (by omega) (by omega) (by omega) (by omega) (by omega) (by omega) (by omega) (by omega) (by omega), chm 289 i (by omega) (by omega) (by omega) (by omega) (by omega) (by omega) (by omega) (by omega) (by omega)]; exact d4 i hi
  · rw [chm 1 3 (by omega) (by omega) (by omega) (by omega) (by omega) (by omega) (by omega) (by omega) (by omega), chm 283 10 (by omega) (by omega) (by omega) (by omega) (by omega) (by omega) (by omega) (by omega) (by omega)]; exact e1
  · rw [chm 1 4 (by omega) (by omega) (by omega) (by omega) (by omega) (by omega) (by omega) (by omega) (by omega), chm 283 11 (by omega) (by omega) (by omega) (by omega) (by omega) (by omega) (by omega) (by omega) (by omega)]; exact e2
  · rw [chm 281 0 (by omega) (by omega) (by omega) (by omega) (by omega) (by omega) (by omega) (by omega) (by omega)]; exact p2
  · rw [chm 283 21 (by omega) (by omega) (by omega) (by omega) (by omega) (by omega) (by omega) (by omega) (by omega)]; exact p3
  · intro i hi
    rw [chm 282 i (by omega) (by omega) (by omega) (by omega) (by omega) (by omega) (by omega) (by omega) (by omega), chm 292 i (by omega) (by omega) (by omega) (by omega) (by omega) (by omega) (by omega) (by omega) (by omega)]; exact p4 i hi
theorem chg_fin2 {m m1 mc m2 m' mf : XM} {g' : PG} {N N' T o k : Nat} (h : CPL m N) (hl : m 0 7 = n32 1) (hS : SS m 29 (m 284) N) (hN : N ≤ N') (ho : m 74 0 = n32 o) (o8 : o < 8) (hk : m 74 1 = n32 k) (k8 : k ≤ 8) (hold : ∀ j, j < k → SS m (78 + 20 * ((o + j) % 8)) (slG m 286 j) N)
    (c : CP 29 (78 + 20 * ((o + k) % 8)) m m1) (hmc : (if k < 8 then um m1 74 1 (n32 (k + 1)) else um m1 74 0 (n32 ((o + 1) % 8))) = mc) (f2 : ∀ b j, (b < 29 ∨ 49 ≤ b) → ¬ (278 ≤ b ∧ b ≤ 280) → m2 b j = mc b j) (r : RS m2 29 g') (ra : RA m2 29 g')
    (F : ∀ b j, b ≠ 286 → ¬ (b = 283 ∧ j = 7) → m' b j = um m2 283 0 (n32 0) b j) (h7 : m' 283 7 = n32 (if k < 8 then k + 1 else 8)) (hnew : ∀ i, i < 243 → m' 286 ((if k < 8 then k else 7) * 243 + i) = um m2 283 0 (n32 0) 284 i)
    (hkeep : ∀ j, j < (if k < 8 then k else 7) → ∀ i, i < 243 → m' 286 (j * 243 + i) = um m2 283 0 (n32 0) 286 ((if k < 8 then j else j + 1) * 243 + i))
    (fF : ∀ b j, b ≠ 284 → b ≠ 290 → b ≠ 291 → ¬ (b = 283 ∧ j = 18) → mf b j = m' b j) (hT : T ≤ 5000) (si : SI g' T (12 * T + N')) (st : ∀ j, 99 ≤ j → j < 171 → (∀ s, s < 6 → j ≠ 99 + 12 * s + 3) → g' j = m 284 j) (st7 : g' 7 = m 284 7) : smg mf g' 283 0 = n32 0 ∧ CPL (smg mf g') N' := by
  have j8 : (o + k) % 8 < 8 := Nat.mod_lt _ (by omega)
  have ei : ∀ x j, x ≠ 74 → mc x j = m1 x j := by
    intro x j hx
    rw [← hmc]
    split
    · exact um_a hx
    · exact um_a hx
  have back : ∀ x j, x ≠ 74 → ¬ (78 + 20 * ((o + k) % 8) ≤ x ∧ x < 78 + 20 * ((o + k) % 8) + 20) → mc x j = m x j := by
    intro x j hx hx2
    rw [ei x j hx]; exact c.2 x j (by omega)
  obtain ⟨r1, r2, r3, T0, hT0, si0⟩ := hS
  have w := si0.w
  have a4 := w.ns
  have nst : nSt g' = nSt (m 284) := by unfold nSt; rw [st7]
  have eS : smg mf g' 284 = g' := funext fun j => smg_at _ _ _
  have fm : ∀ x j, (29 ≤ x ∧ x < 49) → smg mf g' x j = m2 x j := by
    intro x j hx
    rw [smg_ne (by omega), fF x j (by omega) (by omega) (by omega) (by omega), F x j (by omega) (by omega), um_a (by omega)]
  have now : SS (smg mf g') 29 (smg mf g' 284) N' := by
    rw [eS]
    refine ⟨RS_eq r (fun d j hd _ _ => fm _ _ (by omega)), ?_, ?_, T, hT, si⟩
    · intro s hs
      rw [fm _ _ (by omega)]; exact ra s hs
    · have e69 : ∀ d j, d < 5 → smg mf g' (69 + d) j = m (69 + d) j := by
        intro d j hd
        rw [smg_ne (by omega), fF _ j (by omega) (by omega) (by omega) (by omega), F _ j (by omega) (by omega), um_a (by omega), f2 _ _ (by omega) (by omega)]
        exact back _ _ (by omega) (by omega)
      have rt := RT_eq r3 e69
      refine ⟨by rw [st7]; exact rt.1, fun s hs => ?_⟩
      rw [nst] at hs
      obtain ⟨q1, q2, q3, q4⟩ := rt.2 s hs
      obtain ⟨l1, l2, -⟩ := wl w hs
      rw [st _ (by omega) (by omega) (fun s' _ => by omega), st _ (by omega) (by omega) (fun s' _ => by omega), st _ (by omega) (by omega) (fun s' _ => by omega)]
      exact ⟨q1, q2, q3, fun i hi => by rw [st _ (by omega) (by omega) (fun s' _ => by omega)]; exact q4 i hi⟩
  exact chg_ok2 (m2 := m2) (m' := m') h hl hN ho o8 hk k8 hold c (by rw [hmc]; exact f2) F h7 hnew hkeep (fun x j a1 a2 a3 a4 => by rw [smg_ne a1]; exact fF x j a1 a2 a3 a4) now
theorem RT_of {m : XM} {a : Nat} {g g' : PG} (w : WF g) (rt : RT m a g) (st : ∀ j, 99 ≤ j → j < 171 → (∀ s, s < 6 → j ≠ 99 + 12 * s + 3) → g' j = g j) (st7 : g' 7 = g 7) : RT m a g' := by
  have a4 := w.ns
  have nst : nSt g' = nSt g := by unfold nSt; rw [st7]
  refine ⟨by rw [st7]; exact rt.1, fun s hs => ?_⟩
  rw [nst] at hs
  obtain ⟨q1, q2, q3, q4⟩ := rt.2 s hs
  obtain ⟨l1, l2, -⟩ := wl w hs
  rw [st _ (by omega) (by omega) (fun s' _ => by omega), st _ (by omega) (by omega) (fun s' _ => by omega), st _ (by omega) (by omega) (fun s' _ => by omega)]
  exact ⟨q1, q2, q3, fun i hi => by rw [st _ (by omega) (by omega) (fun s' _ => by omega)]; exact q4 i hi⟩
theorem tkG_st {g : PG} (w : WF g) {k : Nat} (hk : 99 ≤ k ∧ k < 171) : tkG g k = g k := by
  have k0 : keeps g (gup g 9 (g 9 + n32 1)) := WF_freeN w (Or.inl (Or.inl rfl))
  have e0 : gup g 9 (g 9 + n32 1) k = g k := gup_ne (by omega)
  unfold tkG
  try dsimp only
  generalize gup g 9 (g 9 + n32 1) = g0 at k0 e0
  have k1 : keeps g0 (plansG g0) := WF_plansG k0.1
  have e1 : plansG g0 k = g0 k := by
    have b := k0.1.np
    exact plans_at k0.1 _ (Nat.le_refl _) k (by omega) (by omega) (by omega) (fun j hj => by omega)
  generalize plansG g0 = g1 at k1 e1
  have k2 : keeps g1 (movesG g1) := WF_movesG k1.1
  have e2 : movesG g1 k = g1 k := moves_at (by omega) _ k1.1.nb
  generalize hbf : (fun b => g1 (15 + 7 * b + 1)) = bf
  generalize movesG g1 = g2 at k2 e2
  have k3 : keeps g2 (weaksG g2) := WF_weaksG k2.1
  have e3 : weaksG g2 k = g2 k := by
    have := itr_inv (P := fun _ x => keeps g2 x ∧ x k = g2 k) (f := weakG) (a := g2) (n := nBr g2) ⟨keeps.rf k2.1, rfl⟩ (fun i x hi hx => by
      have hi' : i < nBr x := by rw [hx.1.2.1]; exact hi
      exact ⟨hx.1.tr (WF_weakG hx.1.1 hi'), by rw [weakG_at hx.1.1 hi' (by omega)]; exact hx.2⟩)
    exact this.2
  generalize weaksG g2 = g3 at k3 e3
  have e4 : liftsG bf g3 k = g3 k := by
    have := itr_inv (P := fun _ x => keeps g3 x ∧ x k = g3 k) (f := liftG bf) (a := g3) (n := nBr g3) ⟨keeps.rf k3.1, rfl⟩ (fun i x hi hx => by
      have hi' : i < nBr x := by rw [hx.1.2.1]; exact hi
      exact ⟨hx.1.tr (WF_liftG hx.1.1 hi'), by rw [liftG_at hx.1.1 hi' (by omega)]; exact hx.2⟩)
    exact this.2
  rw [e4, e3, e2, e1, e0]
theorem tkG_7 {g : PG} (w : WF g) : tkG g 7 = g 7 := by
  have k := WF_tkG w
  rw [k.1.2.1.1, k.2.2.1, ← w.2.1.1]
theorem rd_st {g : PG} (w : WF g) {i : Nat} (hi : i ≤ nSt g) {k : Nat} (hk : ∀ s, s < 6 → k ≠ 99 + 12 * s + 3) : itr i rdStep g k = g k := by
  have a4 := w.ns
  induction i with
  | zero => rfl
  | succ i ih =>
    have e : itr (i + 1) rdStep g = rdStep i (itr i rdStep g) := rfl
    rw [e, ← ih (by omega)]
    unfold rdStep
    split
    · rw [gup_ne (hk i (by omega))]
    · rfl
section S91
variable {D : Nat} {m : XM} {g : PG} {E : Nat → XM → Prop}
/-- outside the State at 29 but for its words read, and the Reading -/
def FW (m m' : XM) : Prop := ∀ b k, b ≠ 31 → ¬ (278 ≤ b ∧ b ≤ 280) → m' b k = m b k
theorem FW.tr {m1 m2 m3 : XM} (h1 : FW m1 m2) (h2 : FW m2 m3) : FW m1 m3 := fun b k c1 c2 => (h2 b k c1 c2).trans (h1 b k c1 c2)
theorem RS_fw {m m' : XM} (f : FW m m') (r : RS m 29 g) : RS m' 29 g := RS_eq r (fun d k hd h2 _ => f _ _ (by omega) (by omega))
theorem s165 {Q : XM → Prop} (w : WF g) (r : RS m 29 g) (ra : RA m 29 g) (rt : RT m 69 g) (h : ∀ m', RS m' 29 (rdsG g) → RA m' 29 (rdsG g) → FW m m' → Q m') : VU (D + 4) 165 [vR 10 0] m Q E := by
  have a4 := w.ns
  have a2 := w.nb
  have a6 := w.np
  have a9 := w.nl
  unfold rdsG at h
  refine w165_0 (upm (C := fun i m' => VLU (D + 4) 165 1 [(0, vR 10 0), (1, vI (n32 i))] [] m' Q E) (Inv := fun i m' => RS m' 29 (itr i rdStep g) ∧ RA m' 29 (itr i rdStep g) ∧ FW m m') (n := nSt g) ?_ ?_ 0 m (Nat.zero_le _) ⟨r, ra, fun _ _ _ _ => rfl⟩)
  · intro i m1 hi hI ih
    obtain ⟨r1, ra1, f1⟩ := hI
    have kx : keeps g (itr i rdStep g) := keeps_itr w fun j x hj hx => WF_rdStep hx.1 (by rw [hx.2.2.1]; omega)
    have e1 : itr (i + 1) rdStep g = rdStep i (itr i rdStep g) := rfl
    have rt1 : RT m1 69 (itr i rdStep g) := RT_of w (RT_eq rt (fun d k hd => f1 _ _ (by omega) (by omega))) (fun j _ _ hj => rd_st w (by omega) hj) (by rw [kx.1.2.1.1, kx.2.2.1, ← w.2.1.1])
    rw [e1] at ih
    generalize itr i rdStep g = x at r1 ra1 kx rt1 ih
    have h7 : m1 69 0 = n32 (nSt g) := by rw [f1 _ _ (by omega) (by omega), rt.1]; exact w.2.1.1
    have hix : i < nSt x := by rw [kx.2.2.1]; exact hi
    refine w165_1 ?_
    simp (disch := omega) only [h7, le_f, xin_t, ix_n32, n32_add, false_implies, true_implies, not_false_eq_true, true_and]
    rw [ra1 i hix]
    refine ⟨fun c => ?_, fun c => ?_⟩
    · refine s161 kx.1 r1 rt1 hix ?_
      intro m2 hT2 fd
      have r2 : RS m2 29 x := RS_fd r1 fd (Or.inr (by omega))
      refine s39 kx.1 hT2 (RT_fd rt1 fd (Or.inr (by omega))) hix ?_
      have f2 : FW m m2 := f1.tr (fun b k _ c2 => fd b k (by omega))
      have ra2 : RA m2 29 x := fun s hs => by rw [fd _ _ (by omega)]; exact ra1 s hs
      by_cases hr : rdG x i = true
      · rw [if_pos hr]
        refine ⟨fun c => absurd c n01, fun _ => ?_⟩
        have e : rdStep i x = gup x (99 + 12 * i + 3) (x 9) := by unfold rdStep; rw [if_pos ⟨c, hr⟩]
        rw [e] at ih
        rw [r2.tm]
        refine ih _ ⟨?_, ?_, ?_⟩
        · have kf : keeps x (gup x (99 + 12 * i + 3) (x 9)) := WF_freeN kx.1 (Or.inr (Or.inr (Or.inr (Or.inr ⟨i, by omega, rfl⟩))))
          unfold RS
          rw [kf.2.1, kf.2.2.2, nL_upd (by omega)]
          exact RSn_um (RSn_ign r2 (by have := kx.1.nb; omega) (by have := kx.1.nl; have := kx.1.nb; omega) kx.1.np (Or.inr (Or.inl (by omega)))) (Or.inr (Or.inr (Or.inl (by omega))))
        · intro s hs
          rw [nSt_upd (by omega)] at hs
          by_cases es : s = i
          · subst es
            rw [um_eq, gup_eq]
          · rw [um_k es, gup_ne (by omega)]; exact ra2 s hs
        · exact f2.tr (fun b k c1 _ => um_a (by omega))
      · rw [if_neg hr]
        have e : rdStep i x = x := by unfold rdStep; rw [if_neg (fun h => hr h.2)]
        rw [e] at ih
        exact ⟨fun _ => ih m2 ⟨r2, ra2, f2⟩, fun c => absurd rfl c⟩
    · have e : rdStep i x = x := by unfold rdStep; rw [if_neg (fun h => c h.1)]
      rw [e] at ih
      exact ih m1 ⟨r1, ra1, f1⟩
  · intro m1 hI
    have h7 : m1 69 0 = n32 (nSt g) := by rw [hI.2.2 _ _ (by omega) (by omega), rt.1]; exact w.2.1.1
    refine w165_1 ?_
    rw [h7]
    exact ⟨fun _ => h m1 hI.1 hI.2.1 hI.2.2, fun c => absurd (n32_rfl _) c⟩
/-- what the component's ticks change -/
def FTK (m m' : XM) : Prop := ∀ b k, (b < 29 ∨ 49 ≤ b) → ¬ (278 ≤ b ∧ b ≤ 280) → m' b k = m b k
theorem FTK.tr {m1 m2 m3 : XM} (h1 : FTK m1 m2) (h2 : FTK m2 m3) : FTK m1 m3 := fun b k c1 c2 => (h2 b k c1 c2).trans (h1 b k c1 c2)
def rdN (g : PG) : Nat := cnt (nSt g) fun s => decide (¬ g (99 + 12 * s + 3) = -(n32 1))
theorem c142 {n T X : Nat} {v : Int32} {Q : Int32 → XM → Prop} (si : SI g T X) (hT : T ≤ 5000) (hn : n ≤ 100) (r : RS m 29 g) (ra : RA m 29 g) (rt : RT m 69 g) (h : ∀ m', RS m' 29 (tkn g n) → RA m' 29 (tkn g n) → FTK m m' → Q (n32 (rdN (tkn g n)) - v) m') : VLI (D + 5) 142 4 [(0, vR 10 0), (1, vI (n32 n)), (2, vI v), (3, vI (n32 0))] [] m Q E := by
  refine upm (C := fun i m' => VLI (D + 5) 142 4 [(0, vR 10 0), (1, vI (n32 n)), (2, vI v), (3, vI (n32 i))] [] m' Q E) (Inv := fun i m' => RS m' 29 (tkn g i) ∧ RA m' 29 (tkn g i) ∧ FTK m m') (n := n) ?_ ?_ 0 m (Nat.zero_le _) ⟨r, ra, fun _ _ _ _ => rfl⟩
  · intro i m1 hi hI ih
    obtain ⟨r1, ra1, f1⟩ := hI
    have kk := tkn_keeps si hT i (by omega)
    have s := SI_tkn si hT i (by omega)
    have rt1 : RT m1 69 (tkn g i) := RT_tkn si hT (by omega) (RT_eq rt (fun d k hd => f1 _ _ (by omega) (by omega)))
    refine w142_4 ⟨fun c => absurd ((n32_le (by omega) (by omega)).mp c) (by omega), fun _ => ?_⟩
    refine s70 kk.1 (s.po (by omega)) r1 ?_
    intro m2 r2 fm
    have k2 := WF_tkG kk.1
    have ra2 : RA m2 29 (tkG (tkn g i)) := fun q hq => by
      rw [k2.2.2.1] at hq
      have := kk.1.ns
      rw [fm _ _ (by omega), tkG_st kk.1 (by omega)]; exact ra1 q hq
    have rt2 : RT m2 69 (tkG (tkn g i)) := RT_of kk.1 (RT_eq rt1 (fun d k hd => fm _ _ (by omega))) (fun j j1 j2 _ => tkG_st kk.1 ⟨j1, j2⟩) (tkG_7 kk.1)
    refine s165 k2.1 r2 ra2 rt2 ?_
    intro m3 r3 ra3 fw
    have e : rdsG (tkG (tkn g i)) = tkn g (i + 1) := by rw [tkn_succ]; rfl
    rw [e] at r3 ra3
    rw [n32_add]
    exact ih m3 ⟨r3, ra3, f1.tr (fun b k c1 c2 => (fw b k (by omega) c2).trans (fm b k (by omega)))⟩
  · intro m1 hI
    obtain ⟨r1, ra1, f1⟩ := hI
    have kk := tkn_keeps si hT n (by omega)
    have rt1 : RT m1 69 (tkn g n) := RT_tkn si hT (by omega) (RT_eq rt (fun d k hd => f1 _ _ (by omega) (by omega)))
    have a4 := kk.1.ns
    refine w142_4 ⟨fun _ => ?_, fun c => absurd (n32_rfl _) c⟩
    refine s166 kk.1 ra1 rt1 ?_
    have hq := h m1 r1 ra1 f1
    have bb := (bits_bset (n := nSt (tkn g n)) (fun s => decide (¬ tkn g n (99 + 12 * s + 3) = -(n32 1))) (by omega)).1
    unfold rdN at hq
    rw [← bb] at hq
    exact hq

theorem SI_pick {T N b j : Nat} (h : SI g T N) (hb : b < nBr g) (hp : g (15 + 7 * b) = n32 0) (hj : j < nL g) : SI (pickG g b j) T N := by
  have a2 := h.w.nb
  have a6 := h.w.np
  exact SI_of h (WF_pickG h.w hb hp hj) (pickG_at g b j (by omega) (by omega) (by omega) (Or.inl (by omega))) (pickG_at g b j (by omega) (by omega) (by omega) (Or.inl (by omega))) (pickG_at g b j (by omega) (by omega) (by omega) (Or.inl (by omega))) (fun k hk => ⟨pickG_at g b j (by omega) (by omega) (by omega) (Or.inl (by omega)), pickG_at g b j (by omega) (by omega) (by omega) (Or.inl (by omega))⟩) (fun c hc => pickG_at g b j (by omega) (by omega) (by omega) (Or.inl (by omega)))
def restG (g : PG) (v : Int32) (n : Nat) : PG := itr n (fun b x => strG x b v) g
theorem restG_succ (g : PG) (v : Int32) (n : Nat) : restG g v (n + 1) = strG (restG g v n) n v := rfl
def restV (g : PG) (v : Int32) (b : Nat) : Int32 := imax (n32 0) (imin (n32 100) (g (15 + 7 * b + 4) + v))
theorem restG_str (g : PG) (v : Int32) (c : Nat) : ∀ n, restG g v n (15 + 7 * c + 4) = if c < n then restV g v c else g (15 + 7 * c + 4) := by
  intro n
  induction n with
  | zero => rw [if_neg (by omega)]; rfl
  | succ n ih =>
    rw [restG_succ]
    unfold strG
    by_cases e : c = n
    · subst e
      rw [gup_eq, ih, if_neg (by omega), if_pos (by omega)]; rfl
    · rw [gup_ne (by omega), ih]
      by_cases c1 : c < n
      · rw [if_pos c1, if_pos (by omega)]
      · rw [if_neg c1, if_neg (by omega)]
theorem restG_at (g : PG) (v : Int32) {j : Nat} (h : ∀ c, j ≠ 15 + 7 * c + 4) : ∀ n, restG g v n j = g j := by
  intro n
  induction n with
  | zero => rfl
  | succ n ih => rw [restG_succ, strG_at (h n), ih]
theorem SI_rest {T X : Nat} {v : Int32} (si : SI g T X) : ∀ n, n ≤ nBr g → SI (restG g v n) T X ∧ keeps g (restG g v n) := by
  intro n
  induction n with
  | zero => intro _; exact ⟨si, keeps.rf si.w⟩
  | succ n ih =>
    intro hn
    obtain ⟨h1, h2⟩ := ih (by omega)
    rw [restG_succ]
    exact ⟨SI_str h1 (by rw [h2.2.1]; omega), h2.tr (WF_strG h1.w (by rw [h2.2.1]; omega))⟩
end S91

