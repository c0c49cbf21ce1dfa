/-! A remembered change, all but its own step; the pair swap. -/
theorem chg_fin {m m1 mc m2 m' mf : XM} {g' : PG} {N N' T o k : Nat} (h : CPL m N) (hl : m 0 7 = n32 1) (hS : SS m 29 (m 284) N) (hN : N ≤ N') (ho : m 74 0 = n32 o) (o8 : o < 8) (hk : m 74 1 = n32 k) (k8 : k ≤ 8) (hold : ∀ j, j < k → SS m (78 + 20 * ((o + j) % 8)) (slG m 286 j) N)
    (c : CP 29 (78 + 20 * ((o + k) % 8)) m m1) (hmc : (if k < 8 then um m1 74 1 (n32 (k + 1)) else um m1 74 0 (n32 ((o + 1) % 8))) = mc) (f2 : ∀ b j, (b < 29 ∨ 49 ≤ b) → m2 b j = mc b j) (f31 : ∀ j, m2 (29 + 2) j = mc (29 + 2) j) (r : RS m2 29 g')
    (F : ∀ b j, b ≠ 286 → ¬ (b = 283 ∧ j = 7) → m' b j = um m2 283 0 (n32 0) b j) (h7 : m' 283 7 = n32 (if k < 8 then k + 1 else 8)) (hnew : ∀ i, i < 243 → m' 286 ((if k < 8 then k else 7) * 243 + i) = um m2 283 0 (n32 0) 284 i)
    (hkeep : ∀ j, j < (if k < 8 then k else 7) → ∀ i, i < 243 → m' 286 (j * 243 + i) = um m2 283 0 (n32 0) 286 ((if k < 8 then j else j + 1) * 243 + i))
    (fF : ∀ b j, b ≠ 284 → b ≠ 290 → b ≠ 291 → ¬ (b = 283 ∧ j = 18) → mf b j = m' b j) (hT : T ≤ 5000) (si : SI g' T (12 * T + N')) (st : ∀ j, 99 ≤ j → j < 171 → g' j = m 284 j) (st7 : g' 7 = m 284 7) : smg mf g' 283 0 = n32 0 ∧ CPL (smg mf g') N' := by
  have j8 : (o + k) % 8 < 8 := Nat.mod_lt _ (by omega)
  have ei : ∀ x j, x ≠ 74 → mc x j = m1 x j := by
    intro x j hx
    rw [← hmc]
    split
    · exact um_a hx
    · exact um_a hx
  have back : ∀ x j, x ≠ 74 → ¬ (78 + 20 * ((o + k) % 8) ≤ x ∧ x < 78 + 20 * ((o + k) % 8) + 20) → mc x j = m x j := by
    intro x j hx hx2
    rw [ei x j hx]; exact c.2 x j (by omega)
  obtain ⟨r1, r2, r3, T0, hT0, si0⟩ := hS
  have w := si0.w
  have a4 := w.ns
  have nst : nSt g' = nSt (m 284) := by unfold nSt; rw [st7]
  have eS : smg mf g' 284 = g' := funext fun j => smg_at _ _ _
  have fm : ∀ x j, (29 ≤ x ∧ x < 49) → smg mf g' x j = m2 x j := by
    intro x j hx
    rw [smg_ne (by omega), fF x j (by omega) (by omega) (by omega) (by omega), F x j (by omega) (by omega), um_a (by omega)]
  have now : SS (smg mf g') 29 (smg mf g' 284) N' := by
    rw [eS]
    refine ⟨RS_eq r (fun d j hd _ _ => fm _ _ (by omega)), ?_, ?_, T, hT, si⟩
    · intro s hs
      rw [nst] at hs
      rw [fm _ _ (by omega), f31, back _ _ (by omega) (by omega), r2 s hs, st _ (by omega) (by omega)]
    · have e69 : ∀ d j, d < 5 → smg mf g' (69 + d) j = m (69 + d) j := by
        intro d j hd
        rw [smg_ne (by omega), fF _ j (by omega) (by omega) (by omega) (by omega), F _ j (by omega) (by omega), um_a (by omega), f2 _ _ (by omega)]
        exact back _ _ (by omega) (by omega)
      have rt := RT_eq r3 e69
      refine ⟨by rw [st7]; exact rt.1, fun s hs => ?_⟩
      rw [nst] at hs
      obtain ⟨q1, q2, q3, q4⟩ := rt.2 s hs
      obtain ⟨l1, l2, -⟩ := wl w hs
      rw [st _ (by omega) (by omega), st _ (by omega) (by omega), st _ (by omega) (by omega)]
      exact ⟨q1, q2, q3, fun i hi => by rw [st _ (by omega) (by omega)]; exact q4 i hi⟩
  exact chg_ok (m2 := m2) (m' := m') h hl hN ho o8 hk k8 hold c (by rw [hmc]; exact f2) F h7 hnew hkeep (fun x j a1 a2 a3 a4 => by rw [smg_ne a1]; exact fF x j a1 a2 a3 a4) now
theorem swapsG_pl {g : PG} {b c : Nat} : swapsG g b (15 + 7 * c + 1) = g (15 + 7 * c + 1) := by
  unfold swapsG exchG
  by_cases e : 15 + 7 * c + 1 = 11
  · omega
  · rw [gup_ne e, strG_at (by omega), strG_at (by omega), gup_ne (by omega), gup_ne (by omega)]
theorem SI_swaps {g : PG} {T N b : Nat} (h : SI g T N) (hb : b + 1 < nBr g) : SI (swapsG g b) T N := by
  have a2 := h.w.nb
  have a6 := h.w.np
  exact SI_of h (WF_swapsG h.w hb) (swapsG_at (by omega) (by omega) (by omega)) (swapsG_at (by omega) (by omega) (by omega)) (swapsG_at (by omega) (by omega) (by omega)) (fun k hk => ⟨swapsG_at (by omega) (by omega) (by omega), swapsG_at (by omega) (by omega) (by omega)⟩) (fun c hc => swapsG_pl)
theorem SI_drop {g : PG} {T N b : Nat} (h : SI g T N) (hb : b < nBr g) (hp : ¬ g (15 + 7 * b) ≤ n32 0) : SI (dropG g b) T (N + 1) := by
  have w := h.w
  have a2 := w.nb
  have a6 := w.np
  have kk := WF_dropG w hb hp
  have at' : ∀ j, j < 10 ∨ j = 11 ∨ j = 12 ∨ j = 14 ∨ (99 ≤ j ∧ j < 207) → dropG g b j = g j := fun j hj => dropG_at g b (by omega) (by omega) (by omega) (by omega) (by omega) (by omega)
  obtain ⟨w, i9, ip, im, ix', d, d1, d2⟩ := h
  refine ⟨kk.1, by rw [at' _ (by omega)]; exact i9, ?_, ?_, ?_, d + 1, ?_, by omega⟩
  · intro j hj
    rw [kk.2.2.2] at hj
    rw [at' _ (by omega), at' _ (by omega)]; exact ip j hj
  · unfold SIm
    rw [at' _ (by omega), kk.2.2.2, im]
    congr 1
    exact cnt_congr fun j hj => by rw [at' _ (by omega)]
  · intro c hc
    rw [kk.2.1] at hc
    rw [dropG_at g b (by omega) (by omega) (by omega) (by omega) (by omega) (by omega)]; exact ix' c hc
  · unfold dropG
    rw [gup_ne (by omega), gup_eq, d1, n32_add]
section SWP
variable {D : Nat} {m : XM} {E : Nat → XM → Prop}
/-- what the component puts by, for the step behind it -/
theorem rem_c {o k : Nat} {Q : XM → Prop} (ho : m 74 0 = n32 o) (hk : m 74 1 = n32 k) (o8 : o < 8) (k8 : k ≤ 8) (r1 : RS m 29 (m 284))
    (h : ∀ m1 mc, CP 29 (78 + 20 * ((o + k) % 8)) m m1 → (if k < 8 then um m1 74 1 (n32 (k + 1)) else um m1 74 0 (n32 ((o + 1) % 8))) = mc → RS mc 29 (m 284) → (∀ x j, x ≠ 74 → (x < 78 ∨ 238 ≤ x) → mc x j = m x j) → Q mc) : VU (D + 4) 13 [vR 2 74, vR 8 29] m Q E := by
  refine s13 ho hk o8 k8 ?_
  intro m1 cp
  have j8 : (o + k) % 8 < 8 := Nat.mod_lt _ (by omega)
  have ei : ∀ x j, x ≠ 74 → (if k < 8 then um m1 74 1 (n32 (k + 1)) else um m1 74 0 (n32 ((o + 1) % 8))) x j = m1 x j := by
    intro x j hx
    split
    · exact um_a hx
    · exact um_a hx
  have back : ∀ x j, x ≠ 74 → (x < 78 ∨ 238 ≤ x) → (if k < 8 then um m1 74 1 (n32 (k + 1)) else um m1 74 0 (n32 ((o + 1) % 8))) x j = m x j := by
    intro x j hx hx2
    rw [ei x j hx]; exact cp.2 x j (by omega)
  exact h m1 _ cp rfl (RS_eq r1 (fun d j hd _ _ => back _ _ (by omega) (by omega))) back
end SWP

