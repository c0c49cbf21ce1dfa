/-! The coupling of component and reference between two calls. -/
def RA (m : XM) (a : Nat) (g : PG) : Prop := ∀ s, s < nSt g → m (a + 2) s = g (99 + 12 * s + 3)
/-- the j-th picture in an array of pictures -/
def slG (m : XM) (b j : Nat) : PG := fun i => m b (j * 243 + i)
/-- a State at a holds the picture g, which is sound; the Route holds its stands -/
def SS (m : XM) (a : Nat) (g : PG) (N : Nat) : Prop := RS m a g ∧ RA m a g ∧ RT m 69 g ∧ ∃ T, T ≤ 5000 ∧ SI g T (12 * T + N)
/-- a byte of the component's buffer and the reference's -/
def BY (x y : Int32) : Prop := ∃ n, n < 256 ∧ x = n32 n ∧ y = (n32 n).toInt8.toInt32
def CPL (m : XM) (N : Nat) : Prop :=
  (m 0 7 = m 283 6 ∧ (m 0 7 = n32 0 ∨ m 0 7 = n32 1)) ∧
  (m 0 7 = n32 1 → SS m 29 (m 284) N) ∧
  (∃ o k, m 74 0 = n32 o ∧ o < 8 ∧ m 74 1 = n32 k ∧ k ≤ 8 ∧ m 283 7 = n32 k ∧ (m 0 7 = n32 0 → k = 0) ∧ ∀ j, j < k → SS m (78 + 20 * ((o + j) % 8)) (slG m 286 j) N) ∧
  (∀ s, s < 2 → m 77 s = m 288 s ∧ (m 77 s = n32 0 ∨ (m 77 s = n32 1 ∧ m 0 7 = n32 1 ∧ SS m (238 + 20 * s) (slG m 287 s) N))) ∧
  (∃ f, f ≤ 700 ∧ m 2 1 = n32 f ∧ m 283 9 = n32 f ∧ ∀ i, i < f → BY (m 3 i) (m 289 i)) ∧
  (m 1 3 = m 283 10 ∧ m 1 4 = m 283 11) ∧
  (∃ p, p ≤ 120 ∧ m 281 0 = n32 p ∧ m 283 21 = n32 p ∧ ∀ i, i < p → m 282 i = m 292 i)
/-- the cells that the coupling speaks of -/
def REL (b k : Nat) : Prop := ¬ (49 ≤ b ∧ b < 69) ∧ ¬ (278 ≤ b ∧ b ≤ 280) ∧ b ≠ 285 ∧ b ≠ 290 ∧ b ≠ 291 ∧ ¬ (b = 283 ∧ (k = 0 ∨ k = 18 ∨ (12 ≤ k ∧ k ≤ 16))) ∧ ¬ (4 ≤ b ∧ b ≤ 28) ∧ ¬ (b = 2 ∧ 2 ≤ k)
theorem RS_eq {m m' : XM} {a : Nat} {g : PG} (h : RS m a g) (f : ∀ d k, d < 20 → d ≠ 2 → d ≠ 10 → m' (a + d) k = m (a + d) k) : RS m' a g := by
  intro d k i hl
  have hd := lvn_d hl
  rw [f d k hd.1 hd.2.1 hd.2.2]
  exact h d k i hl
theorem RT_eq {m m' : XM} {a : Nat} {g : PG} (h : RT m a g) (f : ∀ d k, d < 5 → m' (a + d) k = m (a + d) k) : RT m' a g := by
  obtain ⟨h1, h2⟩ := h
  refine ⟨by have := f 0 0 (by omega); rw [Nat.add_zero] at this; rw [this]; exact h1, fun s hs => ?_⟩
  obtain ⟨q1, q2, q3, q4⟩ := h2 s hs
  exact ⟨by rw [f 1 _ (by omega)]; exact q1, by rw [f 2 _ (by omega)]; exact q2, by rw [f 3 _ (by omega)]; exact q3, fun i hi => by rw [f 4 _ (by omega)]; exact q4 i hi⟩
theorem SI_le {g : PG} {T N N' : Nat} (h : SI g T N) (hN : N ≤ N') : SI g T N' := by
  obtain ⟨a, b, c, d, e, x, y, z⟩ := h
  exact ⟨a, b, c, d, e, x, y, by omega⟩
theorem SS_eq {m m' : XM} {a : Nat} {g g' : PG} {N N' : Nat} (h : SS m a g N) (hN : N ≤ N') (hg : g' = g) (f : ∀ d k, d < 20 → d ≠ 10 → m' (a + d) k = m (a + d) k) (f2 : ∀ d k, d < 5 → m' (69 + d) k = m (69 + d) k) : SS m' a g' N' := by
  subst hg
  obtain ⟨h1, h2, h3, T, h4, h5⟩ := h
  exact ⟨RS_eq h1 (fun d k a1 a2 a3 => f d k a1 a3), fun s hs => by rw [f 2 s (by omega) (by omega)]; exact h2 s hs, RT_eq h3 f2, T, h4, SI_le h5 (by omega)⟩
theorem CPL_fr {m m' : XM} {N N' : Nat} (h : CPL m N) (hN : N ≤ N') (f : ∀ b k, REL b k → m' b k = m b k) : CPL m' N' := by
  obtain ⟨⟨a1, a2⟩, a3, ⟨o, k, b1, b2, b3, b4, b5, b6, b7⟩, c1, ⟨l, d1, d2, d3, d4⟩, ⟨e1, e2⟩, p, p1, p2, p3, p4⟩ := h
  have f07 : m' 0 7 = m 0 7 := f _ _ (by unfold REL; omega)
  have fR : ∀ d k, d < 5 → m' (69 + d) k = m (69 + d) k := fun d k hd => f _ _ (by unfold REL; omega)
  have fS : ∀ a, (a = 29 ∨ (78 ≤ a ∧ a + 20 ≤ 278)) → ∀ d k, d < 20 → d ≠ 10 → m' (a + d) k = m (a + d) k := fun a ha d k hd _ => f _ _ (by unfold REL; omega)
  have fg : m' 284 = m 284 := funext fun k => f _ _ (by unfold REL; omega)
  have fu : ∀ b j, (b = 286 ∨ b = 287) → slG m' b j = slG m b j := fun b j hb => funext fun i => f _ _ (by unfold REL; omega)
  refine ⟨⟨?_, ?_⟩, ?_, ⟨o, k, ?_, b2, ?_, b4, ?_, ?_, ?_⟩, ?_, ⟨l, d1, ?_, ?_, ?_⟩, ⟨?_, ?_⟩, p, p1, ?_, ?_, ?_⟩
  · rw [f07, f 283 6 (by unfold REL; omega)]; exact a1
  · rw [f07]; exact a2
  · rw [f07]; intro h; exact SS_eq (a3 h) hN fg (fS 29 (Or.inl rfl)) fR
  · rw [f 74 0 (by unfold REL; omega)]; exact b1
  · rw [f 74 1 (by unfold REL; omega)]; exact b3
  · rw [f 283 7 (by unfold REL; omega)]; exact b5
  · rw [f07]; exact b6
  · intro j hj
    have : (o + j) % 8 < 8 := Nat.mod_lt _ (by omega)
    exact SS_eq (b7 j hj) hN (fu _ _ (Or.inl rfl)) (fS _ (Or.inr (by omega))) fR
  · intro s hs
    obtain ⟨q1, q2⟩ := c1 s hs
    rw [f 77 s (by unfold REL; omega), f 288 s (by unfold REL; omega), f07]
    refine ⟨q1, ?_⟩
    rcases q2 with q2 | ⟨q2, q3, q4⟩
    · exact Or.inl q2
    · exact Or.inr ⟨q2, q3, SS_eq q4 hN (fu _ _ (Or.inr rfl)) (fS _ (Or.inr (by omega))) fR⟩
  · rw [f 2 1 (by unfold REL; omega)]; exact d2
  · rw [f 283 9 (by unfold REL; omega)]; exact d3
  · intro i hi
    rw [f 3 i (by unfold REL; omega), f 289 i (by unfold REL; omega)]; exact d4 i hi
  · rw [f 1 3 (by unfold REL; omega), f 283 10 (by unfold REL; omega)]; exact e1
  · rw [f 1 4 (by unfold REL; omega), f 283 11 (by unfold REL; omega)]; exact e2
  · rw [f 281 0 (by unfold REL; omega)]; exact p2
  · rw [f 283 21 (by unfold REL; omega)]; exact p3
  · intro i hi
    rw [f 282 i (by unfold REL; omega), f 292 i (by unfold REL; omega)]; exact p4 i hi
/-- two memories that are coupled alike -/
def QF (m m' : XM) : Prop := ∀ b k, REL b k → m' b k = m b k
theorem QF.rf (m : XM) : QF m m := fun _ _ _ => rfl
theorem QF.tr {m1 m2 m3 : XM} (h1 : QF m1 m2) (h2 : QF m2 m3) : QF m1 m3 := fun b k h => (h2 b k h).trans (h1 b k h)
theorem QF_th (m : XM) (v : Int32) : QF m (um m 283 0 v) := fun b k h => by
  unfold um; rw [if_neg]; rintro ⟨rfl, rfl⟩; exact h.2.2.2.2.2.1 ⟨rfl, Or.inl rfl⟩
theorem QF_rfr {m m' : XM} {g g' : PG} (h : rfr m m') (hg : g' = g) : QF (smg m g) (smg m' g') := fun b k hr => by
  subst hg
  unfold smg
  by_cases e : b = 284
  · rw [if_pos e, if_pos e]
  · rw [if_neg e, if_neg e]
    refine h b k e hr.2.2.2.1 hr.2.2.2.2.1 ?_
    rintro ⟨rfl, rfl⟩
    exact hr.2.2.2.2.2.1 ⟨rfl, Or.inr (Or.inl rfl)⟩
theorem QF_fd {m m' : XM} (h : FD 278 m m') : QF m m' := fun b k hr => h b k (by unfold REL at hr; omega)
/-- component y and reference z answer alike, and stay coupled: whole numbers -/
def PRI (D y z : Nat) (ya za : List AV) (mp : Nat → Nat) (m : XM) (N : Nat) : Prop :=
  VI D y ya m (fun r m1 => VI D z za m1 (fun r2 m2 => (r = r2 ∧ m2 283 0 = n32 0) ∧ CPL m2 N) (fun _ _ => False)) (fun e m1 => VI D z za m1 (fun _ m2 => (m2 283 0 = n32 (mp e) ∧ 1 ≤ mp e ∧ mp e ≤ 3) ∧ CPL m2 N) (fun _ _ => False))
def PRF (D y z : Nat) (ya za : List AV) (mp : Nat → Nat) (m : XM) (N : Nat) : Prop :=
  VF D y ya m (fun r m1 => VF D z za m1 (fun r2 m2 => (r = r2 ∧ m2 283 0 = n32 0) ∧ CPL m2 N) (fun _ _ => False)) (fun e m1 => VF D z za m1 (fun _ m2 => (m2 283 0 = n32 (mp e) ∧ 1 ≤ mp e ∧ mp e ≤ 3) ∧ CPL m2 N) (fun _ _ => False))
def PRD (D y z : Nat) (ya za : List AV) (mp : Nat → Nat) (m : XM) (N : Nat) : Prop :=
  VD D y ya m (fun r m1 => VD D z za m1 (fun r2 m2 => (r = r2 ∧ m2 283 0 = n32 0) ∧ CPL m2 N) (fun _ _ => False)) (fun e m1 => VD D z za m1 (fun _ m2 => (m2 283 0 = n32 (mp e) ∧ 1 ≤ mp e ∧ mp e ≤ 3) ∧ CPL m2 N) (fun _ _ => False))
def PRJ (D y z : Nat) (ya za : List AV) (mp : Nat → Nat) (m : XM) (N : Nat) : Prop :=
  VJ D y ya m (fun r m1 => VJ D z za m1 (fun r2 m2 => (r = r2 ∧ m2 283 0 = n32 0) ∧ CPL m2 N) (fun _ _ => False)) (fun e m1 => VJ D z za m1 (fun _ m2 => (m2 283 0 = n32 (mp e) ∧ 1 ≤ mp e ∧ mp e ≤ 3) ∧ CPL m2 N) (fun _ _ => False))
/-- which exception is which number, by the order in which a method names them: state, place, argument -/
def mpSPA (e : Nat) : Nat := if e = 0 then 1 else if e = 2 then 2 else 3
def mpSA (e : Nat) : Nat := if e = 0 then 1 else 2
def mpPA (e : Nat) : Nat := if e = 2 then 1 else 2
/-- the reference's 'may' -/
def codeOf (v1 v2 v3 : Int32) : Nat := if v1 = n32 0 then 1 else if v2 = n32 0 then 2 else if v3 = n32 0 then 3 else 0
section MAY
variable {D : Nat} {m : XM} {E : Nat → XM → Prop} {Q : Int32 → XM → Prop}
theorem xrt_if {p : Prop} [Decidable p] : xrt 2 (if p then n32 1 else n32 0) = true := by
  split <;> decide
/-- 1 where a number lies between two others -/
def inI (v lo hi : Int32) : Int32 := if v < lo then n32 0 else if hi < v then n32 0 else n32 1
end MAY

