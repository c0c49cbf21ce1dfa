/-! The class's calls, each alone: what they answer of the picture, and what they leave. -/
/-- a State at a holds the picture g, which is sound, its time at most B -/
def Sx (m : XM) (a : Nat) (g : PG) (B : Nat) : Prop := RS m a g ∧ RA m a g ∧ RT m 69 g ∧ ∃ T X, T ≤ B ∧ SI g T X
/-- the class, loaded: it shows g; u is what undo would bring back, z what the slot sl holds -/
def CLS (m : XM) (g : PG) (u : Option PG) (sl : Nat) (z : Option PG) (B : Nat) : Prop :=
  m 0 7 = n32 1 ∧ Sx m 29 g B ∧ (∃ o k, m 74 0 = n32 o ∧ o < 8 ∧ m 74 1 = n32 k ∧ k ≤ 8 ∧ ∀ x, u = some x → 1 ≤ k ∧ Sx m (78 + 20 * ((o + (k - 1)) % 8)) x B) ∧ (∀ x, z = some x → sl < 2 ∧ m 77 sl = n32 1 ∧ Sx m (238 + 20 * sl) x B)
/-- the cells that it speaks of -/
def CRL (b : Nat) : Prop := ¬ (49 ≤ b ∧ b < 69) ∧ b < 278
theorem Sx_eq {m m' : XM} {a : Nat} {g : PG} {B B' : Nat} (h : Sx m a g B) (hB : B ≤ B') (f : ∀ d k, d < 20 → d ≠ 10 → m' (a + d) k = m (a + d) k) (f2 : ∀ d k, d < 5 → m' (69 + d) k = m (69 + d) k) : Sx m' a g B' := by
  obtain ⟨h1, h2, h3, T, X, h4, h5⟩ := h
  exact ⟨RS_eq h1 (fun d k a1 a2 a3 => f d k a1 a3), fun s hs => by rw [f 2 s (by omega) (by omega)]; exact h2 s hs, RT_eq h3 f2, T, X, by omega, h5⟩
/-- a State that was copied to another place -/
theorem Sx_to {m mf : XM} {a b B B' : Nat} {g : PG} (h : Sx m a g B) (hB : B ≤ B') (hc : ∀ d j, cpv d j → mf (b + d) j = m (a + d) j) (hrt : ∀ d j, d < 5 → mf (69 + d) j = m (69 + d) j) : Sx mf b g B' := by
  obtain ⟨r1, r2, r3, T, X, hT, si⟩ := h
  have w := si.w
  have a2 := w.nb
  have a4 := w.ns
  have a6 := w.np
  have a9 := w.nl
  refine ⟨?_, ?_, RT_eq r3 hrt, T, X, by omega, si⟩
  · intro d j i hd
    rw [hc d j (lvn_cpv (lvn_up hd a2 (by omega) a6))]
    exact r1 d j i hd
  · intro s hs
    rw [hc 2 s (Or.inr (Or.inl ⟨Or.inr rfl, by omega⟩))]
    exact r2 s hs
theorem CLS_fr {m m' : XM} {g : PG} {u z : Option PG} {sl B B' : Nat} (h : CLS m g u sl z B) (hB : B ≤ B') (f : ∀ b k, CRL b → m' b k = m b k) : CLS m' g u sl z B' := by
  obtain ⟨h0, h1, ⟨o, k, b1, b2, b3, b4, b5⟩, c1⟩ := h
  have fR : ∀ d k, d < 5 → m' (69 + d) k = m (69 + d) k := fun d k hd => f _ _ (by unfold CRL; omega)
  have fS : ∀ a, (a = 29 ∨ (78 ≤ a ∧ a + 20 ≤ 278)) → ∀ d k, d < 20 → d ≠ 10 → m' (a + d) k = m (a + d) k := fun a ha d k hd _ => f _ _ (by unfold CRL; omega)
  refine ⟨by rw [f 0 7 (by unfold CRL; omega)]; exact h0, Sx_eq h1 hB (fS 29 (Or.inl rfl)) fR, ⟨o, k, by rw [f 74 0 (by unfold CRL; omega)]; exact b1, b2, by rw [f 74 1 (by unfold CRL; omega)]; exact b3, b4, fun x hx => ?_⟩, fun x hx => ?_⟩
  · obtain ⟨y1, y2⟩ := b5 x hx
    have : (o + (k - 1)) % 8 < 8 := Nat.mod_lt _ (by omega)
    exact ⟨y1, Sx_eq y2 hB (fS _ (Or.inr (by omega))) fR⟩
  · obtain ⟨y1, y2, y3⟩ := c1 x hx
    exact ⟨y1, by rw [f 77 sl (by unfold CRL; omega)]; exact y2, Sx_eq y3 hB (fS _ (Or.inr (by omega))) fR⟩
/-- what a question leaves -/
theorem FLR.c {m m' : XM} (h : FLR m m') : ∀ b k, CRL b → m' b k = m b k := fun b k hb => h b k hb.1 (by have := hb.2; omega)
/-- a change: the picture ahead of it was put by -/
theorem CLS_chg {m mc m2 : XM} {g g' : PG} {u z : Option PG} {sl B B' q : Nat} (h : CLS m g u sl z B) (hB : B ≤ B') (hq : q < 8) (c1 : ∀ d j, cpv d j → mc (78 + 20 * q + d) j = m (29 + d) j) (c2 : ∃ o k, mc 74 0 = n32 o ∧ o < 8 ∧ mc 74 1 = n32 k ∧ k ≤ 8 ∧ 1 ≤ k ∧ (o + (k - 1)) % 8 = q) (c3 : ∀ x j, x ≠ 74 → ¬ (78 + 20 * q ≤ x ∧ x < 78 + 20 * q + 20) → mc x j = m x j)
    (f : FTK mc m2) (r : RS m2 29 g') (ra : RA m2 29 g') (si : ∃ T X, T ≤ B' ∧ SI g' T X) (st : ∀ j, 99 ≤ j → j < 171 → (∀ s, s < 6 → j ≠ 99 + 12 * s + 3) → g' j = g j) (st7 : g' 7 = g 7) : CLS m2 g' (some g) sl z B' := by
  have back : ∀ x j, (x < 29 ∨ 49 ≤ x) → x ≠ 74 → x < 278 → ¬ (78 + 20 * q ≤ x ∧ x < 78 + 20 * q + 20) → m2 x j = m x j := fun x j h1 h2 h3 h4 => (f x j h1 (by omega)).trans (c3 x j h2 h4)
  have fR : ∀ d k, d < 5 → m2 (69 + d) k = m (69 + d) k := fun d k hd => back _ _ (by omega) (by omega) (by omega) (by omega)
  obtain ⟨h0, h1, -, h3⟩ := h
  have w : WF g := by obtain ⟨-, -, -, T, X, -, s⟩ := h1; exact s.w
  obtain ⟨T, X, t1, t2⟩ := si
  obtain ⟨o, k, d1, d2, d3, d4, d5, d6⟩ := c2
  refine ⟨by rw [back 0 7 (by omega) (by omega) (by omega) (by omega)]; exact h0, ⟨r, ra, RT_of w (RT_eq h1.2.2.1 fR) st st7, T, X, t1, t2⟩, ⟨o, k, by rw [f 74 0 (by omega) (by omega)]; exact d1, d2, by rw [f 74 1 (by omega) (by omega)]; exact d3, d4, fun x hx => ⟨d5, ?_⟩⟩, fun x hx => ?_⟩
  · cases hx
    rw [d6]
    refine Sx_to h1 hB (fun d j hd => ?_) fR
    have hd20 : d < 20 := by rcases hd with hd | hd | hd | hd <;> omega
    rw [f _ _ (by omega) (by omega)]
    exact c1 d j hd
  · obtain ⟨y1, y2, y3⟩ := h3 x hx
    exact ⟨y1, by rw [back 77 sl (by omega) (by omega) (by omega) (by omega)]; exact y2, Sx_eq y3 hB (fun d k hd _ => back _ _ (by omega) (by omega) (by omega) (by omega)) fR⟩
def cq (g : PG) (j : Nat) : Int32 := match j with
  | 0 => g 6
  | 1 => g 7
  | 2 => g 8
  | 3 => g 9
  | 4 => n32 (carried g)
  | 5 => g 10
  | 6 => g 11
  | 7 => n32 (cnt (nPl g) fun k => decide (g (171 + 3 * k + 2) = n32 2))
  | 8 => g 13
  | 9 => g 14
  | 10 => n32 (rdN g)
  | _ => n32 (cnt (nPl g) fun k => decide (g (171 + 3 * k + 2) = n32 0))
def bq (g : PG) (b i : Nat) : Int32 := match i with
  | 0 => g (15 + 7 * b)
  | 1 => g (15 + 7 * b + 1)
  | 2 => g (15 + 7 * b + 2)
  | 3 => g (15 + 7 * b + 3)
  | 4 => g (15 + 7 * b + 4)
  | 5 => stride (g (15 + 7 * b + 2)) (g (15 + 7 * b + 4))
  | 6 => if b = 0 then -(n32 1) else g (15 + 7 * (b - 1) + 1) - g (15 + 7 * b + 1)
  | 7 => g (15 + 7 * b + 5)
  | _ => g (15 + 7 * b + 6)
def sq (g : PG) (s i : Nat) : Int32 := match i with
  | 0 => g (99 + 12 * s)
  | 1 => g (99 + 12 * s + 1)
  | 2 => g (99 + 12 * s + 2)
  | 3 => g (99 + 12 * s + 3)
  | 4 => n32 (cnt (nBr g) fun b => seesG g s b)
  | _ => n32 (txA g s).1
def lq (g : PG) (k i : Nat) : Int32 := match i with
  | 0 => g (207 + 3 * k)
  | 1 => g (207 + 3 * k + 1)
  | _ => g (207 + 3 * k + 2)
section CK
variable {D : Nat} {m : XM} {g : PG} {E : Nat → XM → Prop} {u z : Option PG} {sl B : Nat}
theorem w152_0 {Q : Int32 → XM → Prop} (h : Q (m 74 1) m) : VI D 152 [vR 10 (0)] m Q E := by
  refine V_of (VL_at (al := [(0, vR 10 (0))]) (st := []) km152 k152_0 ?_)
  exact h
theorem c96 {j : Nat} (h : CLS m g u sl z B) (hj : j < 12) : VI (D + 12) 96 [vR 10 0, vI (n32 j)] m (fun r m' => r = cq g j ∧ FLR m m') E := by
  obtain ⟨h1, ⟨r1, r2, r3, T, X, hT, si⟩, -, -⟩ := h
  have w := si.w
  have a2 := w.nb
  have a4 := w.ns
  have a6 := w.np
  have n0 : ¬ n32 j < n32 0 := by rw [n32_lt (by omega) (by omega)]; omega
  have nk : ¬ n32 16 < n32 j := by rw [n32_lt (by omega) (by omega)]; omega
  have e6 : m (29 + 3) 0 = n32 (nBr g) := by rw [r1.nb]; exact w.1.1
  have e8 : m (29 + 16) 0 = n32 (nPl g) := by rw [r1.np]; exact w.2.2.1.1
  obtain rfl | rfl | rfl | rfl | rfl | rfl | rfl | rfl | rfl | rfl | rfl | rfl : j = 0 ∨ j = 1 ∨ j = 2 ∨ j = 3 ∨ j = 4 ∨ j = 5 ∨ j = 6 ∨ j = 7 ∨ j = 8 ∨ j = 9 ∨ j = 10 ∨ j = 11 := by omega
  · refine w96_0 ⟨fun c => absurd (h1.symm.trans c) n01, fun _ => ⟨fun c => absurd c n0, fun _ => ⟨fun c => absurd c nk, fun _ => ⟨fun _ => ?_, fun c => absurd rfl c⟩⟩⟩⟩
    exact ⟨r1.nb, FLR.rf m⟩
  · refine w96_0 ⟨fun c => absurd (h1.symm.trans c) n01, fun _ => ⟨fun c => absurd c n0, fun _ => ⟨fun c => absurd c nk, fun _ => ⟨fun c => absurd c (n32_ne (by decide) (by decide) (by decide)), fun _ => ⟨fun _ => ?_, fun c => absurd rfl c⟩⟩⟩⟩⟩
    exact ⟨r3.1, FLR.rf m⟩
  · refine w96_0 ⟨fun c => absurd (h1.symm.trans c) n01, fun _ => ⟨fun c => absurd c n0, fun _ => ⟨fun c => absurd c nk, fun _ => ⟨fun c => absurd c (n32_ne (by decide) (by decide) (by decide)), fun _ => ⟨fun c => absurd c (n32_ne (by decide) (by decide) (by decide)), fun _ => ⟨fun _ => ?_, fun c => absurd rfl c⟩⟩⟩⟩⟩⟩
    exact ⟨r1.np, FLR.rf m⟩
  · refine w96_0 ⟨fun c => absurd (h1.symm.trans c) n01, fun _ => ⟨fun c => absurd c n0, fun _ => ⟨fun c => absurd c nk, fun _ => ⟨fun c => absurd c (n32_ne (by decide) (by decide) (by decide)), fun _ => ⟨fun c => absurd c (n32_ne (by decide) (by decide) (by decide)), fun _ => ⟨fun c => absurd c (n32_ne (by decide) (by decide) (by decide)), fun _ => ⟨fun _ => ?_, fun c => absurd rfl c⟩⟩⟩⟩⟩⟩⟩
    exact ⟨r1.tm, FLR.rf m⟩
  · refine w96_0 ⟨fun c => absurd (h1.symm.trans c) n01, fun _ => ⟨fun c => absurd c n0, fun _ => ⟨fun c => absurd c nk, fun _ => ⟨fun c => absurd c (n32_ne (by decide) (by decide) (by decide)), fun _ => ⟨fun c => absurd c (n32_ne (by decide) (by decide) (by decide)), fun _ => ⟨fun c => absurd c (n32_ne (by decide) (by decide) (by decide)), fun _ => ⟨fun c => absurd c (n32_ne (by decide) (by decide) (by decide)), fun _ => ⟨fun _ => ?_, fun c => absurd rfl c⟩⟩⟩⟩⟩⟩⟩⟩
    refine s55 (n := nBr g) e6 a2 ?_
    exact ⟨congrArg n32 (cnt_congr fun i hi => by rw [r1.ban hi]), FLR.rf m⟩
  · refine w96_0 ⟨fun c => absurd (h1.symm.trans c) n01, fun _ => ⟨fun c => absurd c n0, fun _ => ⟨fun c => absurd c nk, fun _ => ⟨fun c => absurd c (n32_ne (by decide) (by decide) (by decide)), fun _ => ⟨fun c => absurd c (n32_ne (by decide) (by decide) (by decide)), fun _ => ⟨fun c => absurd c (n32_ne (by decide) (by decide) (by decide)), fun _ => ⟨fun c => absurd c (n32_ne (by decide) (by decide) (by decide)), fun _ => ⟨fun c => absurd c (n32_ne (by decide) (by decide) (by decide)), fun _ => ⟨fun _ => ?_, fun c => absurd rfl c⟩⟩⟩⟩⟩⟩⟩⟩⟩
    exact ⟨r1.nl, FLR.rf m⟩
  · refine w96_0 ⟨fun c => absurd (h1.symm.trans c) n01, fun _ => ⟨fun c => absurd c n0, fun _ => ⟨fun c => absurd c nk, fun _ => ⟨fun c => absurd c (n32_ne (by decide) (by decide) (by decide)), fun _ => ⟨fun c => absurd c (n32_ne (by decide) (by decide) (by decide)), fun _ => ⟨fun c => absurd c (n32_ne (by decide) (by decide) (by decide)), fun _ => ⟨fun c => absurd c (n32_ne (by decide) (by decide) (by decide)), fun _ => ⟨fun c => absurd c (n32_ne (by decide) (by decide) (by decide)), fun _ => ⟨fun c => absurd c (n32_ne (by decide) (by decide) (by decide)), fun _ => ⟨fun _ => ?_, fun c => absurd rfl c⟩⟩⟩⟩⟩⟩⟩⟩⟩⟩
    exact ⟨r1.sw, FLR.rf m⟩
  · refine w96_0 ⟨fun c => absurd (h1.symm.trans c) n01, fun _ => ⟨fun c => absurd c n0, fun _ => ⟨fun c => absurd c nk, fun _ => ⟨fun c => absurd c (n32_ne (by decide) (by decide) (by decide)), fun _ => ⟨fun c => absurd c (n32_ne (by decide) (by decide) (by decide)), fun _ => ⟨fun c => absurd c (n32_ne (by decide) (by decide) (by decide)), fun _ => ⟨fun c => absurd c (n32_ne (by decide) (by decide) (by decide)), fun _ => ⟨fun c => absurd c (n32_ne (by decide) (by decide) (by decide)), fun _ => ⟨fun c => absurd c (n32_ne (by decide) (by decide) (by decide)), fun _ => ⟨fun c => absurd c (n32_ne (by decide) (by decide) (by decide)), fun _ => ⟨fun _ => ?_, fun c => absurd rfl c⟩⟩⟩⟩⟩⟩⟩⟩⟩⟩⟩
    refine s30 (n := nPl g) e8 a6 ?_
    exact ⟨congrArg n32 (cnt_congr fun i hi => by rw [r1.po hi]), FLR.rf m⟩
  · refine w96_0 ⟨fun c => absurd (h1.symm.trans c) n01, fun _ => ⟨fun c => absurd c n0, fun _ => ⟨fun c => absurd c nk, fun _ => ⟨fun c => absurd c (n32_ne (by decide) (by decide) (by decide)), fun _ => ⟨fun c => absurd c (n32_ne (by decide) (by decide) (by decide)), fun _ => ⟨fun c => absurd c (n32_ne (by decide) (by decide) (by decide)), fun _ => ⟨fun c => absurd c (n32_ne (by decide) (by decide) (by decide)), fun _ => ⟨fun c => absurd c (n32_ne (by decide) (by decide) (by decide)), fun _ => ⟨fun c => absurd c (n32_ne (by decide) (by decide) (by decide)), fun _ => ⟨fun c => absurd c (n32_ne (by decide) (by decide) (by decide)), fun _ => ⟨fun c => absurd c (n32_ne (by decide) (by decide) (by decide)), fun _ => ⟨fun _ => ?_, fun c => absurd rfl c⟩⟩⟩⟩⟩⟩⟩⟩⟩⟩⟩⟩
    exact ⟨r1.dr, FLR.rf m⟩
  · refine w96_0 ⟨fun c => absurd (h1.symm.trans c) n01, fun _ => ⟨fun c => absurd c n0, fun _ => ⟨fun c => absurd c nk, fun _ => ⟨fun c => absurd c (n32_ne (by decide) (by decide) (by decide)), fun _ => ⟨fun c => absurd c (n32_ne (by decide) (by decide) (by decide)), fun _ => ⟨fun c => absurd c (n32_ne (by decide) (by decide) (by decide)), fun _ => ⟨fun c => absurd c (n32_ne (by decide) (by decide) (by decide)), fun _ => ⟨fun c => absurd c (n32_ne (by decide) (by decide) (by decide)), fun _ => ⟨fun c => absurd c (n32_ne (by decide) (by decide) (by decide)), fun _ => ⟨fun c => absurd c (n32_ne (by decide) (by decide) (by decide)), fun _ => ⟨fun c => absurd c (n32_ne (by decide) (by decide) (by decide)), fun _ => ⟨fun c => absurd c (n32_ne (by decide) (by decide) (by decide)), fun _ => ⟨fun _ => ?_, fun c => absurd rfl c⟩⟩⟩⟩⟩⟩⟩⟩⟩⟩⟩⟩⟩
    exact ⟨r1.pk, FLR.rf m⟩
  · refine w96_0 ⟨fun c => absurd (h1.symm.trans c) n01, fun _ => ⟨fun c => absurd c n0, fun _ => ⟨fun c => absurd c nk, fun _ => ⟨fun c => absurd c (n32_ne (by decide) (by decide) (by decide)), fun _ => ⟨fun c => absurd c (n32_ne (by decide) (by decide) (by decide)), fun _ => ⟨fun c => absurd c (n32_ne (by decide) (by decide) (by decide)), fun _ => ⟨fun c => absurd c (n32_ne (by decide) (by decide) (by decide)), fun _ => ⟨fun c => absurd c (n32_ne (by decide) (by decide) (by decide)), fun _ => ⟨fun c => absurd c (n32_ne (by decide) (by decide) (by decide)), fun _ => ⟨fun c => absurd c (n32_ne (by decide) (by decide) (by decide)), fun _ => ⟨fun c => absurd c (n32_ne (by decide) (by decide) (by decide)), fun _ => ⟨fun c => absurd c (n32_ne (by decide) (by decide) (by decide)), fun _ => ⟨fun c => absurd c (n32_ne (by decide) (by decide) (by decide)), fun _ => ⟨fun _ => ?_, fun c => absurd rfl c⟩⟩⟩⟩⟩⟩⟩⟩⟩⟩⟩⟩⟩⟩
    refine s166 w r2 r3 ?_
    exact ⟨(bits_bset (n := nSt g) (fun s => decide (¬ g (99 + 12 * s + 3) = -(n32 1))) (by omega)).1, FLR.rf m⟩
  · refine w96_0 ⟨fun c => absurd (h1.symm.trans c) n01, fun _ => ⟨fun c => absurd c n0, fun _ => ⟨fun c => absurd c nk, fun _ => ⟨fun c => absurd c (n32_ne (by decide) (by decide) (by decide)), fun _ => ⟨fun c => absurd c (n32_ne (by decide) (by decide) (by decide)), fun _ => ⟨fun c => absurd c (n32_ne (by decide) (by decide) (by decide)), fun _ => ⟨fun c => absurd c (n32_ne (by decide) (by decide) (by decide)), fun _ => ⟨fun c => absurd c (n32_ne (by decide) (by decide) (by decide)), fun _ => ⟨fun c => absurd c (n32_ne (by decide) (by decide) (by decide)), fun _ => ⟨fun c => absurd c (n32_ne (by decide) (by decide) (by decide)), fun _ => ⟨fun c => absurd c (n32_ne (by decide) (by decide) (by decide)), fun _ => ⟨fun c => absurd c (n32_ne (by decide) (by decide) (by decide)), fun _ => ⟨fun c => absurd c (n32_ne (by decide) (by decide) (by decide)), fun _ => ⟨fun c => absurd c (n32_ne (by decide) (by decide) (by decide)), fun _ => ⟨fun _ => ?_, fun c => absurd rfl c⟩⟩⟩⟩⟩⟩⟩⟩⟩⟩⟩⟩⟩⟩⟩
    refine s30 (n := nPl g) e8 a6 ?_
    exact ⟨congrArg n32 (cnt_congr fun i hi => by rw [r1.po hi]), FLR.rf m⟩
theorem c97 {j : Nat} (h : CLS m g u sl z B) (hj : j < 6) : VI (D + 12) 97 [vR 10 0, vI (n32 j)] m (fun r m' => r = g j ∧ FLR m m') E := by
  obtain ⟨h1, ⟨r1, r2, r3, T, X, hT, si⟩, -, -⟩ := h
  have n0 : ¬ n32 j < n32 0 := by rw [n32_lt (by omega) (by omega)]; omega
  have nk : ¬ n32 5 < n32 j := by rw [n32_lt (by omega) (by omega)]; omega
  refine w97_0 ⟨fun c => absurd (h1.symm.trans c) n01, fun _ => ⟨fun c => absurd c n0, fun _ => ⟨fun c => absurd c nk, fun _ => ⟨xin_n (by omega) (by omega), ?_⟩⟩⟩⟩
  rw [ix_n32 (by omega)]
  exact ⟨r1.se (by omega), FLR.rf m⟩
theorem c98 {b i : Nat} (h : CLS m g u sl z B) (hb : b < nBr g) (hi : i < 9) : VI (D + 12) 98 [vR 10 0, vI (n32 b), vI (n32 i)] m (fun r m' => r = bq g b i ∧ FLR m m') E := by
  obtain ⟨h1, ⟨r1, r2, r3, T, X, hT, si⟩, -, -⟩ := h
  have w := si.w
  have a2 := w.nb
  have b0 : ¬ n32 b < n32 0 := by rw [n32_lt (by omega) (by omega)]; omega
  have bn : n32 b < m (29 + 3) 0 := by rw [r1.nb, w.1.1, n32_lt (by omega) (by omega)]; omega
  have n0 : ¬ n32 i < n32 0 := by rw [n32_lt (by omega) (by omega)]; omega
  have nk : ¬ n32 12 < n32 i := by rw [n32_lt (by omega) (by omega)]; omega
  obtain rfl | rfl | rfl | rfl | rfl | rfl | rfl | rfl | rfl : i = 0 ∨ i = 1 ∨ i = 2 ∨ i = 3 ∨ i = 4 ∨ i = 5 ∨ i = 6 ∨ i = 7 ∨ i = 8 := by omega
  · refine w98_0 ⟨fun c => absurd (h1.symm.trans c) n01, fun _ => ⟨fun c => absurd c b0, fun _ => ⟨fun _ => ⟨fun c => absurd c n0, fun _ => ⟨fun c => absurd c nk, fun _ => ⟨fun _ => ?_, fun c => absurd rfl c⟩⟩⟩, fun c => absurd bn c⟩⟩⟩
    refine ⟨xin_n (by omega) (by omega), ?_⟩
    rw [ix_n32 (show b < 2147483648 by omega)]
    exact ⟨r1.ban hb, FLR.rf m⟩
  · refine w98_0 ⟨fun c => absurd (h1.symm.trans c) n01, fun _ => ⟨fun c => absurd c b0, fun _ => ⟨fun _ => ⟨fun c => absurd c n0, fun _ => ⟨fun c => absurd c nk, fun _ => ⟨fun c => absurd c (n32_ne (by decide) (by decide) (by decide)), fun _ => ⟨fun _ => ?_, fun c => absurd rfl c⟩⟩⟩⟩, fun c => absurd bn c⟩⟩⟩
    refine ⟨xin_n (by omega) (by omega), ?_⟩
    rw [ix_n32 (show b < 2147483648 by omega)]
    exact ⟨r1.pla hb, FLR.rf m⟩
  · refine w98_0 ⟨fun c => absurd (h1.symm.trans c) n01, fun _ => ⟨fun c => absurd c b0, fun _ => ⟨fun _ => ⟨fun c => absurd c n0, fun _ => ⟨fun c => absurd c nk, fun _ => ⟨fun c => absurd c (n32_ne (by decide) (by decide) (by decide)), fun _ => ⟨fun c => absurd c (n32_ne (by decide) (by decide) (by decide)), fun _ => ⟨fun _ => ?_, fun c => absurd rfl c⟩⟩⟩⟩⟩, fun c => absurd bn c⟩⟩⟩
    refine ⟨xin_n (by omega) (by omega), ?_⟩
    rw [ix_n32 (show b < 2147483648 by omega)]
    exact ⟨r1.step hb, FLR.rf m⟩
  · refine w98_0 ⟨fun c => absurd (h1.symm.trans c) n01, fun _ => ⟨fun c => absurd c b0, fun _ => ⟨fun _ => ⟨fun c => absurd c n0, fun _ => ⟨fun c => absurd c nk, fun _ => ⟨fun c => absurd c (n32_ne (by decide) (by decide) (by decide)), fun _ => ⟨fun c => absurd c (n32_ne (by decide) (by decide) (by decide)), fun _ => ⟨fun c => absurd c (n32_ne (by decide) (by decide) (by decide)), fun _ => ⟨fun _ => ?_, fun c => absurd rfl c⟩⟩⟩⟩⟩⟩, fun c => absurd bn c⟩⟩⟩
    refine ⟨xin_n (by omega) (by omega), ?_⟩
    rw [ix_n32 (show b < 2147483648 by omega)]
    exact ⟨r1.lag hb, FLR.rf m⟩
  · refine w98_0 ⟨fun c => absurd (h1.symm.trans c) n01, fun _ => ⟨fun c => absurd c b0, fun _ => ⟨fun _ => ⟨fun c => absurd c n0, fun _ => ⟨fun c => absurd c nk, fun _ => ⟨fun c => absurd c (n32_ne (by decide) (by decide) (by decide)), fun _ => ⟨fun c => absurd c (n32_ne (by decide) (by decide) (by decide)), fun _ => ⟨fun c => absurd c (n32_ne (by decide) (by decide) (by decide)), fun _ => ⟨fun c => absurd c (n32_ne (by decide) (by decide) (by decide)), fun _ => ⟨fun _ => ?_, fun c => absurd rfl c⟩⟩⟩⟩⟩⟩⟩, fun c => absurd bn c⟩⟩⟩
    refine ⟨xin_n (by omega) (by omega), ?_⟩
    rw [ix_n32 (show b < 2147483648 by omega)]
    exact ⟨r1.str hb, FLR.rf m⟩
  · refine w98_0 ⟨fun c => absurd (h1.symm.trans c) n01, fun _ => ⟨fun c => absurd c b0, fun _ => ⟨fun _ => ⟨fun c => absurd c n0, fun _ => ⟨fun c => absurd c nk, fun _ => ⟨fun c => absurd c (n32_ne (by decide) (by decide) (by decide)), fun _ => ⟨fun c => absurd c (n32_ne (by decide) (by decide) (by decide)), fun _ => ⟨fun c => absurd c (n32_ne (by decide) (by decide) (by decide)), fun _ => ⟨fun c => absurd c (n32_ne (by decide) (by decide) (by decide)), fun _ => ⟨fun c => absurd c (n32_ne (by decide) (by decide) (by decide)), fun _ => ⟨fun _ => ?_, fun c => absurd rfl c⟩⟩⟩⟩⟩⟩⟩⟩, fun c => absurd bn c⟩⟩⟩
    refine s50 (by omega) (r1.step hb) (r1.str hb) (w.st_b hb) (w.b4 hb) ?_
    exact ⟨rfl, FLR.rf m⟩
  · refine w98_0 ⟨fun c => absurd (h1.symm.trans c) n01, fun _ => ⟨fun c => absurd c b0, fun _ => ⟨fun _ => ⟨fun c => absurd c n0, fun _ => ⟨fun c => absurd c nk, fun _ => ⟨fun c => absurd c (n32_ne (by decide) (by decide) (by decide)), fun _ => ⟨fun c => absurd c (n32_ne (by decide) (by decide) (by decide)), fun _ => ⟨fun c => absurd c (n32_ne (by decide) (by decide) (by decide)), fun _ => ⟨fun c => absurd c (n32_ne (by decide) (by decide) (by decide)), fun _ => ⟨fun c => absurd c (n32_ne (by decide) (by decide) (by decide)), fun _ => ⟨fun c => absurd c (n32_ne (by decide) (by decide) (by decide)), fun _ => ⟨fun _ => ?_, fun c => absurd rfl c⟩⟩⟩⟩⟩⟩⟩⟩⟩, fun c => absurd bn c⟩⟩⟩
    by_cases hz : b = 0
    · subst hz
      exact ⟨fun _ => ⟨rfl, FLR.rf m⟩, fun c => absurd (n32_rfl _) c⟩
    · refine ⟨fun c => absurd ((n32_le (by omega) (by omega)).mp c) (by omega), fun _ => ?_⟩
      rw [n32_sub (by omega), ix_n32 (show b < 2147483648 by omega), ix_n32 (show b - 1 < 2147483648 by omega), r1.pla hb, r1.pla (b := b - 1) (by omega)]
      refine ⟨xin_n (by omega) (by omega), xin_n (by omega) (by omega), ?_, FLR.rf m⟩
      show _ = if b = 0 then _ else _
      rw [if_neg hz]
  · refine w98_0 ⟨fun c => absurd (h1.symm.trans c) n01, fun _ => ⟨fun c => absurd c b0, fun _ => ⟨fun _ => ⟨fun c => absurd c n0, fun _ => ⟨fun c => absurd c nk, fun _ => ⟨fun c => absurd c (n32_ne (by decide) (by decide) (by decide)), fun _ => ⟨fun c => absurd c (n32_ne (by decide) (by decide) (by decide)), fun _ => ⟨fun c => absurd c (n32_ne (by decide) (by decide) (by decide)), fun _ => ⟨fun c => absurd c (n32_ne (by decide) (by decide) (by decide)), fun _ => ⟨fun c => absurd c (n32_ne (by decide) (by decide) (by decide)), fun _ => ⟨fun c => absurd c (n32_ne (by decide) (by decide) (by decide)), fun _ => ⟨fun c => absurd c (n32_ne (by decide) (by decide) (by decide)), fun _ => ⟨fun _ => ?_, fun c => absurd rfl c⟩⟩⟩⟩⟩⟩⟩⟩⟩⟩, fun c => absurd bn c⟩⟩⟩
    refine ⟨xin_n (by omega) (by omega), ?_⟩
    rw [ix_n32 (show b < 2147483648 by omega)]
    exact ⟨r1.mov hb, FLR.rf m⟩
  · refine w98_0 ⟨fun c => absurd (h1.symm.trans c) n01, fun _ => ⟨fun c => absurd c b0, fun _ => ⟨fun _ => ⟨fun c => absurd c n0, fun _ => ⟨fun c => absurd c nk, fun _ => ⟨fun c => absurd c (n32_ne (by decide) (by decide) (by decide)), fun _ => ⟨fun c => absurd c (n32_ne (by decide) (by decide) (by decide)), fun _ => ⟨fun c => absurd c (n32_ne (by decide) (by decide) (by decide)), fun _ => ⟨fun c => absurd c (n32_ne (by decide) (by decide) (by decide)), fun _ => ⟨fun c => absurd c (n32_ne (by decide) (by decide) (by decide)), fun _ => ⟨fun c => absurd c (n32_ne (by decide) (by decide) (by decide)), fun _ => ⟨fun c => absurd c (n32_ne (by decide) (by decide) (by decide)), fun _ => ⟨fun c => absurd c (n32_ne (by decide) (by decide) (by decide)), fun _ => ⟨fun _ => ?_, fun c => absurd rfl c⟩⟩⟩⟩⟩⟩⟩⟩⟩⟩⟩, fun c => absurd bn c⟩⟩⟩
    refine ⟨xin_n (by omega) (by omega), ?_⟩
    rw [ix_n32 (show b < 2147483648 by omega)]
    exact ⟨r1.own hb, FLR.rf m⟩
theorem c99 {s i : Nat} (h : CLS m g u sl z B) (hs : s < nSt g) (hi : i < 6) : VI (D + 12) 99 [vR 10 0, vI (n32 s), vI (n32 i)] m (fun r m' => r = sq g s i ∧ FLR m m') E := by
  obtain ⟨h1, ⟨r1, r2, r3, T, X, hT, si⟩, -, -⟩ := h
  have w := si.w
  have a2 := w.nb
  have a4 := w.ns
  have b0 : ¬ n32 s < n32 0 := by rw [n32_lt (by omega) (by omega)]; omega
  have bn : n32 s < m 69 0 := by rw [r3.1, w.2.1.1, n32_lt (by omega) (by omega)]; omega
  have n0 : ¬ n32 i < n32 0 := by rw [n32_lt (by omega) (by omega)]; omega
  have nk : ¬ n32 8 < n32 i := by rw [n32_lt (by omega) (by omega)]; omega
  obtain ⟨q1, q2, q3, q4⟩ := r3.2 s hs
  obtain rfl | rfl | rfl | rfl | rfl | rfl : i = 0 ∨ i = 1 ∨ i = 2 ∨ i = 3 ∨ i = 4 ∨ i = 5 := by omega
  · refine w99_0 ⟨fun c => absurd (h1.symm.trans c) n01, fun _ => ⟨fun c => absurd c b0, fun _ => ⟨fun _ => ⟨fun c => absurd c n0, fun _ => ⟨fun c => absurd c nk, fun _ => ⟨fun _ => ?_, fun c => absurd rfl c⟩⟩⟩, fun c => absurd bn c⟩⟩⟩
    refine ⟨xin_n (by omega) (by omega), ?_⟩
    rw [ix_n32 (show s < 2147483648 by omega)]
    exact ⟨q1, FLR.rf m⟩
  · refine w99_0 ⟨fun c => absurd (h1.symm.trans c) n01, fun _ => ⟨fun c => absurd c b0, fun _ => ⟨fun _ => ⟨fun c => absurd c n0, fun _ => ⟨fun c => absurd c nk, fun _ => ⟨fun c => absurd c (n32_ne (by decide) (by decide) (by decide)), fun _ => ⟨fun _ => ?_, fun c => absurd rfl c⟩⟩⟩⟩, fun c => absurd bn c⟩⟩⟩
    refine ⟨xin_n (by omega) (by omega), ?_⟩
    rw [ix_n32 (show s < 2147483648 by omega)]
    exact ⟨q2, FLR.rf m⟩
  · refine w99_0 ⟨fun c => absurd (h1.symm.trans c) n01, fun _ => ⟨fun c => absurd c b0, fun _ => ⟨fun _ => ⟨fun c => absurd c n0, fun _ => ⟨fun c => absurd c nk, fun _ => ⟨fun c => absurd c (n32_ne (by decide) (by decide) (by decide)), fun _ => ⟨fun c => absurd c (n32_ne (by decide) (by decide) (by decide)), fun _ => ⟨fun _ => ?_, fun c => absurd rfl c⟩⟩⟩⟩⟩, fun c => absurd bn c⟩⟩⟩
    refine ⟨xin_n (by omega) (by omega), ?_⟩
    rw [ix_n32 (show s < 2147483648 by omega)]
    exact ⟨q3, FLR.rf m⟩
  · refine w99_0 ⟨fun c => absurd (h1.symm.trans c) n01, fun _ => ⟨fun c => absurd c b0, fun _ => ⟨fun _ => ⟨fun c => absurd c n0, fun _ => ⟨fun c => absurd c nk, fun _ => ⟨fun c => absurd c (n32_ne (by decide) (by decide) (by decide)), fun _ => ⟨fun c => absurd c (n32_ne (by decide) (by decide) (by decide)), fun _ => ⟨fun c => absurd c (n32_ne (by decide) (by decide) (by decide)), fun _ => ⟨fun _ => ?_, fun c => absurd rfl c⟩⟩⟩⟩⟩⟩, fun c => absurd bn c⟩⟩⟩
    refine ⟨xin_n (by omega) (by omega), ?_⟩
    rw [ix_n32 (show s < 2147483648 by omega)]
    exact ⟨r2 s hs, FLR.rf m⟩
  · refine w99_0 ⟨fun c => absurd (h1.symm.trans c) n01, fun _ => ⟨fun c => absurd c b0, fun _ => ⟨fun _ => ⟨fun c => absurd c n0, fun _ => ⟨fun c => absurd c nk, fun _ => ⟨fun c => absurd c (n32_ne (by decide) (by decide) (by decide)), fun _ => ⟨fun c => absurd c (n32_ne (by decide) (by decide) (by decide)), fun _ => ⟨fun c => absurd c (n32_ne (by decide) (by decide) (by decide)), fun _ => ⟨fun c => absurd c (n32_ne (by decide) (by decide) (by decide)), fun _ => ⟨fun _ => ?_, fun c => absurd rfl c⟩⟩⟩⟩⟩⟩⟩, fun c => absurd bn c⟩⟩⟩
    refine s169 w r1 r3 hs ?_
    exact ⟨(bits_bset (n := nBr g) (fun b => seesG g s b) a2).1, FLR.rf m⟩
  · refine w99_0 ⟨fun c => absurd (h1.symm.trans c) n01, fun _ => ⟨fun c => absurd c b0, fun _ => ⟨fun _ => ⟨fun c => absurd c n0, fun _ => ⟨fun c => absurd c nk, fun _ => ⟨fun c => absurd c (n32_ne (by decide) (by decide) (by decide)), fun _ => ⟨fun c => absurd c (n32_ne (by decide) (by decide) (by decide)), fun _ => ⟨fun c => absurd c (n32_ne (by decide) (by decide) (by decide)), fun _ => ⟨fun c => absurd c (n32_ne (by decide) (by decide) (by decide)), fun _ => ⟨fun c => absurd c (n32_ne (by decide) (by decide) (by decide)), fun _ => ⟨fun _ => ?_, fun c => absurd rfl c⟩⟩⟩⟩⟩⟩⟩⟩, fun c => absurd bn c⟩⟩⟩
    refine s161 w r1 r3 hs ?_
    intro m1 hT1 fd
    exact ⟨hT1.1, FD.r fd⟩
theorem c100 {k : Nat} (h : CLS m g u sl z B) (hk : k < nPl g) : VI (D + 12) 100 [vR 10 0, vI (n32 k), vI (n32 2)] m (fun r m' => r = g (171 + 3 * k + 2) ∧ FLR m m') E := by
  obtain ⟨h1, ⟨r1, r2, r3, T, X, hT, si⟩, -, -⟩ := h
  have w := si.w
  have a6 := w.np
  have b0 : ¬ n32 k < n32 0 := by rw [n32_lt (by omega) (by omega)]; omega
  have bn : n32 k < m (29 + 16) 0 := by rw [r1.np, w.2.2.1.1, n32_lt (by omega) (by omega)]; omega
  have n0 : ¬ n32 2 < n32 0 := by decide
  have nk : ¬ n32 3 < n32 2 := by decide
  refine w100_0 ⟨fun c => absurd (h1.symm.trans c) n01, fun _ => ⟨fun c => absurd c b0, fun _ => ⟨fun _ => ⟨fun c => absurd c n0, fun _ => ⟨fun c => absurd c nk, fun _ => ⟨fun c => absurd c (n32_ne (by decide) (by decide) (by decide)), fun _ => ⟨fun c => absurd c (n32_ne (by decide) (by decide) (by decide)), fun _ => ⟨fun _ => ?_, fun c => absurd rfl c⟩⟩⟩⟩⟩, fun c => absurd bn c⟩⟩⟩
  refine ⟨xin_n (by omega) (by omega), ?_⟩
  rw [ix_n32 (show k < 2147483648 by omega)]
  exact ⟨r1.po hk, FLR.rf m⟩
theorem c101 {k i : Nat} (h : CLS m g u sl z B) (hk : k < nL g) (hi : i < 3) : VI (D + 12) 101 [vR 10 0, vI (n32 k), vI (n32 i)] m (fun r m' => r = lq g k i ∧ FLR m m') E := by
  obtain ⟨h1, ⟨r1, r2, r3, T, X, hT, si⟩, -, -⟩ := h
  have w := si.w
  have a2 := w.nb
  have a9 := w.nl
  have b0 : ¬ n32 k < n32 0 := by rw [n32_lt (by omega) (by omega)]; omega
  have bn : n32 k < m (29 + 12) 0 := by rw [r1.nl, w.2.2.2.1.1, n32_lt (by omega) (by omega)]; omega
  have n0 : ¬ n32 i < n32 0 := by rw [n32_lt (by omega) (by omega)]; omega
  have nk : ¬ n32 2 < n32 i := by rw [n32_lt (by omega) (by omega)]; omega
  obtain rfl | rfl | rfl : i = 0 ∨ i = 1 ∨ i = 2 := by omega
  · refine w101_0 ⟨fun c => absurd (h1.symm.trans c) n01, fun _ => ⟨fun c => absurd c b0, fun _ => ⟨fun _ => ⟨fun c => absurd c n0, fun _ => ⟨fun c => absurd c nk, fun _ => ⟨fun _ => ?_, fun c => absurd rfl c⟩⟩⟩, fun c => absurd bn c⟩⟩⟩
    refine ⟨xin_n (by omega) (by omega), ?_⟩
    rw [ix_n32 (show k < 2147483648 by omega)]
    exact ⟨r1.ll hk, FLR.rf m⟩
  · refine w101_0 ⟨fun c => absurd (h1.symm.trans c) n01, fun _ => ⟨fun c => absurd c b0, fun _ => ⟨fun _ => ⟨fun c => absurd c n0, fun _ => ⟨fun c => absurd c nk, fun _ => ⟨fun c => absurd c (n32_ne (by decide) (by decide) (by decide)), fun _ => ⟨fun _ => ?_, fun c => absurd rfl c⟩⟩⟩⟩, fun c => absurd bn c⟩⟩⟩
    refine ⟨xin_n (by omega) (by omega), ?_⟩
    rw [ix_n32 (show k < 2147483648 by omega)]
    exact ⟨r1.lp hk, FLR.rf m⟩
  · refine w101_0 ⟨fun c => absurd (h1.symm.trans c) n01, fun _ => ⟨fun c => absurd c b0, fun _ => ⟨fun _ => ⟨fun c => absurd c n0, fun _ => ⟨fun c => absurd c nk, fun _ => ⟨fun c => absurd c (n32_ne (by decide) (by decide) (by decide)), fun _ => ⟨fun c => absurd c (n32_ne (by decide) (by decide) (by decide)), fun _ => ?_⟩⟩⟩⟩, fun c => absurd bn c⟩⟩⟩
    refine ⟨xin_n (by omega) (by omega), ?_⟩
    rw [ix_n32 (show k < 2147483648 by omega)]
    exact ⟨r1.lt hk, FLR.rf m⟩
end CK
