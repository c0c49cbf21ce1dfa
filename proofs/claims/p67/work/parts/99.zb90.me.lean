/-! Pairs: the mean of strength and its bits; the least rest. -/
theorem isum_R {n hi : Nat} {f : Nat → Int32} (h : ∀ i, i < n → inR (f i) 0 hi) (hb : hi * n < 2147483648) : inR (isum n f) 0 (hi * n) := by
  induction n with
  | zero => exact ⟨0, by omega, by omega, rfl⟩
  | succ n ih =>
    have e : hi * (n + 1) = hi * n + hi := Nat.mul_succ hi n
    obtain ⟨a, a1, a2, a3⟩ := ih (fun i hi => h i (by omega)) (by omega)
    obtain ⟨b, b1, b2, b3⟩ := h n (by omega)
    exact ⟨a + b, by omega, by omega, by rw [isum_succ, a3, b3, n32_add]⟩
def meanG (g : PG) : UInt64 := if nBr g = 0 then FP.dconst0 else FP.ddiv (FP.i2d (isum (nBr g) fun b => g (15 + 7 * b + 4))) (FP.i2d (n32 (nBr g)))
section S90
variable {D : Nat} {m : XM} {g : PG} {E : Nat → XM → Prop}
def setLo (k : Nat) : Nat := match k with
  | 0 => 1
  | 2 => 1
  | 4 => 1
  | _ => 0
def setHi (k : Nat) : Nat := match k with
  | 0 => 999
  | 3 => 50
  | 4 => 100
  | _ => 9999
theorem WF_set {k : Nat} {v : Int32} (h : WF g) (hk : k < 6) (hv : inR v (setLo k) (setHi k)) : keeps g (gup g k v) := by
  have a2 := h.nb
  have a4 := h.ns
  have a6 := h.np
  have a9 := h.nl
  have n6 : nBr (gup g k v) = nBr g := nBr_upd (by omega)
  have n7 : nSt (gup g k v) = nSt g := nSt_upd (by omega)
  have n8 : nPl (gup g k v) = nPl g := nPl_upd (by omega)
  have n10 : nL (gup g k v) = nL g := nL_upd (by omega)
  have e : ∀ i, 6 ≤ i → gup g k v i = g i := fun i hi => gup_ne (by omega)
  have ec : carried (gup g k v) = carried g := by
    unfold carried
    rw [n6]
    exact cnt_congr fun b hb => by rw [e _ (by omega)]
  obtain ⟨⟨b1, b2⟩, ⟨b3, b4⟩, ⟨b5, b6⟩, ⟨b7, b8⟩, ⟨c0, c1, c2, c3, c4, c5⟩, q0, q2, q3, q4, q6, qp, ql, qs⟩ := h
  have cs : ∀ j, j < 6 → inR (gup g k v j) (setLo j) (setHi j) := by
    intro j hj
    by_cases ej : j = k
    · subst ej
      rw [gup_eq]; exact hv
    · rw [gup_ne ej]
      match j, hj with
      | 0, _ => exact c0
      | 1, _ => exact c1
      | 2, _ => exact c2
      | 3, _ => exact c3
      | 4, _ => exact c4
      | 5, _ => exact c5
  refine ⟨⟨⟨?_, ?_⟩, ⟨?_, ?_⟩, ⟨?_, ?_⟩, ⟨?_, ?_⟩, ⟨cs 0 (by omega), cs 1 (by omega), cs 2 (by omega), cs 3 (by omega), cs 4 (by omega), cs 5 (by omega)⟩, ?_, ?_, ?_, ?_, ?_, ?_, ?_, ?_⟩, n6, n7, n8⟩
  · rw [n6, e _ (by omega)]; exact b1
  · rw [n6]; exact b2
  · rw [n7, e _ (by omega)]; exact b3
  · rw [n7]; exact b4
  · rw [n8, e _ (by omega)]; exact b5
  · rw [n8]; exact b6
  · rw [n10, e _ (by omega)]; exact b7
  · rw [n10, n6, ec]; exact b8
  · rw [n6]; intro b hb; rw [e _ (by omega)]; exact q0 b hb
  · rw [n6]; intro b hb; rw [e _ (by omega)]; exact q2 b hb
  · rw [n6]; intro b hb; rw [e _ (by omega)]; exact q3 b hb
  · rw [n6]; intro b hb; rw [e _ (by omega)]; exact q4 b hb
  · rw [n6]; intro b hb; rw [e _ (by omega)]; exact q6 b hb
  · rw [n8, n6]; intro j hj
    have ea : aheadG (gup g k v) j = aheadG g j := by unfold aheadG; rw [e _ (by omega)]
    rw [ea, e _ (by omega)]; exact qp j hj
  · rw [n10]; intro j hj; rw [e _ (by omega)]; exact ql j hj
  · rw [n7]; intro s hs
    rw [e _ (by omega), e _ (by omega)]
    obtain ⟨x1, x2, x3⟩ := qs s hs
    exact ⟨x1, x2, fun i hi => by rw [e _ (by omega)]; exact x3 i hi⟩
theorem SI_set {k T N : Nat} {v : Int32} (h : SI g T N) (hk : k < 6) (hv : inR v (setLo k) (setHi k)) : SI (gup g k v) T N := by
  have a2 := h.w.nb
  have a6 := h.w.np
  exact SI_of h (WF_set h.w hk hv) (gup_ne (by omega)) (gup_ne (by omega)) (gup_ne (by omega)) (fun j hj => ⟨gup_ne (by omega), gup_ne (by omega)⟩) (fun c hc => gup_ne (by omega))
theorem RS_set {a k : Nat} {v : Int32} (w : WF g) (r : RS m a g) (hk : k < 6) : RS (um m (a + 1) k v) a (gup g k v) :=
  RS_gup (d0 := 1) w r (lv_se hk) (by omega) (by omega) (by omega)
theorem tkR_13 (w : WF g) {d : Nat} (h : g 13 = n32 d) : ∃ e, e ≤ 12 ∧ tkR g 13 = n32 (d + e) := by
  have k0 : keeps g (gup g 9 (g 9 + n32 1)) := WF_freeN w (Or.inl (Or.inl rfl))
  have e0 : gup g 9 (g 9 + n32 1) 13 = n32 d := by rw [gup_ne (by omega)]; exact h
  unfold tkR tkG
  try dsimp only
  generalize gup g 9 (g 9 + n32 1) = g0 at k0 e0
  have k1 : keeps g0 (plansG g0) := WF_plansG k0.1
  have e1 : plansG g0 13 = n32 d := by
    have b := k0.1.np
    rw [← e0]
    exact plans_at k0.1 _ (Nat.le_refl _) 13 (by omega) (by omega) (by omega) (fun j hj => by omega)
  generalize plansG g0 = g1 at k1 e1
  have k2 : keeps g1 (movesG g1) := WF_movesG k1.1
  have e2 : movesG g1 13 = n32 d := by rw [← e1]; exact moves_at (by omega) _ k1.1.nb
  generalize hbf : (fun b => g1 (15 + 7 * b + 1)) = bf
  generalize movesG g1 = g2 at k2 e2
  have k3 : keeps g2 (weaksG g2) := WF_weaksG k2.1
  have e3 : ∃ e, e ≤ 12 ∧ weaksG g2 13 = n32 (d + e) := by
    have := itr_inv (P := fun i x => keeps g2 x ∧ ∃ e, e ≤ i ∧ x 13 = n32 (d + e)) (f := weakG) (a := g2) (n := nBr g2) ⟨keeps.rf k2.1, 0, Nat.le_refl _, e2⟩ (fun i x hi hx => by
      have hi' : i < nBr x := by rw [hx.1.2.1]; exact hi
      refine ⟨hx.1.tr (WF_weakG hx.1.1 hi'), ?_⟩
      obtain ⟨e, h1, h2⟩ := hx.2
      unfold weakG
      split
      · refine ⟨e + 1, by omega, ?_⟩
        unfold dropG
        rw [gup_ne (by omega), gup_eq, h2, n32_add]; rfl
      · exact ⟨e, by omega, h2⟩)
    obtain ⟨e, h1, h2⟩ := this.2
    exact ⟨e, by have := k2.1.nb; omega, h2⟩
  obtain ⟨e, he, e3⟩ := e3
  refine ⟨e, he, ?_⟩
  generalize weaksG g2 = g3 at k3 e3
  have k4 : keeps g3 (liftsG bf g3) := WF_liftsG k3.1
  have e4 : liftsG bf g3 13 = g3 13 := by
    have := itr_inv (P := fun _ x => keeps g3 x ∧ x 13 = g3 13) (f := liftG bf) (a := g3) (n := nBr g3) ⟨keeps.rf k3.1, rfl⟩ (fun i x hi hx => by
      have hi' : i < nBr x := by rw [hx.1.2.1]; exact hi
      exact ⟨hx.1.tr (WF_liftG hx.1.1 hi'), by rw [liftG_at hx.1.1 hi' (by omega)]; exact hx.2⟩)
    exact this.2
  generalize liftsG bf g3 = g4 at k4 e4
  have e5 : rdsG g4 13 = g4 13 := by
    have := itr_inv (P := fun _ x => keeps g4 x ∧ x 13 = g4 13) (f := rdStep) (a := g4) (n := nSt g4) ⟨keeps.rf k4.1, rfl⟩ (fun i x hi hx => by
      have hi' : i < nSt x := by rw [hx.1.2.2.1]; exact hi
      refine ⟨hx.1.tr (WF_rdStep hx.1.1 hi'), ?_⟩
      rw [← hx.2]
      unfold rdStep
      split
      · rw [gup_ne (by omega)]
      · rfl)
    exact this.2
  rw [e5, e4, e3]
/-- drops only grow -/
theorem tkn_13 {T X : Nat} (si : SI g T X) (hT : T ≤ 5000) {d : Nat} (h : g 13 = n32 d) : ∀ n, n ≤ 4000 → ∃ e, e ≤ 12 * n ∧ tkn g n 13 = n32 (d + e) ∧ ∀ i, i ≤ n → ∃ e', e' ≤ e ∧ tkn g i 13 = n32 (d + e') := by
  intro n
  induction n with
  | zero => intro _; exact ⟨0, by omega, h, fun i hi => ⟨0, by omega, by rw [show i = 0 by omega]; exact h⟩⟩
  | succ n ih =>
    intro hn
    obtain ⟨e, h1, h2, h3⟩ := ih (by omega)
    obtain ⟨e', h4, h5⟩ := tkR_13 (tkn_keeps si hT n (by omega)).1 h2
    rw [← tkn_succ] at h5
    refine ⟨e + e', by omega, by rw [h5, Nat.add_assoc], fun i hi => ?_⟩
    by_cases c : i = n + 1
    · subst c
      exact ⟨e + e', by omega, by rw [h5, Nat.add_assoc]⟩
    · obtain ⟨x, x1, x2⟩ := h3 i (by omega)
      exact ⟨x, by omega, x2⟩
theorem fnd_none {p : Nat → Bool} : ∀ r i, i + r < 2147483648 → (fnd p r i = -(n32 1) ↔ ∀ j, i ≤ j → j < i + r → p j = false) := by
  intro r
  induction r with
  | zero => intro i _; exact ⟨fun _ j h1 h2 => absurd h2 (by omega), fun _ => rfl⟩
  | succ r ih =>
    intro i hi
    rw [fnd_succ]
    by_cases c : p i = true
    · rw [if_pos c]
      refine ⟨fun e => absurd e (n32_nm1 (by omega)), fun e => ?_⟩
      rw [e i (by omega) (by omega)] at c
      cases c
    · rw [if_neg c, ih (i + 1) (by omega)]
      constructor
      · intro e j h1 h2
        by_cases ej : j = i
        · subst ej
          cases hp : p j with
          | true => exact absurd hp c
          | false => rfl
        · exact e j (by omega) (by omega)
      · intro e j h1 h2
        exact e j (by omega) (by omega)
/-- no drop within 100 ticks: however it is asked -/
theorem nodrop {T X : Nat} (si : SI g T X) (hT : T ≤ 5000) (hX : X ≤ 100000) : fnd (pdr g) 100 1 = -(n32 1) ↔ tkn g 100 13 = g 13 := by
  obtain ⟨d, d1, d2⟩ := si.2.2.2.2.2
  obtain ⟨e, h1, h2, h3⟩ := tkn_13 si hT d1 100 (by omega)
  rw [fnd_none 100 1 (by omega), h2, d1]
  constructor
  · intro h
    have := h 100 (by omega) (by omega)
    unfold pdr at this
    have := of_decide_eq_false this
    rw [h2, d1, Decidable.not_not, n32_le (by omega) (by omega)] at this
    rw [show d + e = d by omega]
  · intro h j j1 j2
    have := n32_inj (by omega) (by omega) h
    obtain ⟨e', h4, h5⟩ := h3 j (by omega)
    unfold pdr
    apply decide_eq_false
    rw [h5, d1, Decidable.not_not, show d + e' = d by omega]
    exact n32_rfl d
def plr (g : PG) (c : Nat) : Bool := decide (tkn (gup g 3 (n32 c)) 100 13 = g 13)
theorem rest_R {c : Nat} (h : c ≤ 50) : inR (n32 c) (setLo 3) (setHi 3) := ⟨c, Nat.zero_le _, h, rfl⟩
end S90

