/-! Pairs: the mean of strength and its bits; the least rest. -/
theorem isum_R {n hi : Nat} {f : Nat → Int32} (h : ∀ i, i < n → inR (f i) 0 hi) (hb : hi * n < 2147483648) : inR (isum n f) 0 (hi * n) := by
  induction n with
  | zero => exact ⟨0, by omega, by omega, rfl⟩
  | succ n ih =>
    have e : hi * (n + 1) = hi * n + hi := Nat.mul_succ hi n
    obtain ⟨a, a1, a2, a3⟩ := ih (fun i hi => h i (by omega)) (by omega)
    obtain ⟨b, b1, b2, b3⟩ := h n (by omega)
    exact ⟨a + b, by omega, by omega, by rw [isum_succ, a3, b3, n32_add]⟩
def meanG (g : PG) : UInt64 := if nBr g = 0 then FP.dconst0 else FP.ddiv (FP.i2d (isum (nBr g) fun b => g (15 + 7 * b + 4))) (FP.i2d (n32 (nBr g)))
theorem mean_ok {g : PG} (w : WF g) : mnOk (meanG g) = true := by
  have a2 := w.nb
  unfold meanG
  split
  · exact mnOk_0
  · obtain ⟨S, -, h2, h3⟩ := isum_R (n := nBr g) (hi := 100) (f := fun b => g (15 + 7 * b + 4)) (fun i hi => w.b4 hi) (by omega)
    rw [h3]
    exact mnOk_all (by omega) a2 h2
theorem mn_nan {x : UInt64} (h : mnOk x = true) : x &&& 0x7fffffffffffffff ≤ 0x7ff0000000000000 := by
  unfold mnOk at h
  rw [Bool.and_eq_true, Bool.and_eq_true, decide_eq_true_eq] at h
  exact h.1.1
section S90
variable {D : Nat} {m : XM} {g : PG} {E : Nat → XM → Prop}
theorem s61 {a : Nat} {Q : UInt64 → XM → Prop} (w : WF g) (r : RS m a g) (h : Q (meanG g) m) : VD (D + 1) 61 [vR 7 (a + 3)] m Q E := by
  have a2 := w.nb
  have h6 : m (a + 3) 0 = n32 (nBr g) := by rw [r.nb]; exact w.1.1
  have ok := mn_nan (mean_ok w)
  unfold meanG at h ok
  refine w61_0 ?_
  by_cases h0 : nBr g = 0
  · rw [if_pos h0] at h
    refine ⟨fun _ => h, fun c => absurd (by rw [h6, h0]; exact n32_rfl 0) c⟩
  · rw [if_neg h0] at h ok
    refine ⟨fun c => ?_, fun _ => ?_⟩
    · rw [h6] at c
      exact absurd ((n32_le (by omega) (by omega)).mp c) (by omega)
    refine s60 (n := nBr g) h6 a2 ?_
    have e : (isum (nBr g) fun k => m (a + 3 + 4) k) = (isum (nBr g) fun b => g (15 + 7 * b + 4)) := isum_congr fun i hi => r.str hi
    rw [e, h6]
    exact ⟨ok, h⟩
theorem s281 {Q : UInt64 → XM → Prop} (w : WF g) (h : Q (meanG g) (smg m g)) : VD (D + 1) 281 [vR 11 283] (smg m g) Q E := by
  have a2 := w.nb
  have h6 := w.1.1
  have ok := mn_nan (mean_ok w)
  unfold meanG at h ok
  refine w281_0 (up (C := fun i => VLD (D + 1) 281 1 [(0, vR 11 283), (1, vI (isum i fun b => g (15 + 7 * b + 4))), (2, vI (n32 i))] [] (smg m g) Q E) (n := nBr g) ?_ ?_ 0 (Nat.zero_le _))
  · intro i hi ih
    refine w281_1 ?_
    simp (disch := omega) only [h6, smg_at, n32_mul, n32_add, le_f, xin_t, ix_n32, false_implies, not_false_eq_true, true_implies, true_and]
    exact ih
  · refine w281_1 ?_
    simp (disch := omega) only [h6, smg_at, ix_n32]
    refine ⟨fun _ => ?_, fun c => absurd (n32_rfl _) c⟩
    by_cases h0 : nBr g = 0
    · rw [if_pos h0] at h
      exact ⟨fun _ => h, fun c => absurd (by rw [h0]) c⟩
    · rw [if_neg h0] at h ok
      exact ⟨fun c => absurd (n32_inj (by omega) (by omega) c) h0, fun _ => ⟨ok, h⟩⟩
theorem dbF_ok {e : Int64} {x : UInt64} {r : Int64} {Q : Int64 → XM → Prop} (h : dbF e x = some r) (hq : Q r m) : (FP.dsub x FP.dconst1) &&& 0x7fffffffffffffff ≤ 0x7ff0000000000000 ∧ ((FP.dmul (FP.dsub x FP.dconst1) (UInt64.ofNat 4841369599423283200)) &&& 0x7fffffffffffffff ≤ 0x7ff0000000000000 ∧ Q ((e <<< (((n32 52)).toInt64 &&& 63)) + ((FP.d2l (FP.dmul (FP.dsub x FP.dconst1) (UInt64.ofNat 4841369599423283200))))) m) := by
  unfold dbF at h
  split at h
  · rename_i c
    cases h
    exact ⟨c.1, c.2, hq⟩
  · cases h
theorem t171b {Q : Int64 → XM → Prop} : ∀ (k : Nat) (e : Int64) (x : UInt64) (r : Int64), k ≤ 60 → dbB k e x = some r → Q r m → VLJ D 171 7 [(2, vJ e), (4, vD x), (6, vI (n32 (60 - k)))] [] m Q E := by
  intro k
  induction k with
  | zero =>
    intro e x r _ h hq
    rw [dbB_0] at h
    exact w171_7 ⟨fun _ => dbF_ok h hq, fun c => absurd (n32_rfl _) c⟩
  | succ k ih =>
    intro e x r hk h hq
    rw [dbB_s] at h
    refine w171_7 ⟨fun c => absurd ((n32_le (by omega) (by omega)).mp c) (by omega), fun _ => ⟨fun c1 => ?_, fun c1 => ?_⟩⟩
    · rw [if_pos c1] at h
      exact dbF_ok h hq
    · rw [if_neg c1] at h
      split at h
      · rename_i c
        refine ⟨c, ?_⟩
        rw [n32_add, show 60 - (k + 1) + 1 = 60 - k by omega]
        exact ih _ _ _ (by omega) h hq
      · cases h
theorem t171a {Q : Int64 → XM → Prop} : ∀ (k : Nat) (e : Int64) (x : UInt64) (r : Int64), k ≤ 60 → dbA k e x = some r → Q r m → VLJ D 171 3 [(2, vJ e), (4, vD x), (6, vI (n32 (60 - k)))] [] m Q E := by
  intro k
  induction k with
  | zero =>
    intro e x r _ h hq
    rw [dbA_0] at h
    exact w171_3 ⟨fun _ => t171b 60 _ _ _ (by omega) h hq, fun c => absurd (n32_rfl _) c⟩
  | succ k ih =>
    intro e x r hk h hq
    rw [dbA_s] at h
    refine w171_3 ⟨fun c => absurd ((n32_le (by omega) (by omega)).mp c) (by omega), fun _ => ⟨fun c1 => ?_, fun c1 => ?_⟩⟩
    · rw [if_pos c1] at h
      exact t171b 60 _ _ _ (by omega) h hq
    · rw [if_neg c1] at h
      split at h
      · rename_i c
        refine ⟨c, ?_⟩
        rw [n32_add, show 60 - (k + 1) + 1 = 60 - k by omega]
        exact ih _ _ _ (by omega) h hq
      · cases h
theorem s171 {x : UInt64} {Q : Int64 → XM → Prop} (hx : mnOk x = true) (h : Q x.toInt64 m) : VJ D 171 [vD x] m Q E := by
  unfold mnOk at hx
  rw [Bool.and_eq_true, Bool.and_eq_true, decide_eq_true_eq, decide_eq_true_eq] at hx
  have hx := hx.1.2
  unfold dbT at hx
  refine w171_0 ⟨fun c => ?_, fun c => ?_⟩
  · rw [if_pos c] at hx
    exact t171a 60 _ _ _ (by omega) hx h
  · rw [if_neg c] at hx
    cases hx
    exact h
theorem p_meanStrength {N : Nat} (h : CPL m N) : PRD (D + 12) 124 282 [vR 10 0] [vR 11 283] mpSA m N := by
  unfold PRD
  rcases h.ld with ⟨h1, h2⟩ | ⟨h1, h2, r1, r2, r3, T, hT, si⟩
  · refine w124_0 ⟨fun _ => ?_, fun c => absurd h1 c⟩
    refine w282_0 (s275 ?_)
    rw [h2]
    exact ⟨fun _ => ⟨⟨um_eq _ _ _ _, by decide, by decide⟩, CPL_th h⟩, fun c => absurd rfl c⟩
  · have w := si.w
    have a2 := w.nb
    have a4 := w.ns
    obtain ⟨x1, x2⟩ := fin1 h (show m 284 = m 284 from rfl)
    refine w124_0 ⟨fun c => absurd (h1.symm.trans c) n01, fun _ => ?_⟩
    refine s61 w r1 ?_
    refine w282_0 (s275 ?_)
    rw [h2, code0]
    refine ⟨fun c => absurd c n01, fun _ => ?_⟩
    rw [st0 (show m 284 = m 284 from rfl)]
    refine s281 w ?_
    exact ⟨⟨rfl, x1⟩, x2⟩

theorem p_strengthBits {N : Nat} (h : CPL m N) : PRJ (D + 12) 125 283 [vR 10 0] [vR 11 283] mpSA m N := by
  unfold PRJ
  rcases h.ld with ⟨h1, h2⟩ | ⟨h1, h2, r1, r2, r3, T, hT, si⟩
  · refine w125_0 ⟨fun _ => ?_, fun c => absurd h1 c⟩
    refine w283_0 (s275 ?_)
    rw [h2]
    exact ⟨fun _ => ⟨⟨um_eq _ _ _ _, by decide, by decide⟩, CPL_th h⟩, fun c => absurd rfl c⟩
  · have w := si.w
    have a2 := w.nb
    have a4 := w.ns
    obtain ⟨x1, x2⟩ := fin1 h (show m 284 = m 284 from rfl)
    refine w125_0 ⟨fun c => absurd (h1.symm.trans c) n01, fun _ => ?_⟩
    refine s61 w r1 ?_
    have ok := mean_ok w
    refine s171 ok ?_
    refine w283_0 (s275 ?_)
    rw [h2, code0]
    refine ⟨fun c => absurd c n01, fun _ => ?_⟩
    rw [st0 (show m 284 = m 284 from rfl)]
    refine s281 w ?_
    unfold mnOk at ok
    rw [Bool.and_eq_true, decide_eq_true_eq] at ok
    exact ⟨fun _ => ⟨⟨rfl, x1⟩, x2⟩, fun c => absurd ok.2 c⟩

def setLo (k : Nat) : Nat := match k with
  | 0 => 1
  | 2 => 1
  | 4 => 1
  | _ => 0
def setHi (k : Nat) : Nat := match k with
  | 0 => 999
  | 3 => 50
  | 4 => 100
  | _ => 9999
theorem WF_set {k : Nat} {v : Int32} (h : WF g) (hk : k < 6) (hv : inR v (setLo k) (setHi k)) : keeps g (gup g k v) := by
  have a2 := h.nb
  have a4 := h.ns
  have a6 := h.np
  have a9 := h.nl
  have n6 : nBr (gup g k v) = nBr g := nBr_upd (by omega)
  have n7 : nSt (gup g k v) = nSt g := nSt_upd (by omega)
  have n8 : nPl (gup g k v) = nPl g := nPl_upd (by omega)
  have n10 : nL (gup g k v) = nL g := nL_upd (by omega)
  have e : ∀ i, 6 ≤ i → gup g k v i = g i := fun i hi => gup_ne (by omega)
  have ec : carried (gup g k v) = carried g := by
    unfold carried
    rw [n6]
    exact cnt_congr fun b hb => by rw [e _ (by omega)]
  obtain ⟨⟨b1, b2⟩, ⟨b3, b4⟩, ⟨b5, b6⟩, ⟨b7, b8⟩, ⟨c0, c1, c2, c3, c4, c5⟩, q0, q2, q3, q4, q6, qp, ql, qs⟩ := h
  have cs : ∀ j, j < 6 → inR (gup g k v j) (setLo j) (setHi j) := by
    intro j hj
    by_cases ej : j = k
    · subst ej
      rw [gup_eq]; exact hv
    · rw [gup_ne ej]
      match j, hj with
      | 0, _ => exact c0
      | 1, _ => exact c1
      | 2, _ => exact c2
      | 3, _ => exact c3
      | 4, _ => exact c4
      | 5, _ => exact c5
  refine ⟨⟨⟨?_, ?_⟩, ⟨?_, ?_⟩, ⟨?_, ?_⟩, ⟨?_, ?_⟩, ⟨cs 0 (by omega), cs 1 (by omega), cs 2 (by omega), cs 3 (by omega), cs 4 (by omega), cs 5 (by omega)⟩, ?_, ?_, ?_, ?_, ?_, ?_, ?_, ?_⟩, n6, n7, n8⟩
  · rw [n6, e _ (by omega)]; exact b1
  · rw [n6]; exact b2
  · rw [n7, e _ (by omega)]; exact b3
  · rw [n7]; exact b4
  · rw [n8, e _ (by omega)]; exact b5
  · rw [n8]; exact b6
  · rw [n10, e _ (by omega)]; exact b7
  · rw [n10, n6, ec]; exact b8
  · rw [n6]; intro b hb; rw [e _ (by omega)]; exact q0 b hb
  · rw [n6]; intro b hb; rw [e _ (by omega)]; exact q2 b hb
  · rw [n6]; intro b hb; rw [e _ (by omega)]; exact q3 b hb
  · rw [n6]; intro b hb; rw [e _ (by omega)]; exact q4 b hb
  · rw [n6]; intro b hb; rw [e _ (by omega)]; exact q6 b hb
  · rw [n8, n6]; intro j hj
    have ea : aheadG (gup g k v) j = aheadG g j := by unfold aheadG; rw [e _ (by omega)]
    rw [ea, e _ (by omega)]; exact qp j hj
  · rw [n10]; intro j hj; rw [e _ (by omega)]; exact ql j hj
  · rw [n7]; intro s hs
    rw [e _ (by omega), e _ (by omega)]
    obtain ⟨x1, x2, x3⟩ := qs s hs
    exact ⟨x1, x2, fun i hi => by rw [e _ (by omega)]; exact x3 i hi⟩
theorem SI_set {k T N : Nat} {v : Int32} (h : SI g T N) (hk : k < 6) (hv : inR v (setLo k) (setHi k)) : SI (gup g k v) T N := by
  have a2 := h.w.nb
  have a6 := h.w.np
  exact SI_of h (WF_set h.w hk hv) (gup_ne (by omega)) (gup_ne (by omega)) (gup_ne (by omega)) (fun j hj => ⟨gup_ne (by omega), gup_ne (by omega)⟩) (fun c hc => gup_ne (by omega))
theorem RS_set {a k : Nat} {v : Int32} (w : WF g) (r : RS m a g) (hk : k < 6) : RS (um m (a + 1) k v) a (gup g k v) :=
  RS_gup (d0 := 1) w r (lv_se hk) (by omega) (by omega) (by omega)
theorem tkR_13 (w : WF g) {d : Nat} (h : g 13 = n32 d) : ∃ e, e ≤ 12 ∧ tkR g 13 = n32 (d + e) := by
  have k0 : keeps g (gup g 9 (g 9 + n32 1)) := WF_freeN w (Or.inl (Or.inl rfl))
  have e0 : gup g 9 (g 9 + n32 1) 13 = n32 d := by rw [gup_ne (by omega)]; exact h
  unfold tkR tkG
  try dsimp only
  generalize gup g 9 (g 9 + n32 1) = g0 at k0 e0
  have k1 : keeps g0 (plansG g0) := WF_plansG k0.1
  have e1 : plansG g0 13 = n32 d := by
    have b := k0.1.np
    rw [← e0]
    exact plans_at k0.1 _ (Nat.le_refl _) 13 (by omega) (by omega) (by omega) (fun j hj => by omega)
  generalize plansG g0 = g1 at k1 e1
  have k2 : keeps g1 (movesG g1) := WF_movesG k1.1
  have e2 : movesG g1 13 = n32 d := by rw [← e1]; exact moves_at (by omega) _ k1.1.nb
  generalize hbf : (fun b => g1 (15 + 7 * b + 1)) = bf
  generalize movesG g1 = g2 at k2 e2
  have k3 : keeps g2 (weaksG g2) := WF_weaksG k2.1
  have e3 : ∃ e, e ≤ 12 ∧ weaksG g2 13 = n32 (d + e) := by
    have := itr_inv (P := fun i x => keeps g2 x ∧ ∃ e, e ≤ i ∧ x 13 = n32 (d + e)) (f := weakG) (a := g2) (n := nBr g2) ⟨keeps.rf k2.1, 0, Nat.le_refl _, e2⟩ (fun i x hi hx => by
      have hi' : i < nBr x := by rw [hx.1.2.1]; exact hi
      refine ⟨hx.1.tr (WF_weakG hx.1.1 hi'), ?_⟩
      obtain ⟨e, h1, h2⟩ := hx.2
      unfold weakG
      split
      · refine ⟨e + 1, by omega, ?_⟩
        unfold dropG
        rw [gup_ne (by omega), gup_eq, h2, n32_add]; rfl
      · exact ⟨e, by omega, h2⟩)
    obtain ⟨e, h1, h2⟩ := this.2
    exact ⟨e, by have := k2.1.nb; omega, h2⟩
  obtain ⟨e, he, e3⟩ := e3
  refine ⟨e, he, ?_⟩
  generalize weaksG g2 = g3 at k3 e3
  have k4 : keeps g3 (liftsG bf g3) := WF_liftsG k3.1
  have e4 : liftsG bf g3 13 = g3 13 := by
    have := itr_inv (P := fun _ x => keeps g3 x ∧ x 13 = g3 13) (f := liftG bf) (a := g3) (n := nBr g3) ⟨keeps.rf k3.1, rfl⟩ (fun i x hi hx => by
      have hi' : i < nBr x := by rw [hx.1.2.1]; exact hi
      exact ⟨hx.1.tr (WF_liftG hx.1.1 hi'), by rw [liftG_at hx.1.1 hi' (by omega)]; exact hx.2⟩)
    exact this.2
  generalize liftsG bf g3 = g4 at k4 e4
  have e5 : rdsG g4 13 = g4 13 := by
    have := itr_inv (P := fun _ x => keeps g4 x ∧ x 13 = g4 13) (f := rdStep) (a := g4) (n := nSt g4) ⟨keeps.rf k4.1, rfl⟩ (fun i x hi hx => by
      have hi' : i < nSt x := by rw [hx.1.2.2.1]; exact hi
      refine ⟨hx.1.tr (WF_rdStep hx.1.1 hi'), ?_⟩
      rw [← hx.2]
      unfold rdStep
      split
      · rw [gup_ne (by omega)]
      · rfl)
    exact this.2
  rw [e5, e4, e3]
/-- drops only grow -/
theorem tkn_13 {T X : Nat} (si : SI g T X) (hT : T ≤ 5000) {d : Nat} (h : g 13 = n32 d) : ∀ n, n ≤ 4000 → ∃ e, e ≤ 12 * n ∧ tkn g n 13 = n32 (d + e) ∧ ∀ i, i ≤ n → ∃ e', e' ≤ e ∧ tkn g i 13 = n32 (d + e') := by
  intro n
  induction n with
  | zero => intro _; exact ⟨0, by omega, h, fun i hi => ⟨0, by omega, by rw [show i = 0 by omega]; exact h⟩⟩
  | succ n ih =>
    intro hn
    obtain ⟨e, h1, h2, h3⟩ := ih (by omega)
    obtain ⟨e', h4, h5⟩ := tkR_13 (tkn_keeps si hT n (by omega)).1 h2
    rw [← tkn_succ] at h5
    refine ⟨e + e', by omega, by rw [h5, Nat.add_assoc], fun i hi => ?_⟩
    by_cases c : i = n + 1
    · subst c
      exact ⟨e + e', by omega, by rw [h5, Nat.add_assoc]⟩
    · obtain ⟨x, x1, x2⟩ := h3 i (by omega)
      exact ⟨x, by omega, x2⟩
theorem fnd_none {p : Nat → Bool} : ∀ r i, i + r < 2147483648 → (fnd p r i = -(n32 1) ↔ ∀ j, i ≤ j → j < i + r → p j = false) := by
  intro r
  induction r with
  | zero => intro i _; exact ⟨fun _ j h1 h2 => absurd h2 (by omega), fun _ => rfl⟩
  | succ r ih =>
    intro i hi
    rw [fnd_succ]
    by_cases c : p i = true
    · rw [if_pos c]
      refine ⟨fun e => absurd e (n32_nm1 (by omega)), fun e => ?_⟩
      rw [e i (by omega) (by omega)] at c
      cases c
    · rw [if_neg c, ih (i + 1) (by omega)]
      constructor
      · intro e j h1 h2
        by_cases ej : j = i
        · subst ej
          cases hp : p j with
          | true => exact absurd hp c
          | false => rfl
        · exact e j (by omega) (by omega)
      · intro e j h1 h2
        exact e j (by omega) (by omega)
/-- no drop within 100 ticks: however it is asked -/
theorem nodrop {T X : Nat} (si : SI g T X) (hT : T ≤ 5000) (hX : X ≤ 100000) : fnd (pdr g) 100 1 = -(n32 1) ↔ tkn g 100 13 = g 13 := by
  obtain ⟨d, d1, d2⟩ := si.2.2.2.2.2
  obtain ⟨e, h1, h2, h3⟩ := tkn_13 si hT d1 100 (by omega)
  rw [fnd_none 100 1 (by omega), h2, d1]
  constructor
  · intro h
    have := h 100 (by omega) (by omega)
    unfold pdr at this
    have := of_decide_eq_false this
    rw [h2, d1, Decidable.not_not, n32_le (by omega) (by omega)] at this
    rw [show d + e = d by omega]
  · intro h j j1 j2
    have := n32_inj (by omega) (by omega) h
    obtain ⟨e', h4, h5⟩ := h3 j (by omega)
    unfold pdr
    apply decide_eq_false
    rw [h5, d1, Decidable.not_not, show d + e' = d by omega]
    exact n32_rfl d
theorem s164b {L T X : Nat} {Q : Int32 → XM → Prop} (si : SI g T X) (hT : T ≤ 5000) (hL : L ≤ 300) {m0 : XM} (r0 : RS m0 49 (tkn g 0)) (r1 : m 29 2 = g 13) (f0 : FL m m0) (h : ∀ m', FL m m' → Q (fnd (pdr g) L 1) m') : VI (D + 5) 164 [vR 10 0, vI (n32 L)] m0 Q E := by
  have key : ∀ r i m1, i + r = L → RS m1 49 (tkn g i) → FL m m1 → (∀ m', FL m m' → Q (fnd (pdr g) r (i + 1)) m') → VLI (D + 5) 164 1 [(0, vR 10 0), (1, vI (n32 L)), (2, vI (n32 (i + 1)))] [] m1 Q E := by
    intro r
    induction r with
    | zero =>
      intro i m1 hi _ f1 h
      refine w164_1 ⟨fun _ => h m1 f1, fun c => absurd ((n32_lt (by omega) (by omega)).mpr (by omega)) c⟩
    | succ r ih =>
      intro i m1 hi r2 f1 h
      refine w164_1 ⟨fun c => absurd ((n32_lt (by omega) (by omega)).mp c) (by omega), fun _ => ?_⟩
      refine s70l si hT (by omega) r2 ?_
      intro m2 r3 f2
      have f3 := f1.tr f2
      have e29 : m2 29 2 = g 13 := by rw [f3 _ _ (by omega)]; exact r1
      rw [r3.dr, e29]
      rw [fnd_succ] at h
      by_cases c : tkn g (i + 1) 13 ≤ g 13
      · have e : pdr g (i + 1) = false := by unfold pdr; simp only [c, not_true_eq_false, decide_false]
        rw [e, if_neg (by decide)] at h
        refine ⟨fun _ => ?_, fun c' => absurd c c'⟩
        rw [n32_add]
        exact ih (i + 1) m2 (by omega) r3 f3 h
      · have e : pdr g (i + 1) = true := by unfold pdr; simp only [c, not_false_eq_true, decide_true]
        rw [e, if_pos rfl] at h
        exact ⟨fun c' => absurd c' c, fun _ => h m2 f3⟩
  exact w164_0 (key L 0 m0 (by omega) r0 f0 h)
def plr (g : PG) (c : Nat) : Bool := decide (tkn (gup g 3 (n32 c)) 100 13 = g 13)
theorem rest_R {c : Nat} (h : c ≤ 50) : inR (n32 c) (setLo 3) (setHi 3) := ⟨c, Nat.zero_le _, h, rfl⟩
theorem c137 {T X : Nat} {Q : Int32 → XM → Prop} (si : SI g T X) (hT : T ≤ 5000) (hX : X ≤ 100000) (r1 : RS m 29 g) : ∀ r i m1, i + r = 51 → FL m m1 → (∀ m', FL m m' → Q (fnd (plr g) r i) m') → VLI (D + 6) 137 1 [(0, vR 10 0), (1, vI (n32 i))] [] m1 Q E := by
  intro r
  induction r with
  | zero =>
    intro i m1 hi f1 h
    exact w137_1 ⟨fun _ => h m1 f1, fun c => absurd ((n32_lt (by omega) (by omega)).mpr (by omega)) c⟩
  | succ r ih =>
    intro i m1 hi f1 h
    have w := si.w
    have si' := SI_set si (k := 3) (by omega) (rest_R (show i ≤ 50 by omega))
    refine w137_1 ⟨fun c => absurd ((n32_lt (by omega) (by omega)).mp c) (by omega), fun _ => ?_⟩
    refine s68l w (RS_fl f1 r1) ?_
    intro m2 r2 f2
    have f3 := f1.tr f2
    rw [ix_n32 (by omega)]
    have r3 := RS_set (k := 3) (v := n32 i) w r2 (by omega)
    have f4 : FL m (um m2 (49 + 1) 3 (n32 i)) := f3.tr (fun b k hb => um_a (by omega))
    refine s164b (m := m) si' hT (by omega) r3 (by rw [gup_ne (by omega)]; exact r1.dr) f4 ?_
    intro m3 f5
    have nd := nodrop si' hT hX
    rw [gup_ne (show 13 ≠ 3 by omega)] at nd
    rw [fnd_succ] at h
    by_cases c : tkn (gup g 3 (n32 i)) 100 13 = g 13
    · have e : plr g i = true := decide_eq_true c
      rw [e, if_pos rfl] at h
      exact ⟨fun _ => h m3 f5, fun c' => absurd (nd.mpr c) c'⟩
    · have e : plr g i = false := decide_eq_false c
      rw [e, if_neg (by decide)] at h
      refine ⟨fun c' => absurd (nd.mp c') c, fun _ => ?_⟩
      rw [n32_add]
      exact ih (i + 1) m3 (by omega) f5 h
theorem c302 {T X : Nat} {Q : Int32 → XM → Prop} (si : SI g T X) (hT : T ≤ 5000) : ∀ r i m1, i + r = 51 → rfr (asd m g) m1 → (∀ m', rfr (asd m g) m' → Q (fnd (plr g) r i) (smg m' g)) → VLI (D + 7) 302 3 [(0, vR 11 283), (1, vI (n32 i))] [] (smg m1 g) Q E := by
  intro r
  induction r with
  | zero =>
    intro i m1 hi f1 h
    exact w302_3 ⟨fun _ => h m1 f1, fun c => absurd ((n32_lt (by omega) (by omega)).mpr (by omega)) c⟩
  | succ r ih =>
    intro i m1 hi f1 h
    have si' := SI_set si (k := 3) (by omega) (rest_R (show i ≤ 50 by omega))
    refine w302_3 ⟨fun c => absurd ((n32_lt (by omega) (by omega)).mp c) (by omega), fun _ => ?_⟩
    rw [ix_n32 (show 3 < 2147483648 by omega), um_smg]
    refine s229 si' hT (by omega) ?_
    intro m2 f2
    have f3 := f1.tr f2
    have e13 : smg m2 (tkn (gup g 3 (n32 i)) 100) 285 13 = g 13 := by rw [smg_ne (by omega)]; exact asd_at f3 13 (by omega)
    have hi' : ∀ k, 243 ≤ k → tkn (gup g 3 (n32 i)) 100 k = g k := fun k hk => by rw [tkn_hi si' hT hk 100 (by omega), gup_ne (by omega)]
    simp (disch := omega) only [smg_at, ix_n32, e13]
    rw [fnd_succ] at h
    by_cases c : tkn (gup g 3 (n32 i)) 100 13 = g 13
    · have e : plr g i = true := decide_eq_true c
      rw [e, if_pos rfl] at h
      exact ⟨fun _ => s285 (asd_at f3) hi' (h m2 f3), fun c' => absurd c c'⟩
    · have e : plr g i = false := decide_eq_false c
      rw [e, if_neg (by decide)] at h
      refine ⟨fun c' => absurd c' c, fun _ => s285 (asd_at f3) hi' ?_⟩
      rw [n32_add]
      exact ih (i + 1) m2 (by omega) f3 h
theorem p_leastRest {N : Nat} (h : CPL m N) (hN : N ≤ 1000) : PRI (D + 12) 137 302 [vR 10 0] [vR 11 283] mpSA m N := by
  unfold PRI
  rcases h.ld with ⟨h1, h2⟩ | ⟨h1, h2, r1, r2, r3, T, hT, si⟩
  · refine w137_0 ⟨fun _ => ?_, fun c => absurd h1 c⟩
    refine w302_0 (s275 ?_)
    rw [h2]
    exact ⟨fun _ => ⟨⟨um_eq _ _ _ _, by decide, by decide⟩, CPL_th h⟩, fun c => absurd rfl c⟩
  · have w := si.w
    have a2 := w.nb
    have a4 := w.ns
    obtain ⟨x1, x2⟩ := fin1 h (show m 284 = m 284 from rfl)
    refine w137_0 ⟨fun c => absurd (h1.symm.trans c) n01, fun _ => ?_⟩
    refine c137 (m := m) si hT (by omega) r1 51 0 m (by omega) (fun _ _ _ => rfl) ?_
    intro m1 fl
    have f := QF_fl fl
    have hc : CPL m1 N := CPL_fr h (Nat.le_refl _) f
    have hg : m1 284 = m 284 := funext fun k => f _ _ (by unfold REL; omega)
    have h2' : m1 283 6 = n32 1 := by rw [f _ _ (by unfold REL; omega)]; exact h2
    refine w302_0 (s275 ?_)
    rw [h2', code0]
    refine ⟨fun c => absurd c n01, fun _ => ?_⟩
    rw [st0 hg]
    refine s284 (c302 si hT 51 0 _ (by omega) (rfr.rf _) ?_)
    intro m2 f2
    obtain ⟨z1, z2⟩ := finA hc hg ((asd_rfa _ _).tr f2.a)
    exact ⟨⟨rfl, z1⟩, z2⟩

end S90
