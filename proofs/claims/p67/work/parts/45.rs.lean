/-! A State of the component at an address, and the picture that it holds. -/
def lvn (nb nl np d k i : Nat) : Prop :=
  (d = 0 ∧ ((k = 0 ∧ i = 9) ∨ (k = 1 ∧ i = 11) ∨ (k = 2 ∧ i = 13) ∨ (k = 3 ∧ i = 14))) ∨ (d = 1 ∧ k < 6 ∧ i = k) ∨ (k = 0 ∧ ((d = 3 ∧ i = 6) ∨ (d = 12 ∧ i = 10) ∨ (d = 16 ∧ i = 8))) ∨
  (k < nb ∧ ((d = 4 ∧ i = 15 + 7 * k + 6) ∨ (d = 5 ∧ i = 15 + 7 * k + 2) ∨ (d = 6 ∧ i = 15 + 7 * k + 3) ∨ (d = 7 ∧ i = 15 + 7 * k + 4) ∨ (d = 8 ∧ i = 15 + 7 * k) ∨ (d = 9 ∧ i = 15 + 7 * k + 1) ∨ (d = 11 ∧ i = 15 + 7 * k + 5))) ∨
  (k < nl ∧ ((d = 13 ∧ i = 207 + 3 * k) ∨ (d = 14 ∧ i = 207 + 3 * k + 1) ∨ (d = 15 ∧ i = 207 + 3 * k + 2))) ∨
  (k < np ∧ ((d = 17 ∧ i = 171 + 3 * k) ∨ (d = 18 ∧ i = 171 + 3 * k + 1) ∨ (d = 19 ∧ i = 171 + 3 * k + 2)))
theorem lv_tm {nb nl np : Nat} : lvn nb nl np 0 0 9 := Or.inl (⟨rfl, Or.inl (⟨rfl, rfl⟩)⟩)
theorem lv_sw {nb nl np : Nat} : lvn nb nl np 0 1 11 := Or.inl (⟨rfl, Or.inr (Or.inl (⟨rfl, rfl⟩))⟩)
theorem lv_dr {nb nl np : Nat} : lvn nb nl np 0 2 13 := Or.inl (⟨rfl, Or.inr (Or.inr (Or.inl (⟨rfl, rfl⟩)))⟩)
theorem lv_pk {nb nl np : Nat} : lvn nb nl np 0 3 14 := Or.inl (⟨rfl, Or.inr (Or.inr (Or.inr (⟨rfl, rfl⟩)))⟩)
theorem lv_se {nb nl np k : Nat} (h : k < 6) : lvn nb nl np 1 k k := Or.inr (Or.inl (⟨rfl, h, rfl⟩))
theorem lv_nb {nb nl np : Nat} : lvn nb nl np 3 0 6 := Or.inr (Or.inr (Or.inl (⟨rfl, Or.inl (⟨rfl, rfl⟩)⟩)))
theorem lv_nl {nb nl np : Nat} : lvn nb nl np 12 0 10 := Or.inr (Or.inr (Or.inl (⟨rfl, Or.inr (Or.inl (⟨rfl, rfl⟩))⟩)))
theorem lv_np {nb nl np : Nat} : lvn nb nl np 16 0 8 := Or.inr (Or.inr (Or.inl (⟨rfl, Or.inr (Or.inr (⟨rfl, rfl⟩))⟩)))
theorem lv_own {nb nl np k : Nat} (h : k < nb) : lvn nb nl np 4 k (15 + 7 * k + 6) := Or.inr (Or.inr (Or.inr (Or.inl (⟨h, Or.inl (⟨rfl, rfl⟩)⟩))))
theorem lv_step {nb nl np k : Nat} (h : k < nb) : lvn nb nl np 5 k (15 + 7 * k + 2) := Or.inr (Or.inr (Or.inr (Or.inl (⟨h, Or.inr (Or.inl (⟨rfl, rfl⟩))⟩))))
theorem lv_lag {nb nl np k : Nat} (h : k < nb) : lvn nb nl np 6 k (15 + 7 * k + 3) := Or.inr (Or.inr (Or.inr (Or.inl (⟨h, Or.inr (Or.inr (Or.inl (⟨rfl, rfl⟩)))⟩))))
theorem lv_str {nb nl np k : Nat} (h : k < nb) : lvn nb nl np 7 k (15 + 7 * k + 4) := Or.inr (Or.inr (Or.inr (Or.inl (⟨h, Or.inr (Or.inr (Or.inr (Or.inl (⟨rfl, rfl⟩))))⟩))))
theorem lv_ban {nb nl np k : Nat} (h : k < nb) : lvn nb nl np 8 k (15 + 7 * k) := Or.inr (Or.inr (Or.inr (Or.inl (⟨h, Or.inr (Or.inr (Or.inr (Or.inr (Or.inl (⟨rfl, rfl⟩)))))⟩))))
theorem lv_pla {nb nl np k : Nat} (h : k < nb) : lvn nb nl np 9 k (15 + 7 * k + 1) := Or.inr (Or.inr (Or.inr (Or.inl (⟨h, Or.inr (Or.inr (Or.inr (Or.inr (Or.inr (Or.inl (⟨rfl, rfl⟩))))))⟩))))
theorem lv_mov {nb nl np k : Nat} (h : k < nb) : lvn nb nl np 11 k (15 + 7 * k + 5) := Or.inr (Or.inr (Or.inr (Or.inl (⟨h, Or.inr (Or.inr (Or.inr (Or.inr (Or.inr (Or.inr (⟨rfl, rfl⟩))))))⟩))))
theorem lv_ll {nb nl np k : Nat} (h : k < nl) : lvn nb nl np 13 k (207 + 3 * k) := Or.inr (Or.inr (Or.inr (Or.inr (Or.inl (⟨h, Or.inl (⟨rfl, rfl⟩)⟩)))))
theorem lv_lp {nb nl np k : Nat} (h : k < nl) : lvn nb nl np 14 k (207 + 3 * k + 1) := Or.inr (Or.inr (Or.inr (Or.inr (Or.inl (⟨h, Or.inr (Or.inl (⟨rfl, rfl⟩))⟩)))))
theorem lv_lti {nb nl np k : Nat} (h : k < nl) : lvn nb nl np 15 k (207 + 3 * k + 2) := Or.inr (Or.inr (Or.inr (Or.inr (Or.inl (⟨h, Or.inr (Or.inr (⟨rfl, rfl⟩))⟩)))))
theorem lv_pt {nb nl np k : Nat} (h : k < np) : lvn nb nl np 17 k (171 + 3 * k) := Or.inr (Or.inr (Or.inr (Or.inr (Or.inr (⟨h, Or.inl (⟨rfl, rfl⟩)⟩)))))
theorem lv_pa {nb nl np k : Nat} (h : k < np) : lvn nb nl np 18 k (171 + 3 * k + 1) := Or.inr (Or.inr (Or.inr (Or.inr (Or.inr (⟨h, Or.inr (Or.inl (⟨rfl, rfl⟩))⟩)))))
theorem lv_po {nb nl np k : Nat} (h : k < np) : lvn nb nl np 19 k (171 + 3 * k + 2) := Or.inr (Or.inr (Or.inr (Or.inr (Or.inr (⟨h, Or.inr (Or.inr (⟨rfl, rfl⟩))⟩)))))
theorem lvn_up {nb nl np nb' nl' np' d k i : Nat} (h : lvn nb nl np d k i) (h1 : nb ≤ nb') (h2 : nl ≤ nl') (h3 : np ≤ np') : lvn nb' nl' np' d k i := by
  rcases h with h | h | h | h | h | h
  · exact Or.inl h
  · exact Or.inr (Or.inl h)
  · exact Or.inr (Or.inr (Or.inl h))
  · exact Or.inr (Or.inr (Or.inr (Or.inl ⟨Nat.lt_of_lt_of_le h.1 h1, h.2⟩)))
  · exact Or.inr (Or.inr (Or.inr (Or.inr (Or.inl ⟨Nat.lt_of_lt_of_le h.1 h2, h.2⟩))))
  · exact Or.inr (Or.inr (Or.inr (Or.inr (Or.inr ⟨Nat.lt_of_lt_of_le h.1 h3, h.2⟩))))
/-- from a cell to its place in the picture, and back -/
def fwd (d k : Nat) : Nat := match d with
  | 0 => [9, 11, 13, 14].getD k 0
  | 1 => k
  | 3 => 6
  | 12 => 10
  | 16 => 8
  | 4 => 15 + 7 * k + 6
  | 5 => 15 + 7 * k + 2
  | 6 => 15 + 7 * k + 3
  | 7 => 15 + 7 * k + 4
  | 8 => 15 + 7 * k
  | 9 => 15 + 7 * k + 1
  | 11 => 15 + 7 * k + 5
  | 13 => 207 + 3 * k
  | 14 => 207 + 3 * k + 1
  | 15 => 207 + 3 * k + 2
  | 17 => 171 + 3 * k
  | 18 => 171 + 3 * k + 1
  | 19 => 171 + 3 * k + 2
  | _ => 0
def bwd (i : Nat) : Nat × Nat := if i < 15 then ([1, 1, 1, 1, 1, 1, 3, 99, 16, 0, 12, 0, 99, 0, 0].getD i 0, [0, 1, 2, 3, 4, 5, 0, 0, 0, 0, 0, 1, 0, 2, 3].getD i 0) else if i < 99 then ([8, 9, 5, 6, 7, 11, 4].getD ((i - 15) % 7) 0, (i - 15) / 7) else if i < 207 then (17 + (i - 171) % 3, (i - 171) / 3) else (13 + (i - 207) % 3, (i - 207) / 3)
theorem bwd_b {k w : Nat} (hk : k < 12) (hw : w < 7) : bwd (15 + 7 * k + w) = ([8, 9, 5, 6, 7, 11, 4].getD w 0, k) := by
  unfold bwd
  rw [if_neg (by omega), if_pos (by omega), show (15 + 7 * k + w - 15) % 7 = w by omega, show (15 + 7 * k + w - 15) / 7 = k by omega]
theorem bwd_p {k w : Nat} (hk : k < 12) (hw : w < 3) : bwd (171 + 3 * k + w) = (17 + w, k) := by
  unfold bwd
  rw [if_neg (by omega), if_neg (by omega), if_pos (by omega), show (171 + 3 * k + w - 171) % 3 = w by omega, show (171 + 3 * k + w - 171) / 3 = k by omega]
theorem bwd_l {k w : Nat} (hk : k < 12) (hw : w < 3) : bwd (207 + 3 * k + w) = (13 + w, k) := by
  unfold bwd
  rw [if_neg (by omega), if_neg (by omega), if_neg (by omega), show (207 + 3 * k + w - 207) % 3 = w by omega, show (207 + 3 * k + w - 207) / 3 = k by omega]
theorem bwd_s : ∀ k, k < 6 → bwd k = (1, k) := by decide
theorem lvn_fb {d k i : Nat} (h : lvn 12 12 12 d k i) : fwd d k = i ∧ bwd i = (d, k) := by
  rcases h with ⟨rfl, ⟨rfl, rfl⟩ | ⟨rfl, rfl⟩ | ⟨rfl, rfl⟩ | ⟨rfl, rfl⟩⟩ | ⟨rfl, h, rfl⟩ | ⟨rfl, ⟨rfl, rfl⟩ | ⟨rfl, rfl⟩ | ⟨rfl, rfl⟩⟩ | ⟨h, ⟨rfl, rfl⟩ | ⟨rfl, rfl⟩ | ⟨rfl, rfl⟩ | ⟨rfl, rfl⟩ | ⟨rfl, rfl⟩ | ⟨rfl, rfl⟩ | ⟨rfl, rfl⟩⟩ | ⟨h, ⟨rfl, rfl⟩ | ⟨rfl, rfl⟩ | ⟨rfl, rfl⟩⟩ | ⟨h, ⟨rfl, rfl⟩ | ⟨rfl, rfl⟩ | ⟨rfl, rfl⟩⟩
  · exact ⟨rfl, rfl⟩
  · exact ⟨rfl, rfl⟩
  · exact ⟨rfl, rfl⟩
  · exact ⟨rfl, rfl⟩
  · exact ⟨rfl, bwd_s _ h⟩
  · exact ⟨rfl, rfl⟩
  · exact ⟨rfl, rfl⟩
  · exact ⟨rfl, rfl⟩
  · exact ⟨rfl, bwd_b h (by omega)⟩
  · exact ⟨rfl, bwd_b h (by omega)⟩
  · exact ⟨rfl, bwd_b h (by omega)⟩
  · exact ⟨rfl, bwd_b h (by omega)⟩
  · exact ⟨rfl, bwd_b (w := 0) h (by omega)⟩
  · exact ⟨rfl, bwd_b h (by omega)⟩
  · exact ⟨rfl, bwd_b h (by omega)⟩
  · exact ⟨rfl, bwd_l (w := 0) h (by omega)⟩
  · exact ⟨rfl, bwd_l h (by omega)⟩
  · exact ⟨rfl, bwd_l h (by omega)⟩
  · exact ⟨rfl, bwd_p (w := 0) h (by omega)⟩
  · exact ⟨rfl, bwd_p h (by omega)⟩
  · exact ⟨rfl, bwd_p h (by omega)⟩
theorem lvn_inj {d k d' k' i : Nat} (h : lvn 12 12 12 d k i) (h' : lvn 12 12 12 d' k' i) : d = d' ∧ k = k' := by
  have e := (lvn_fb h).2.symm.trans (lvn_fb h').2
  exact ⟨congrArg Prod.fst e, congrArg Prod.snd e⟩
theorem lvn_fun {d k i i' : Nat} (h : lvn 12 12 12 d k i) (h' : lvn 12 12 12 d k i') : i = i' := (lvn_fb h).1.symm.trans (lvn_fb h').1
theorem lvn_d {nb nl np d k i : Nat} (h : lvn nb nl np d k i) : d < 20 ∧ d ≠ 2 ∧ d ≠ 10 := by
  rcases h with h | h | h | h | h | h <;> omega
theorem lvn_i {nb nl np d k i : Nat} (h : lvn nb nl np d k i) (h1 : nb ≤ 12) : i ≠ 12 ∧ i ≠ 7 ∧ ¬ (99 ≤ i ∧ i < 171) := by
  rcases h with h | h | h | h | h | h <;> omega
def RSn (m : XM) (a : Nat) (g : PG) (nb nl np : Nat) : Prop := ∀ d k i, lvn nb nl np d k i → m (a + d) k = g i
def RS (m : XM) (a : Nat) (g : PG) : Prop := RSn m a g (nBr g) (nL g) (nPl g)
theorem RSn_gup {m : XM} {a : Nat} {g : PG} {nb nl np d0 k0 i0 : Nat} {v : Int32} (h : RSn m a g nb nl np) (h1 : nb ≤ 12) (h2 : nl ≤ 12) (h3 : np ≤ 12) (hc : lvn 12 12 12 d0 k0 i0) : RSn (um m (a + d0) k0 v) a (gup g i0 v) nb nl np := by
  intro d k i hl
  have hl' := lvn_up hl h1 h2 h3
  by_cases e : i = i0
  · subst e
    obtain ⟨rfl, rfl⟩ := lvn_inj hl' hc
    rw [um_eq, gup_eq]
  · rw [gup_ne e]
    have : ¬ (a + d = a + d0 ∧ k = k0) := by
      rintro ⟨e1, e2⟩
      have e1 : d = d0 := by omega
      subst e1; subst e2
      exact e (lvn_fun hl' hc)
    unfold um
    rw [if_neg this]
    exact h d k i hl
theorem RSn_um {m : XM} {a : Nat} {g : PG} {nb nl np b k0 : Nat} {v : Int32} (h : RSn m a g nb nl np) (hb : b < a ∨ a + 20 ≤ b ∨ b = a + 2 ∨ b = a + 10) : RSn (um m b k0 v) a g nb nl np := by
  intro d k i hl
  have hd := lvn_d hl
  have : a + d ≠ b := by omega
  rw [um_a this]
  exact h d k i hl
theorem RSn_ign {m : XM} {a : Nat} {g : PG} {nb nl np i0 : Nat} {v : Int32} (h : RSn m a g nb nl np) (h1 : nb ≤ 12) (h2 : nl ≤ 12) (h3 : np ≤ 12) (hi : i0 = 12 ∨ (99 ≤ i0 ∧ i0 < 171) ∨ i0 = 7) : RSn m a (gup g i0 v) nb nl np := by
  intro d k i hl
  have hd := lvn_i hl h1
  have : i ≠ i0 := by omega
  rw [gup_ne this]
  exact h d k i hl
/-- nothing changes outside the State at a, nor in its two rows that a tick's steps don't touch -/
def FR (a : Nat) (m m' : XM) : Prop := ∀ b k, (b < a ∨ a + 20 ≤ b ∨ b = a + 2 ∨ b = a + 10) → m' b k = m b k
theorem FR.rf (a : Nat) (m : XM) : FR a m m := fun _ _ _ => rfl
theorem FR.tr {a : Nat} {m1 m2 m3 : XM} (h1 : FR a m1 m2) (h2 : FR a m2 m3) : FR a m1 m3 := fun b k hb => (h2 b k hb).trans (h1 b k hb)
theorem FR_um {a d k : Nat} (m : XM) (v : Int32) (hd : d < 20 ∧ d ≠ 2 ∧ d ≠ 10) : FR a m (um m (a + d) k v) := fun b j hb => um_a (by omega)
section RSR
variable {m : XM} {a : Nat} {g : PG} (r : RS m a g)
theorem RS.tm (r : RS m a g) : m a 0 = g 9 := r 0 0 9 (lv_tm)
theorem RS.sw (r : RS m a g) : m a 1 = g 11 := r 0 1 11 (lv_sw)
theorem RS.dr (r : RS m a g) : m a 2 = g 13 := r 0 2 13 (lv_dr)
theorem RS.pk (r : RS m a g) : m a 3 = g 14 := r 0 3 14 (lv_pk)
theorem RS.se (r : RS m a g) {k : Nat} (h : k < 6) : m (a + 1) k = g k := r 1 k k (lv_se h)
theorem RS.nb (r : RS m a g) : m (a + 3) 0 = g 6 := r 3 0 6 (lv_nb)
theorem RS.nl (r : RS m a g) : m (a + 12) 0 = g 10 := r 12 0 10 (lv_nl)
theorem RS.np (r : RS m a g) : m (a + 16) 0 = g 8 := r 16 0 8 (lv_np)
theorem RS.own (r : RS m a g) {b : Nat} (h : b < nBr g) : m (a + 3 + 1) b = g (15 + 7 * b + 6) := r 4 b _ (lv_own h)
theorem RS.step (r : RS m a g) {b : Nat} (h : b < nBr g) : m (a + 3 + 2) b = g (15 + 7 * b + 2) := r 5 b _ (lv_step h)
theorem RS.lag (r : RS m a g) {b : Nat} (h : b < nBr g) : m (a + 3 + 3) b = g (15 + 7 * b + 3) := r 6 b _ (lv_lag h)
theorem RS.str (r : RS m a g) {b : Nat} (h : b < nBr g) : m (a + 3 + 4) b = g (15 + 7 * b + 4) := r 7 b _ (lv_str h)
theorem RS.ban (r : RS m a g) {b : Nat} (h : b < nBr g) : m (a + 3 + 5) b = g (15 + 7 * b) := r 8 b _ (lv_ban h)
theorem RS.pla (r : RS m a g) {b : Nat} (h : b < nBr g) : m (a + 3 + 6) b = g (15 + 7 * b + 1) := r 9 b _ (lv_pla h)
theorem RS.mov (r : RS m a g) {b : Nat} (h : b < nBr g) : m (a + 3 + 8) b = g (15 + 7 * b + 5) := r 11 b _ (lv_mov h)
theorem RS.ll (r : RS m a g) {k : Nat} (h : k < nL g) : m (a + 12 + 1) k = g (207 + 3 * k) := r 13 k _ (lv_ll h)
theorem RS.lp (r : RS m a g) {k : Nat} (h : k < nL g) : m (a + 12 + 2) k = g (207 + 3 * k + 1) := r 14 k _ (lv_lp h)
theorem RS.lt (r : RS m a g) {k : Nat} (h : k < nL g) : m (a + 12 + 3) k = g (207 + 3 * k + 2) := r 15 k _ (lv_lti h)
theorem RS.pt (r : RS m a g) {k : Nat} (h : k < nPl g) : m (a + 16 + 1) k = g (171 + 3 * k) := r 17 k _ (lv_pt h)
theorem RS.pa (r : RS m a g) {k : Nat} (h : k < nPl g) : m (a + 16 + 2) k = g (171 + 3 * k + 1) := r 18 k _ (lv_pa h)
theorem RS.po (r : RS m a g) {k : Nat} (h : k < nPl g) : m (a + 16 + 3) k = g (171 + 3 * k + 2) := r 19 k _ (lv_po h)
end RSR
theorem RS_gup {m : XM} {a : Nat} {g : PG} {d0 k0 i0 : Nat} {v : Int32} (w : WF g) (h : RS m a g) (hc : lvn (nBr g) (nL g) (nPl g) d0 k0 i0) (h6 : i0 ≠ 6) (h8 : i0 ≠ 8) (h10 : i0 ≠ 10) : RS (um m (a + d0) k0 v) a (gup g i0 v) := by
  have b1 := w.nb
  have b2 := w.nl
  have b3 := w.np
  unfold RS
  rw [nBr_upd (Ne.symm h6), nL_upd (Ne.symm h10), nPl_upd (Ne.symm h8)]
  exact RSn_gup h b1 (by omega) b3 (lvn_up hc b1 (by omega) b3)
theorem RS_str {m : XM} {a b : Nat} {g : PG} {v : Int32} (w : WF g) (h : RS m a g) (hb : b < nBr g) : RS (um m (a + 3 + 4) b (imax (n32 0) (imin (n32 100) (m (a + 3 + 4) b + v)))) a (strG g b v) := by
  rw [h.str hb]
  exact RS_gup (d0 := 7) w h (lv_str hb) (by omega) (by omega) (by omega)
theorem lt1 {x : Int32} : (x < n32 1) = (x ≤ n32 0) := by
  apply propext
  rw [Int32.lt_iff_toInt_lt, Int32.le_iff_toInt_le, n32_toInt (by omega), n32_toInt (by omega)]; omega
section CT
variable {D : Nat} {m : XM} {E : Nat → XM → Prop}
theorem s50 {a b : Nat} {x y : Int32} {Q : Int32 → XM → Prop} (hb : b < 12) (hx : m (a + 2) b = x) (hy : m (a + 4) b = y) (rx : inR x 0 200) (ry : inR y 0 100) (h : Q (stride x y) m) : VI D 50 [vR 7 a, vI (n32 b)] m Q E := by
  refine w50_0 ?_
  simp (disch := omega) only [xin_t, ix_n32, hx, hy, true_and]
  obtain ⟨h1, h2, -⟩ := stride_ok rx ry
  exact ⟨h1, h2, h⟩
theorem s52 {a b : Nat} {v : Int32} {Q : XM → Prop} (hb : b < 12) (h : Q (um m (a + 4) b (imax (n32 0) (imin (n32 100) (m (a + 4) b + v))))) : VU (D + 1) 52 [vR 7 a, vI (n32 b), vI v] m Q E := by
  refine w52_0 ?_
  simp (disch := omega) only [xin_t, ix_n32, true_and]
  exact s386 (s385 h)
theorem s74 {a b : Nat} {g : PG} {Q : Int32 → XM → Prop} (w : WF g) (r : RS m a g) (hb : b + 1 < nBr g) (h : Q (if mayG g b = true then n32 1 else n32 0) m) : VI (D + 1) 74 [vR 8 a, vI (n32 b)] m Q E := by
  have a2 := w.nb
  have h6 : m (a + 3) 0 = n32 (nBr g) := by rw [r.nb]; exact w.1.1
  have e1 := r.str (b := b) (by omega)
  have e2 := r.str hb
  have e3 := r.pla (b := b) (by omega)
  have e4 := r.pla hb
  have e5 := r.se (k := 5) (by omega)
  refine w74_0 ?_
  simp (disch := omega) only [n32_add, n32_sub, Nat.add_sub_cancel, xin_t, ix_n32, h6, e1, e2, e3, e4, e5, lt1, lt_f, le_f, le_t, false_implies, true_implies, not_false_eq_true, not_true_eq_false, true_and]
  unfold mayG at h
  by_cases c1 : g 5 < g (15 + 7 * b + 1) - g (15 + 7 * (b + 1) + 1) <;> by_cases c2 : g (15 + 7 * b + 4) ≤ n32 0 <;> by_cases c3 : g (15 + 7 * (b + 1) + 4) ≤ n32 0 <;>
    simp only [c1, c2, c3, decide_true, decide_false, not_true_eq_false, not_false_eq_true, Bool.and_true, Bool.true_and, Bool.and_false, Bool.false_and, if_true, if_false, false_implies, true_implies, and_true, true_and, Bool.false_eq_true] at h ⊢ <;> exact h
theorem s75 {a b : Nat} {g : PG} {Q : XM → Prop} (w : WF g) (r : RS m a g) (hb : b + 1 < nBr g) (h : ∀ m', RS m' a (swapsG g b) → FR a m m' → Q m') : VU (D + 2) 75 [vR 8 a, vI (n32 b)] m Q E := by
  have a2 := w.nb
  have h6 : m (a + 3) 0 = n32 (nBr g) := by rw [r.nb]; exact w.1.1
  have e1 := r.ban (b := b) (by omega)
  have e2 := r.ban hb
  refine w75_0 ?_
  simp (disch := omega) only [n32_add, xin_t, ix_n32, h6, e1, e2, lt_f, lt_t, false_implies, true_implies, not_false_eq_true, not_true_eq_false, true_and, and_true]
  have r1 : RS (um m (a + 3 + 5) b (g (15 + 7 * (b + 1)))) a (gup g (15 + 7 * b) (g (15 + 7 * (b + 1)))) := RS_gup (d0 := 8) w r (lv_ban (by omega)) (by omega) (by omega) (by omega)
  have n1 : nBr (gup g (15 + 7 * b) (g (15 + 7 * (b + 1)))) = nBr g := nBr_upd (by omega)
  have n2 : nL (gup g (15 + 7 * b) (g (15 + 7 * (b + 1)))) = nL g := nL_upd (by omega)
  have n3 : nPl (gup g (15 + 7 * b) (g (15 + 7 * (b + 1)))) = nPl g := nPl_upd (by omega)
  have k2 : keeps g (exchG g b) := WF_exchG w hb
  have r2 : RS (um (um m (a + 3 + 5) b (g (15 + 7 * (b + 1)))) (a + 3 + 5) (b + 1) (g (15 + 7 * b))) a (exchG g b) := by
    have b2 := w.nl
    have b3 := w.np
    unfold RS at r1 ⊢
    have n2' : nL (exchG g b) = nL g := by unfold exchG; rw [nL_upd (by omega), nL_upd (by omega)]
    rw [n1, n2, n3] at r1
    rw [k2.2.1, n2', k2.2.2.2]
    exact RSn_gup (d0 := 8) r1 (by omega) (by omega) b3 (lv_ban (by omega))
  generalize hm2 : um (um m (a + 3 + 5) b (g (15 + 7 * (b + 1)))) (a + 3 + 5) (b + 1) (g (15 + 7 * b)) = m2 at r2
  have f2 : FR a m m2 := by
    rw [← hm2]
    exact (FR_um (d := 8) m _ (by omega)).tr (FR_um (d := 8) _ _ (by omega))
  unfold swapsG at h
  generalize exchG g b = g2 at k2 r2 h
  have k3 : keeps g2 (strG g2 b (-(n32 2))) := WF_strG k2.1 (by rw [k2.2.1]; omega)
  have r3 := RS_str (v := -(n32 2)) k2.1 r2 (b := b) (by rw [k2.2.1]; omega)
  refine s52 (by omega) ?_
  have f3 : FR a m2 (um m2 (a + 3 + 4) b (imax (n32 0) (imin (n32 100) (m2 (a + 3 + 4) b + -(n32 2))))) := FR_um (d := 7) _ _ (by omega)
  generalize um m2 (a + 3 + 4) b (imax (n32 0) (imin (n32 100) (m2 (a + 3 + 4) b + -(n32 2)))) = m3 at r3 f3
  generalize strG g2 b (-(n32 2)) = g3 at k3 r3 h
  have k4 : keeps g3 (strG g3 (b + 1) (-(n32 2))) := WF_strG k3.1 (by rw [k3.2.1, k2.2.1]; omega)
  have r4 := RS_str (v := -(n32 2)) k3.1 r3 (b := b + 1) (by rw [k3.2.1, k2.2.1]; omega)
  refine s52 (by omega) ?_
  have f4 : FR a m3 (um m3 (a + 3 + 4) (b + 1) (imax (n32 0) (imin (n32 100) (m3 (a + 3 + 4) (b + 1) + -(n32 2))))) := FR_um (d := 7) _ _ (by omega)
  generalize um m3 (a + 3 + 4) (b + 1) (imax (n32 0) (imin (n32 100) (m3 (a + 3 + 4) (b + 1) + -(n32 2)))) = m4 at r4 f4
  generalize strG g3 (b + 1) (-(n32 2)) = g4 at k4 r4 h
  rw [r4.sw]
  exact h _ (RS_gup (d0 := 0) k4.1 r4 lv_sw (by omega) (by omega) (by omega)) (((f2.tr f3).tr f4).tr (FR_um (d := 0) _ _ (by omega)))
end CT

