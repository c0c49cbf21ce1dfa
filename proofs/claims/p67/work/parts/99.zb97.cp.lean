/-! The component parses. -/
/-- nothing changes but the parser's own parade, its token and its fault -/
def FPA (m m' : XM) : Prop := ∀ b k, ¬ (4 ≤ b ∧ b ≤ 28) → ¬ (b = 2 ∧ 3 ≤ k ∧ k ≤ 6) → ¬ (b = 1 ∧ (k = 3 ∨ k = 4)) → m' b k = m b k
theorem FPA.rf (m : XM) : FPA m m := fun _ _ _ _ _ => rfl
theorem FPA.tr {m1 m2 m3 : XM} (h1 : FPA m1 m2) (h2 : FPA m2 m3) : FPA m1 m3 := fun b k c1 c2 c3 => (h2 b k c1 c2 c3).trans (h1 b k c1 c2 c3)
def FPS (m m' : XM) : Prop := ∀ b k, ¬ (4 ≤ b ∧ b ≤ 28) → ¬ (b = 2 ∧ 3 ≤ k ∧ k ≤ 6) → m' b k = m b k
theorem FPS.rf (m : XM) : FPS m m := fun _ _ _ _ => rfl
theorem FPS.tr {m1 m2 m3 : XM} (h1 : FPS m1 m2) (h2 : FPS m2 m3) : FPS m1 m3 := fun b k c1 c2 => (h2 b k c1 c2).trans (h1 b k c1 c2)
theorem FPS.pa {m m' : XM} (h : FPS m m') : FPA m m' := fun b k c1 c2 _ => h b k c1 c2
theorem FT.ps {m m' : XM} (h : FT m m') : FPS m m' := fun b k _ c2 => h b k c2
theorem FT.pa {m m' : XM} (h : FT m m') : FPA m m' := fun b k _ c2 _ => h b k c2
theorem HB.pa {m m' : XM} {bf : BF} {n : Nat} (h : HB m bf n) (f : FPA m m') : HB m' bf n :=
  ⟨h.1, by rw [f _ _ (by omega) (by omega) (by omega)]; exact h.2.1, fun i hi => ⟨(h.2.2 i hi).1, by rw [f _ _ (by omega) (by omega) (by omega)]; exact (h.2.2 i hi).2⟩⟩
def CER (m : XM) (e : Nat × Nat) : Prop := m 1 3 = n32 e.1 ∧ m 1 4 = n32 e.2
def CST (m : XM) (g : PG) : Prop := RS m 4 g ∧ (∀ s, s < 6 → m 6 s = -(n32 1)) ∧ RT m 24 g
theorem CST.eq {m m' : XM} {g : PG} (h : CST m g) (f : ∀ b k, 4 ≤ b → b ≤ 28 → m' b k = m b k) : CST m' g :=
  ⟨RS_eq h.1 (fun d k hd _ _ => f _ _ (by omega) (by omega)), fun s hs => by rw [f _ _ (by omega) (by omega)]; exact h.2.1 s hs, RT_eq h.2.2 (fun d k hd => f _ _ (by omega) (by omega))⟩
theorem CST.ft {m m' : XM} {g : PG} (h : CST m g) (f : FT m m') : CST m' g := h.eq (fun b k h1 h2 => f b k (by omega))
def CRES (m : XM) (Q : Int32 → XM → Prop) (r : PRS) : Prop := (∀ e, r = Sum.inl e → ∀ m', CER m' e → FPA m m' → Q (n32 0) m') ∧ (∀ q, r = Sum.inr q → ∀ m', CST m' q.1 → TC m' q.2 → FPS m m' → Q (n32 1) m')
theorem CRES.sh {m m1 : XM} {Q : Int32 → XM → Prop} {r : PRS} (h : CRES m Q r) (f : FPS m m1) : CRES m1 Q r := ⟨fun e he m' c f' => h.1 e he m' c (f.pa.tr f'), fun q hq m' c1 c2 f' => h.2 q hq m' c1 c2 (f.tr f')⟩
theorem um_o {m : XM} {a k a' k' : Nat} {v : Int32} (h : a' ≠ a ∨ k' ≠ k) : um m a k v a' k' = m a' k' := if_neg fun e => by
  rcases h with h | h
  · exact h e.1
  · exact h e.2
section S97
variable {D : Nat} {m : XM} {g : PG} {E : Nat → XM → Prop}
theorem s20 {c : Nat} {t : TK} {Q : Int32 → XM → Prop} (tc : TC m t) (h : ∀ m', CER m' (c, t.1) → FPA m m' → Q (n32 0) m') : VI D 20 [vR 3 1, vI (n32 c)] m Q E := by
  refine w20_0 ?_
  have e3 : (um m 1 3 (n32 c)) (1 + 1) 3 = n32 t.1 := by rw [um_a (by omega)]; exact tc.1
  rw [e3]
  refine h _ ⟨by rw [um_k (by omega), um_eq], um_eq _ _ _ _⟩ (fun b k _ _ c3 => ?_)
  rw [um_o (by omega), um_o (by omega)]
theorem s26 {bf : BF} {n p : Nat} {lo hi : Int32} {Q : Int32 → XM → Prop} (hp : p ≤ n) (hb : HB m bf n) (e4 : m 2 4 = n32 p) (h1 : ¬ numE lo hi (tok bf n p) = 0 → ∀ m', CER m' (numE lo hi (tok bf n p), (tok bf n p).1) → FPA m m' → Q (n32 0) m') (h0 : numE lo hi (tok bf n p) = 0 → ∀ m', TC m' (tok bf n p) → FT m m' → Q (n32 1) m') : VI (D + 2) 26 [vR 3 1, vI lo, vI hi] m Q E := by
  refine w26_0 (s84 (bf := bf) (n - p) p m rfl hp hb e4 ?_)
  intro m1 tc ft
  have tw := tok_TWF (bf := bf) hp
  generalize tok bf n p = t at tc tw h0 h1
  have k5 : m1 (1 + 1) 5 = n32 t.2.1 := tc.2.2.1
  have w3 := tw.2.2.1
  have refuse : ∀ c : Nat, numE lo hi t = c → c ≠ 0 → VI (D + 1) 20 [vR 3 1, vI (n32 c)] m1 (fun x2 m2 => (xrt 2 x2 = true ∧ Q x2 m2)) E := by
    intro c hc c0
    refine s20 tc (fun m' ce f => ⟨by decide, ?_⟩)
    exact h1 (by omega) m' (by rw [hc]; exact ce) (ft.pa.tr f)
  rw [k5]
  by_cases c : t.2.1 = 2
  · refine ⟨fun _ => ?_, fun c' => absurd (by rw [c]) c'⟩
    have k6 : m1 (1 + 1) 6 = t.2.2.2 := tc.2.2.2 c
    rw [k6]
    refine ⟨fun c1 => refuse 2 ?_ (by omega), fun c1 => ⟨fun c2 => h0 ?_ m1 tc ft, fun c2 => refuse 2 ?_ (by omega)⟩⟩
    · unfold numE; rw [if_pos c, if_pos c1]
    · unfold numE; rw [if_pos c, if_neg c1, if_pos c2]
    · unfold numE; rw [if_pos c, if_neg c1, if_neg c2]
  · refine ⟨fun c' => absurd (n32_inj (by omega) (by omega) c') c, fun _ => refuse 1 ?_ (by omega)⟩
    unfold numE; rw [if_neg c]
/-- the settings' cells and the token alone -/
def FQ (m m' : XM) : Prop := ∀ b k, b ≠ 5 → ¬ (b = 2 ∧ 3 ≤ k ∧ k ≤ 6) → m' b k = m b k
theorem FQ.tr {m1 m2 m3 : XM} (h1 : FQ m1 m2) (h2 : FQ m2 m3) : FQ m1 m3 := fun b k c1 c2 => (h2 b k c1 c2).trans (h1 b k c1 c2)
theorem FQ.pa {m m' : XM} (h : FQ m m') : FPA m m' := fun b k c1 c2 _ => h b k (by omega) c2
theorem t21 {bf : BF} {n : Nat} {Q : Int32 → XM → Prop} : ∀ (r k : Nat) (g : PG) (m : XM) (tl : TK), k + r = 6 → HB m bf n → TC m tl → TWF bf n tl → (∀ j, j < k → m 5 j = g j) → (∀ e, setF bf n r k g tl = Sum.inl e → ∀ m', CER m' e → FPA m m' → Q (n32 0) m') → (∀ q, setF bf n r k g tl = Sum.inr q → ∀ m', (∀ j, j < 6 → m' 5 j = q.1 j) → TC m' q.2 → FQ m m' → Q (n32 1) m') → VLI (D + 5) 21 3 [(0, vR 3 1), (1, vI (n32 k))] [] m Q E := by
  intro r
  induction r with
  | zero =>
    intro k g m tl hk hb tc tw hs h1 h0
    have : k = 6 := by omega
    subst this
    exact w21_3 ⟨fun _ => h0 (g, tl) (by rw [setF]) m hs tc (fun _ _ _ _ => rfl), fun c => absurd (n32_rfl _) c⟩
  | succ r ih =>
    intro k g m tl hk hb tc tw hs h1 h0
    rw [setF_s] at h1 h0
    obtain ⟨lo, hi⟩ := lo_hi (show k < 6 by omega)
    obtain ⟨lo1, hi1⟩ := hi_lt k
    refine w21_3 ⟨fun c => absurd ((n32_le (by omega) (by omega)).mp c) (by omega), fun _ => ⟨xin_n (by omega) (by omega), ?_⟩⟩
    rw [ix_n32 (show k < 2147483648 by omega), lo, hi]
    refine s26 (bf := bf) tw.2.1 hb tc.2.1 (fun ce m' cer f => ⟨fun _ => h1 _ (if_neg ce) m' cer f, fun c => absurd rfl c⟩) (fun ce m1 tc1 ft => ⟨fun c => absurd c n01, fun _ => ?_⟩)
    rw [if_pos ce] at h1 h0
    obtain ⟨k2, kr⟩ := numE_ok lo1 hi1 ce
    have tw1 := tok_TWF (bf := bf) tw.2.1
    generalize tok bf n tl.2.2.1 = u at tc1 ce h1 h0 k2 kr tw1
    have k6 : m1 (1 + 1) 6 = u.2.2.2 := tc1.2.2.2 k2
    rw [k6, n32_add]
    have fq : FQ m (um m1 (1 + 3 + 1) k u.2.2.2) := fun b j c1 c2 => by rw [um_a (by omega)]; exact ft b j c2
    refine ih (k + 1) _ _ u (by omega) (hb.pa fq.pa) ?_ tw1 ?_ (fun e he m' c f => h1 e he m' c (fq.pa.tr f)) (fun q hq m' c1 c2 f => h0 q hq m' c1 c2 (fq.tr f))
    · obtain ⟨x1, x2, x3, x4⟩ := tc1
      exact ⟨by rw [um_a (by omega)]; exact x1, by rw [um_a (by omega)]; exact x2, by rw [um_a (by omega)]; exact x3, fun e => by rw [um_a (by omega)]; exact x4 e⟩
    · intro j hj
      by_cases e : j = k
      · subst e
        rw [gup_eq]; exact um_eq _ _ _ _
      · rw [gup_ne e]
        have : um m1 (1 + 3 + 1) k u.2.2.2 5 j = m1 5 j := um_o (Or.inr e)
        rw [this, ft _ _ (by omega)]; exact hs j (by omega)
theorem setF_wf {bf : BF} {n : Nat} : ∀ (r k : Nat) (g : PG) (t : TK) (q : PG × TK), k + r = 6 → PS0 g k → TWF bf n t → setF bf n r k g t = Sum.inr q → PS0 q.1 6 ∧ TWF bf n q.2 := by
  intro r
  induction r with
  | zero =>
    intro k g t q hk hg tw h
    rw [setF] at h
    have : k = 6 := by omega
    subst this
    cases h
    exact ⟨hg, tw⟩
  | succ r ih =>
    intro k g t q hk hg tw h
    rw [setF_s] at h
    obtain ⟨lo1, hi1⟩ := hi_lt k
    by_cases ce : numE (n32 (setLo k)) (n32 (setHi k)) (tok bf n t.2.2.1) = 0
    · rw [if_pos ce] at h
      obtain ⟨k2, kr⟩ := numE_ok lo1 hi1 ce
      exact ih (k + 1) _ _ q (by omega) (PS0_set hg (by omega) kr) (tok_TWF tw.2.1) h
    · rw [if_neg ce] at h
      cases h
theorem RS_join {c st lg : Int32} {a : Nat} {x : Int32} (w : WF g) (z : ZG g) (r : RS m a g) (hn : nBr g < 12) : RS (um (um (um (um (um (um (um (um (um m (a + 4) (nBr g) c) (a + 5) (nBr g) st) (a + 6) (nBr g) lg) (a + 7) (nBr g) (n32 100)) (a + 8) (nBr g) c) (a + 9) (nBr g) (-(g 0) * n32 (nBr g))) (a + 10) (nBr g) x) (a + 11) (nBr g) (n32 0)) (a + 3) 0 (n32 (nBr g + 1))) a (joinG g c st lg) := by
  have a6 := w.np
  have a9 := w.nl
  obtain ⟨j6, jn⟩ := joinG_6 (c := c) (st := st) (lg := lg) hn
  have n8 : nPl (joinG g c st lg) = nPl g := by unfold nPl; rw [joinG_at (by omega) (by omega)]
  have n10 : nL (joinG g c st lg) = nL g := by unfold nL; rw [joinG_at (by omega) (by omega)]
  unfold RS
  rw [jn, n8, n10]
  intro d k i hl
  by_cases e3 : d = 3 ∧ k = 0
  · obtain ⟨rfl, rfl⟩ := e3
    have : i = 6 := ((lvn_fb (lvn_up hl (by omega) (by omega) (by omega))).1).symm
    subst this
    rw [um_eq, j6]
  · by_cases e : k = nBr g ∧ 4 ≤ d ∧ d ≤ 11
    · obtain ⟨rfl, d1, d2⟩ := e
      have hd := lvn_d hl
      have hl' := (lvn_fb (lvn_up hl (by omega) (by omega) (by omega))).1
      have : d = 4 ∨ d = 5 ∨ d = 6 ∨ d = 7 ∨ d = 8 ∨ d = 9 ∨ d = 11 := by omega
      rcases this with rfl | rfl | rfl | rfl | rfl | rfl | rfl
      · have : i = 15 + 7 * nBr g + 6 := hl'.symm
        subst this
        rw [um_a (by omega), um_a (by omega), um_a (by omega), um_a (by omega), um_a (by omega), um_a (by omega), um_a (by omega), um_a (by omega), um_eq, joinG_own]
      · have : i = 15 + 7 * nBr g + 2 := hl'.symm
        subst this
        rw [um_a (by omega), um_a (by omega), um_a (by omega), um_a (by omega), um_a (by omega), um_a (by omega), um_a (by omega), um_eq, joinG_step]
      · have : i = 15 + 7 * nBr g + 3 := hl'.symm
        subst this
        rw [um_a (by omega), um_a (by omega), um_a (by omega), um_a (by omega), um_a (by omega), um_a (by omega), um_eq, joinG_lag]
      · have : i = 15 + 7 * nBr g + 4 := hl'.symm
        subst this
        rw [um_a (by omega), um_a (by omega), um_a (by omega), um_a (by omega), um_a (by omega), um_eq, joinG_str]
      · have : i = 15 + 7 * nBr g := hl'.symm
        subst this
        rw [um_a (by omega), um_a (by omega), um_a (by omega), um_a (by omega), um_eq, joinG_ban]
      · have : i = 15 + 7 * nBr g + 1 := hl'.symm
        subst this
        rw [um_a (by omega), um_a (by omega), um_a (by omega), um_eq, joinG_pla]
      · have : i = 15 + 7 * nBr g + 5 := hl'.symm
        subst this
        rw [um_a (by omega), um_eq, joinG_at (by omega) (by omega)]
        exact (z (nBr g) (Nat.le_refl _) hn).symm
    · have hl2 : lvn (nBr g) (nL g) (nPl g) d k i := by
        rcases hl with hl | hl | hl | hl | hl | hl
        · exact Or.inl hl
        · exact Or.inr (Or.inl hl)
        · exact Or.inr (Or.inr (Or.inl hl))
        · exact Or.inr (Or.inr (Or.inr (Or.inl ⟨by omega, hl.2⟩)))
        · exact Or.inr (Or.inr (Or.inr (Or.inr (Or.inl hl))))
        · exact Or.inr (Or.inr (Or.inr (Or.inr (Or.inr hl))))
      have hi : i ≠ 6 ∧ (i < 15 + 7 * nBr g ∨ 15 + 7 * nBr g + 7 ≤ i) := by
        rcases hl2 with hl | hl | hl | hl | hl | hl <;> omega
      rw [um_o (by omega), um_o (by omega), um_o (by omega), um_o (by omega), um_o (by omega), um_o (by omega), um_o (by omega), um_o (by omega), um_o (by omega), joinG_at hi.1 (by omega)]
      exact r d k i hl2
theorem s49 {c st lg : Int32} {Q : XM → Prop} (w : WF g) (z : ZG g) (hn : nBr g < 12) (h : CST m g) (hQ : ∀ m', CST m' (joinG g c st lg) → (∀ b k, ¬ (7 ≤ b ∧ b ≤ 15) → m' b k = m b k) → Q m') : VU D 49 [vR 7 7, vI c, vI st, vI lg, vI (g 0)] m Q E := by
  obtain ⟨r, ra, rt⟩ := h
  have e7 : m 7 0 = n32 (nBr g) := by have := r.nb; rw [this]; exact w.1.1
  have js := RS_join (c := c) (st := st) (lg := lg) (x := -(g 0) * n32 (nBr g)) w z r hn
  refine w49_0 ⟨fun _ => ?_, fun c' => absurd (by rw [e7]; exact (n32_lt (by omega) (by omega)).mpr hn) c'⟩
  simp (disch := omega) only [Nat.reduceAdd, um_a, e7, xin_t, ix_n32, true_and]
  rintro μ rfl
  simp (disch := omega) only [Nat.reduceAdd, um_a, e7, xin_t, ix_n32, true_and]
  rintro μ rfl
  simp (disch := omega) only [Nat.reduceAdd, um_a, um_eq, e7, xin_t, ix_n32, true_and]
  rintro μ rfl
  simp (disch := omega) only [Nat.reduceAdd, um_a, e7, n32_add]
  refine hQ _ ⟨js, ?_, ?_⟩ ?_
  · intro s hs
    rw [um_a (by omega), um_a (by omega), um_a (by omega), um_a (by omega), um_a (by omega), um_a (by omega), um_a (by omega), um_a (by omega), um_a (by omega)]
    exact ra s hs
  · refine RT_of w (RT_eq rt (fun d k hd => ?_)) (fun j j1 j2 _ => joinG_at (by omega) (by omega)) (joinG_at (by omega) (by omega))
    rw [um_a (by omega), um_a (by omega), um_a (by omega), um_a (by omega), um_a (by omega), um_a (by omega), um_a (by omega), um_a (by omega), um_a (by omega)]
  · intro b k hb
    rw [um_a (by omega), um_a (by omega), um_a (by omega), um_a (by omega), um_a (by omega), um_a (by omega), um_a (by omega), um_a (by omega), um_a (by omega)]
theorem s23 {bf : BF} {n : Nat} {t1 : TK} {Q : Int32 → XM → Prop} (hg : PG0 g) (hn : nBr g < 12) (hb : HB m bf n) (tc : TC m t1) (tw : TWF bf n t1) (cs : CST m g) (h : CRES m Q (bearerF bf n g t1)) : VI (D + 3) 23 [vR 3 1] m Q E := by
  have w := hg.1.w
  unfold bearerF at h
  refine w23_0 (s84 (bf := bf) (n - t1.2.2.1) t1.2.2.1 m rfl tw.2.1 hb tc.2.1 ?_)
  intro m1 tc1 f1
  have tw1 := tok_TWF (bf := bf) tw.2.1
  generalize tok bf n t1.2.2.1 = t2 at tc1 tw1 h
  have hb1 := hb.ft f1
  have k5 : m1 (1 + 1) 5 = n32 t2.2.1 := tc1.2.2.1
  have k4 : m1 (1 + 1) 4 = n32 t2.2.2.1 := tc1.2.1
  have k3 : m1 (1 + 1) 3 = n32 t2.1 := tc1.1
  have w3 := tw1.2.2.1
  have w2 := tw1.2.1
  have w1 := tw1.1
  have h7 := hb.1
  have refuse : ¬ (t2.2.1 = 1 ∧ t2.2.2.1 - t2.1 = 1) → VI (D + 2) 20 [vR 3 1, vI (n32 1)] m1 (fun x2 m2 => (xrt 2 x2 = true ∧ Q x2 m2)) E := by
    intro hc
    rw [if_neg hc] at h
    exact s20 tc1 (fun m' ce f => ⟨by decide, h.1 _ rfl m' ce (f1.pa.tr f)⟩)
  rw [k5, k4, k3, n32_sub w1]
  refine ⟨fun c => ⟨fun c2 => ?_, fun c2 => refuse (fun e => c2 (by rw [e.2]))⟩, fun c => refuse (fun e => c (by rw [e.1]))⟩
  have c := n32_inj (by omega) (by omega) c
  have c2 := n32_inj (by omega) (by omega) c2
  rw [if_pos ⟨c, c2⟩] at h
  have hL := (tw1.2.2.2.2 c).2 t2.1 (Nat.le_refl _) (by omega)
  have hL' := (isL_iff _).mp hL
  refine s88 (i := 0) hb1 tc1 tw1 (by omega) ?_
  simp only [Nat.add_zero]
  rw [n32_sub (by omega)]
  refine s26 (bf := bf) tw1.2.1 hb1 tc1.2.1 (fun ce m' cer f => ?_) (fun ce m2 tc2 f2 => ⟨fun c => absurd c n01, fun _ => ?_⟩)
  · rw [if_neg ce] at h
    exact ⟨fun _ => h.1 _ rfl m' cer (f1.pa.tr f), fun c => absurd rfl c⟩
  rw [if_pos ce] at h
  obtain ⟨kk, kr⟩ := numE_ok (by omega) (by omega) ce
  have tw2 := tok_TWF (bf := bf) tw1.2.1
  generalize tok bf n t2.2.2.1 = t3 at tc2 tw2 h kk kr
  have hb2 := hb1.ft f2
  have e6 : m2 (1 + 1) 6 = t3.2.2.2 := tc2.2.2.2 kk
  refine s26 (bf := bf) tw2.2.1 hb2 tc2.2.1 (fun ce m' cer f => ?_) (fun ce m3 tc3 f3 => ⟨fun c => absurd c n01, fun _ => ?_⟩)
  · rw [if_neg ce] at h
    exact ⟨fun _ => h.1 _ rfl m' cer ((f1.tr f2).pa.tr f), fun c => absurd rfl c⟩
  rw [if_pos ce] at h
  obtain ⟨kk2, kr2⟩ := numE_ok (by omega) (by omega) ce
  generalize tok bf n t3.2.2.1 = t4 at tc3 h kk2 kr2
  have e62 : m3 (1 + 1) 6 = t4.2.2.2 := tc3.2.2.2 kk2
  have ff := (f1.tr f2).tr f3
  have cs3 := cs.ft ff
  have e50 : m3 (1 + 3 + 1) (ix (n32 0)) = g 0 := cs3.1.se (k := 0) (by omega)
  rw [e6, e62, e50]
  refine s49 w hg.2.1 hn cs3 ?_
  intro m4 cs4 f4
  refine h.2 _ rfl m4 cs4 ?_ (ff.ps.tr (fun b k c1 _ => f4 b k (by omega)))
  obtain ⟨x1, x2, x3, x4⟩ := tc3
  exact ⟨by rw [f4 _ _ (by omega)]; exact x1, by rw [f4 _ _ (by omega)]; exact x2, by rw [f4 _ _ (by omega)]; exact x3, fun e => by rw [f4 _ _ (by omega)]; exact x4 e⟩
theorem s25 {bf : BF} {n : Nat} {t1 : TK} {Q : Int32 → XM → Prop} (hg : PG0 g) (hn : nPl g < 12) (hb : HB m bf n) (tc : TC m t1) (tw : TWF bf n t1) (cs : CST m g) (h : CRES m Q (planF bf n g t1)) : VI (D + 3) 25 [vR 3 1] m Q E := by
  have w := hg.1.w
  have a2 := w.nb
  unfold planF at h
  refine w25_0 (s26 (bf := bf) tw.2.1 hb tc.2.1 (fun ce m' cer f => ?_) (fun ce m1 tc1 f1 => ⟨fun c => absurd c n01, fun _ => ?_⟩))
  · rw [if_neg ce] at h
    exact ⟨fun _ => h.1 _ rfl m' cer f, fun c => absurd rfl c⟩
  rw [if_pos ce] at h
  obtain ⟨kk, kr⟩ := numE_ok (by omega) (by omega) ce
  have tw1 := tok_TWF (bf := bf) tw.2.1
  generalize tok bf n t1.2.2.1 = t2 at tc1 tw1 h kk kr
  have hb1 := hb.ft f1
  have cs1 := cs.ft f1
  have e6 : m1 (1 + 1) 6 = t2.2.2.2 := tc1.2.2.2 kk
  have e70 : m1 (1 + 3 + 3) 0 = n32 (nBr g) := by have := cs1.1.nb; exact this.trans w.1.1
  rw [e70, e6]
  refine s26 (bf := bf) tw1.2.1 hb1 tc1.2.1 (fun ce m' cer f => ?_) (fun ce m2 tc2 f2 => ⟨fun c => absurd c n01, fun _ => ?_⟩)
  · rw [if_neg ce] at h
    exact ⟨fun _ => h.1 _ rfl m' cer (f1.pa.tr f), fun c => absurd rfl c⟩
  rw [if_pos ce] at h
  obtain ⟨kk2, b, hb2, eb⟩ := numE_pl a2 ce
  generalize tok bf n t2.2.2.1 = t3 at tc2 h kk2 eb
  have ff := f1.tr f2
  have cs2 := cs.ft ff
  have e62 : m2 (1 + 1) 6 = t3.2.2.2 := tc2.2.2.2 kk2
  have e20 : m2 (1 + 3 + 16) 0 = n32 (nPl g) := by have := cs2.1.np; exact this.trans w.2.2.1.1
  obtain ⟨t, t1', t2', et⟩ := kr
  rw [eb] at e62 h
  rw [et] at h ⊢
  have k8 := plG_8 (t := n32 t) (b := n32 b) w
  have kw := WF_pl (t := n32 t) w hb2 hn
  have js := RS_pl (t := n32 t) (b := n32 b) w cs2.1 hn ⟨kw.2.1, kw.2.2.2, k8.2⟩
  rw [e20, e62]
  refine ⟨fun _ => ?_, fun c' => absurd ((n32_lt (by omega) (by omega)).mpr hn) c'⟩
  have e20' : m2 20 0 = n32 (nPl g) := e20
  simp (disch := omega) only [Nat.reduceAdd, um_a, e20', xin_t, ix_n32, true_and]
  rintro μ rfl
  simp (disch := omega) only [Nat.reduceAdd, um_a, e20', xin_t, ix_n32, true_and]
  rintro μ rfl
  simp (disch := omega) only [Nat.reduceAdd, um_a, e20', n32_add]
  refine h.2 _ rfl _ ⟨js, ?_, ?_⟩ ?_ ?_
  · intro s hs
    rw [um_a (by omega), um_a (by omega), um_a (by omega), um_a (by omega)]
    exact cs2.2.1 s hs
  · refine RT_of w (RT_eq cs2.2.2 (fun d k hd => ?_)) (fun j j1 j2 _ => plG_at (g := g) (by omega) (by omega)) (plG_at (g := g) (j := 7) (by omega) (by omega))
    rw [um_a (by omega), um_a (by omega), um_a (by omega), um_a (by omega)]
  · obtain ⟨x1, x2, x3, x4⟩ := tc2
    refine ⟨?_, ?_, ?_, fun e => ?_⟩
    · rw [um_a (by omega), um_a (by omega), um_a (by omega), um_a (by omega)]; exact x1
    · rw [um_a (by omega), um_a (by omega), um_a (by omega), um_a (by omega)]; exact x2
    · rw [um_a (by omega), um_a (by omega), um_a (by omega), um_a (by omega)]; exact x3
    · rw [um_a (by omega), um_a (by omega), um_a (by omega), um_a (by omega)]; exact x4 e
  · refine ff.ps.tr (fun b' k c1 _ => ?_)
    rw [um_a (by omega), um_a (by omega), um_a (by omega), um_a (by omega)]
/-- a stand of which i bytes are written -/
def SW (m : XM) (bf : BF) (g : PG) (side pl : Int32) (s0 i : Nat) : Prop :=
  m 24 0 = n32 (nSt g + 1) ∧ m 25 (nSt g) = side ∧ m 26 (nSt g) = pl ∧ m 27 (nSt g) = n32 i ∧ (∀ j, j < i → m 28 (nSt g * 8 + j) = n32 (bf (s0 + j))) ∧
  (∀ s, s < nSt g → m 25 s = g (99 + 12 * s) ∧ m 26 s = g (99 + 12 * s + 1) ∧ m 27 s = g (99 + 12 * s + 2) ∧ ∀ j, j < ix (g (99 + 12 * s + 2)) → m 28 (s * 8 + j) = g (99 + 12 * s + 4 + j))
/-- the Route's cells alone -/
def FRT (m m' : XM) : Prop := ∀ b k, ¬ (24 ≤ b ∧ b ≤ 28) → m' b k = m b k
theorem FRT.tr {m1 m2 m3 : XM} (h1 : FRT m1 m2) (h2 : FRT m2 m3) : FRT m1 m3 := fun b k c => (h2 b k c).trans (h1 b k c)
theorem FRT.ps {m m' : XM} (h : FRT m m') : FPS m m' := fun b k c _ => h b k (by omega)
theorem FRT.pa {m m' : XM} (h : FRT m m') : FPA m m' := fun b k c _ _ => h b k (by omega)
theorem TC.rt {m m' : XM} {t : TK} (h : TC m t) (f : FRT m m') : TC m' t := by
  obtain ⟨x1, x2, x3, x4⟩ := h
  exact ⟨by rw [f _ _ (by omega)]; exact x1, by rw [f _ _ (by omega)]; exact x2, by rw [f _ _ (by omega)]; exact x3, fun e => by rw [f _ _ (by omega)]; exact x4 e⟩
theorem t24 {bf : BF} {n : Nat} {side pl : Int32} {t : TK} {Q : Int32 → XM → Prop} (w : WF g) (hn : nSt g < 6) (hb : HB m bf n) (tc : TC m t) (tw : TWF bf n t) (k1 : t.2.1 = 1) (sw : SW m bf g side pl t.1 0) (h : ∀ m', SW m' bf g side pl t.1 (t.2.2.1 - t.1) → FRT m m' → Q (n32 1) m') : VLI (D + 5) 24 11 [(0, vR 3 1), (3, vI (n32 0))] [] m Q E := by
  have w1 := tw.1
  have w2 := tw.2.1
  have h7 := hb.1
  have w8 := (tw.2.2.2.2 k1).1
  refine upm (C := fun i m' => VLI (D + 5) 24 11 [(0, vR 3 1), (3, vI (n32 i))] [] m' Q E) (Inv := fun i m' => SW m' bf g side pl t.1 i ∧ FRT m m') (n := t.2.2.1 - t.1) ?_ ?_ 0 m (Nat.zero_le _) ⟨sw, fun _ _ _ => rfl⟩
  · intro i m1 hi hI ih
    obtain ⟨sw1, f1⟩ := hI
    have tc1 := tc.rt f1
    have hb1 := hb.pa f1.pa
    obtain ⟨s1, s2, s3, s4, s5, s6⟩ := sw1
    have k5 : m1 (1 + 1) 5 = n32 1 := by have := tc1.2.2.1; rw [k1] at this; exact this
    have k4 : m1 (1 + 1) 4 = n32 t.2.2.1 := tc1.2.1
    have k3 : m1 (1 + 1) 3 = n32 t.1 := tc1.1
    refine w24_11 ⟨fun _ => ?_, fun c => absurd k5 c⟩
    rw [k4, k3, n32_sub w1]
    refine ⟨fun c => absurd ((n32_le (by omega) (by omega)).mp c) (by omega), fun _ => ?_⟩
    refine s88 (i := i) hb1 tc1 tw (by omega) ?_
    have e24 : m1 (1 + 23) 0 = n32 (nSt g + 1) := s1
    have e27 : m1 (1 + 23 + 3) (nSt g) = n32 i := s4
    rw [e24, n32_sub (by omega), Nat.add_sub_cancel, ix_n32 (show nSt g < 2147483648 by omega), e27, n32_mul, n32_add, n32_add, ix_n32 (show nSt g * 8 + i < 2147483648 by omega)]
    refine ⟨fun c => absurd ((n32_lt (by omega) (by omega)).mp c) (by omega), fun _ => ⟨xin_n (by omega) (by omega), fun _ => ⟨xin_n (by omega) (by omega), ?_⟩, fun c => absurd ((n32_lt (by omega) (by omega)).mpr (by omega)) c⟩⟩
    rintro μ rfl
    have e27' : um m1 (1 + 23 + 4) (nSt g * 8 + i) (n32 (bf (t.1 + i))) (1 + 23 + 3) (nSt g) = n32 i := by rw [um_a (by omega)]; exact s4
    rw [e27', n32_add]
    simp only [Nat.reduceAdd]
    refine ih _ ⟨⟨?_, ?_, ?_, um_eq _ _ _ _, ?_, ?_⟩, f1.tr (fun b k c => by rw [um_a (by omega), um_a (by omega)])⟩
    · rw [um_a (by omega), um_a (by omega)]; exact s1
    · rw [um_a (by omega), um_a (by omega)]; exact s2
    · rw [um_a (by omega), um_a (by omega)]; exact s3
    · intro j hj
      rw [um_a (by omega)]
      by_cases e : j = i
      · subst e; rw [um_eq]
      · rw [um_k (by omega)]; exact s5 j (by omega)
    · intro s hs
      obtain ⟨q1, q2, q3, q4⟩ := s6 s hs
      obtain ⟨l1, l2, -⟩ := wl w hs
      refine ⟨by rw [um_a (by omega), um_a (by omega)]; exact q1, by rw [um_a (by omega), um_a (by omega)]; exact q2, by rw [um_k (by omega), um_a (by omega)]; exact q3, fun j hj => ?_⟩
      rw [um_a (by omega), um_k (by omega)]; exact q4 j hj
  · intro m1 hI
    obtain ⟨sw1, f1⟩ := hI
    have tc1 := tc.rt f1
    have k5 : m1 (1 + 1) 5 = n32 1 := by have := tc1.2.2.1; rw [k1] at this; exact this
    have k4 : m1 (1 + 1) 4 = n32 t.2.2.1 := tc1.2.1
    have k3 : m1 (1 + 1) 3 = n32 t.1 := tc1.1
    refine w24_11 ⟨fun _ => ?_, fun c => absurd k5 c⟩
    rw [k4, k3, n32_sub w1]
    exact ⟨fun _ => h m1 sw1 f1, fun c => absurd (n32_rfl _) c⟩
theorem CST_stand {bf : BF} {side pl : Int32} {s0 len : Nat} {m' : XM} (hg : PG0 g) (hn : nSt g < 6) (l8 : len ≤ 8) (cs : CST m g) (f : FRT m m') (sw : SW m' bf g side pl s0 len) : CST m' (standG bf g side pl s0 len) := by
  have w := hg.1.w
  have a2 := w.nb
  have a6 := w.np
  have a9 := w.nl
  obtain ⟨s1, s2, s3, s4, s5, s6⟩ := sw
  obtain ⟨j7, jn⟩ := standG_7 (bf := bf) (side := side) (pl := pl) (s0 := s0) (len := len) hn
  have at' : ∀ j, j ≠ 7 → (j < 99 ∨ 171 ≤ j) → standG bf g side pl s0 len j = g j := fun j h1 h2 => standG_at l8 h1 (by omega)
  have n6 : nBr (standG bf g side pl s0 len) = nBr g := by unfold nBr; rw [at' _ (by omega) (by omega)]
  have n8 : nPl (standG bf g side pl s0 len) = nPl g := by unfold nPl; rw [at' _ (by omega) (by omega)]
  have n10 : nL (standG bf g side pl s0 len) = nL g := by unfold nL; rw [at' _ (by omega) (by omega)]
  refine ⟨?_, fun s hs => by rw [f _ _ (by omega)]; exact cs.2.1 s hs, ?_, ?_⟩
  · unfold RS
    rw [n6, n8, n10]
    intro d k i hl
    have hi := lvn_i hl a2
    have hd := lvn_d hl
    rw [f _ _ (by omega), at' _ (by omega) (by omega)]
    exact cs.1 d k i hl
  · rw [s1, j7]
  · rw [jn]
    intro s hs
    by_cases e : s = nSt g
    · subst e
      rw [standG_0, standG_1, standG_2, ix_n32 (by omega)]
      exact ⟨s2, s3, s4, fun i hi => by rw [standG_w hi]; exact s5 i hi⟩
    · obtain ⟨q1, q2, q3, q4⟩ := s6 s (by omega)
      obtain ⟨l1, l2, -⟩ := wl w (show s < nSt g by omega)
      rw [standG_at l8 (by omega) (by omega), standG_at l8 (by omega) (by omega), standG_at l8 (by omega) (by omega)]
      exact ⟨q1, q2, q3, fun i hi => by rw [standG_at l8 (by omega) (by omega)]; exact q4 i hi⟩
/-- behind the word of a stand -/
theorem fin24 {bf : BF} {n : Nat} {side pl : Int32} {t : TK} {Q : Int32 → XM → Prop} (hg : PG0 g) (hn : nSt g < 6) (hb : HB m bf n) (tc : TC m t) (tw : TWF bf n t) (k1 : t.2.1 = 1) (cs : CST m g) (hs : inR side 0 1) (h : ∀ m', CST m' (standG bf g side pl t.1 (t.2.2.1 - t.1)) → TC m' t → FPS m m' → Q (n32 1) m') : ((m 24 0) < (n32 6) → (xin (m 24 0) 6 = true ∧ (xin ((um m 25 (ix (m 24 0)) side) 24 0) 6 = true ∧ (xin ((um (um m 25 (ix (m 24 0)) side) 26 (ix ((um m 25 (ix (m 24 0)) side) 24 0)) pl) 24 0) 6 = true ∧ (∀ μ7 : XM, μ7 = um (um (um m 25 (ix (m 24 0)) side) 26 (ix ((um m 25 (ix (m 24 0)) side) 24 0)) pl) 27 (ix ((um (um m 25 (ix (m 24 0)) side) 26 (ix ((um m 25 (ix (m 24 0)) side) 24 0)) pl) 24 0)) (n32 0) → VLI (D + 5) 24 11 [(0, vR 3 1), (3, vI (n32 0))] [] (um μ7 24 0 ((μ7 24 0) + (n32 1))) Q E))))) ∧ (¬ (m 24 0) < (n32 6) → VLI (D + 5) 24 11 [(0, vR 3 1), (3, vI (n32 0))] [] m Q E) := by
  have w := hg.1.w
  have w8 := (tw.2.2.2.2 k1).1
  have rt := cs.2.2
  have e24 : m 24 0 = n32 (nSt g) := by rw [rt.1]; exact w.2.1.1
  refine ⟨fun _ => ?_, fun c => absurd (by rw [e24]; exact (n32_lt (by omega) (by omega)).mpr hn) c⟩
  simp (disch := omega) only [e24, um_a, xin_t, ix_n32, true_and]
  rintro μ rfl
  simp (disch := omega) only [e24, um_a, n32_add]
  have f0 : FRT m (um (um (um (um m 25 (nSt g) side) 26 (nSt g) pl) 27 (nSt g) (n32 0)) 24 0 (n32 (nSt g + 1))) := fun b k c => by rw [um_a (by omega), um_a (by omega), um_a (by omega), um_a (by omega)]
  refine t24 (bf := bf) (n := n) (t := t) (side := side) (pl := pl) w hn (hb.pa f0.pa) (tc.rt f0) tw k1 ⟨um_eq _ _ _ _, ?_, ?_, ?_, fun j hj => absurd hj (Nat.not_lt_zero j), ?_⟩ ?_
  · rw [um_a (by omega), um_a (by omega), um_a (by omega), um_eq]
  · rw [um_a (by omega), um_a (by omega), um_eq]
  · rw [um_a (by omega), um_eq]
  · intro s hs
    obtain ⟨q1, q2, q3, q4⟩ := rt.2 s hs
    refine ⟨?_, ?_, ?_, fun j hj => ?_⟩
    · rw [um_a (by omega), um_a (by omega), um_a (by omega), um_k (by omega)]; exact q1
    · rw [um_a (by omega), um_a (by omega), um_k (by omega), um_a (by omega)]; exact q2
    · rw [um_a (by omega), um_k (by omega), um_a (by omega), um_a (by omega)]; exact q3
    · rw [um_a (by omega), um_a (by omega), um_a (by omega), um_a (by omega)]; exact q4 j hj
  · intro m1 sw1 f1
    have ff := f0.tr f1
    exact h m1 (CST_stand hg hn w8 cs ff sw1) (tc.rt ff) ff.ps
theorem l8s : ∀ i, wPar.getD i 0 < 256 ∧ wBea.getD i 0 < 256 ∧ wSta.getD i 0 < 256 ∧ wRig.getD i 0 < 256 ∧ wLef.getD i 0 < 256 ∧ wPla.getD i 0 < 256 := by
  intro i
  by_cases h : i < 6
  · have : ∀ i, i < 6 → wPar.getD i 0 < 256 ∧ wBea.getD i 0 < 256 ∧ wSta.getD i 0 < 256 ∧ wRig.getD i 0 < 256 ∧ wLef.getD i 0 < 256 ∧ wPla.getD i 0 < 256 := by decide
    exact this i h
  · have z : ∀ l : List Nat, l.length ≤ 6 → l.getD i 0 < 256 := fun l hl => by
      rw [List.getD_eq_getElem?_getD, List.getElem?_eq_none (by omega)]; decide
    exact ⟨z _ (by decide), z _ (by decide), z _ (by decide), z _ (by decide), z _ (by decide), z _ (by decide)⟩
theorem s24 {bf : BF} {n : Nat} {t1 : TK} {Q : Int32 → XM → Prop} (hg : PG0 g) (hn : nSt g < 6) (hb : HB m bf n) (tc : TC m t1) (tw : TWF bf n t1) (cs : CST m g) (h : CRES m Q (standF bf n g t1)) : VI (D + 5) 24 [vR 3 1] m Q E := by
  have w := hg.1.w
  unfold standF at h
  refine w24_0 (s84 (bf := bf) (n - t1.2.2.1) t1.2.2.1 m rfl tw.2.1 hb tc.2.1 ?_)
  intro m1 tc1 f1
  have tw1 := tok_TWF (bf := bf) tw.2.1
  generalize tok bf n t1.2.2.1 = t2 at tc1 tw1 h
  have hb1 := hb.ft f1
  have cs1 := cs.ft f1
  simp only [Nat.reduceAdd]
  refine s89 STX_4 (by decide) (by decide) (fun i => (l8s i).2.2.2.1) hb1 tc1 tw1 ?_
  have key : ∀ side, inR side 0 1 → CRES m Q (placeF bf n g side t2) → VI (D + 4) 26 [vR 3 1, vI (n32 0), vI (n32 9999)] m1 (fun x5 m5 => ((x5 = (n32 0) → Q (n32 0) m5) ∧ (¬ x5 = (n32 0) → VU (D + 4) 84 [vR 9 2] m5 (fun m6 => (((m6 2 5) = (n32 1) → (((m6 24 0) < (n32 6) → (xin (m6 24 0) 6 = true ∧ (xin ((um m6 25 (ix (m6 24 0)) side) 24 0) 6 = true ∧ (xin ((um (um m6 25 (ix (m6 24 0)) side) 26 (ix ((um m6 25 (ix (m6 24 0)) side) 24 0)) (m5 2 6)) 24 0) 6 = true ∧ (∀ μ7 : XM, μ7 = um (um (um m6 25 (ix (m6 24 0)) side) 26 (ix ((um m6 25 (ix (m6 24 0)) side) 24 0)) (m5 2 6)) 27 (ix ((um (um m6 25 (ix (m6 24 0)) side) 26 (ix ((um m6 25 (ix (m6 24 0)) side) 24 0)) (m5 2 6)) 24 0)) (n32 0) → VLI (D + 5) 24 11 [(0, vR 3 1), (3, vI (n32 0))] [] (um μ7 24 0 ((μ7 24 0) + (n32 1))) Q E))))) ∧ (¬ (m6 24 0) < (n32 6) → VLI (D + 5) 24 11 [(0, vR 3 1), (3, vI (n32 0))] [] m6 Q E))) ∧ (¬ (m6 2 5) = (n32 1) → VI (D + 4) 20 [vR 3 1, vI (n32 1)] m6 (fun x9 m9 => (xrt 2 x9 = true ∧ Q x9 m9)) E))) E))) E := by
    intro side hs hc
    unfold placeF at hc
    refine s26 (bf := bf) tw1.2.1 hb1 tc1.2.1 (fun ce m' cer f => ?_) (fun ce m2 tc2 f2 => ⟨fun c => absurd c n01, fun _ => ?_⟩)
    · rw [if_neg ce] at hc
      exact ⟨fun _ => hc.1 _ rfl m' cer (f1.pa.tr f), fun c => absurd rfl c⟩
    rw [if_pos ce] at hc
    obtain ⟨kk, kr⟩ := numE_ok (by omega) (by omega) ce
    have tw2 := tok_TWF (bf := bf) tw1.2.1
    generalize tok bf n t2.2.2.1 = t3 at tc2 tw2 hc kk kr
    have hb2 := hb1.ft f2
    refine s84 (bf := bf) (n - t3.2.2.1) t3.2.2.1 m2 rfl tw2.2.1 hb2 tc2.2.1 ?_
    intro m3 tc3 f3
    have tw3 := tok_TWF (bf := bf) tw2.2.1
    generalize tok bf n t3.2.2.1 = t4 at tc3 tw3 hc
    have w3 := tw3.2.2.1
    have hb3 := hb2.ft f3
    have ff := (f1.tr f2).tr f3
    have cs3 := cs.ft ff
    rw [tc3.2.2.1, tc2.2.2.2 kk]
    by_cases c : t4.2.1 = 1
    · rw [if_pos c] at hc
      refine ⟨fun _ => ?_, fun c' => absurd (by rw [c]) c'⟩
      exact fin24 (bf := bf) (n := n) (t := t4) hg hn hb3 tc3 tw3 c cs3 hs (fun m' x1 x2 x3 => hc.2 _ rfl m' x1 x2 (ff.ps.tr x3))
    · rw [if_neg c] at hc
      refine ⟨fun c' => absurd (n32_inj (by omega) (by omega) c') c, fun _ => ?_⟩
      exact s20 tc3 (fun m' ce f => ⟨by decide, hc.1 _ rfl m' ce (ff.pa.tr f)⟩)
  by_cases cr : isW bf t2 wRig = true
  · rw [if_pos cr] at h
    rw [show ([114, 105, 103, 104, 116] : List Nat) = wRig from rfl, if_pos cr]
    exact ⟨fun c => absurd c n01, fun _ => key (n32 1) ⟨1, by omega, by omega, rfl⟩ h⟩
  · rw [if_neg cr] at h
    rw [show ([114, 105, 103, 104, 116] : List Nat) = wRig from rfl, if_neg cr]
    refine ⟨fun _ => ?_, fun c => absurd rfl c⟩
    refine s89 STX_5 (by decide) (by decide) (fun i => (l8s i).2.2.2.2.1) hb1 tc1 tw1 ?_
    by_cases cl : isW bf t2 wLef = true
    · rw [if_pos cl] at h
      rw [show ([108, 101, 102, 116] : List Nat) = wLef from rfl, if_pos cl]
      exact ⟨fun c => absurd c n01, fun _ => key (n32 0) ⟨0, by omega, by omega, rfl⟩ h⟩
    · rw [if_neg cl] at h
      rw [show ([108, 101, 102, 116] : List Nat) = wLef from rfl, if_neg cl]
      refine ⟨fun _ => ?_, fun c => absurd rfl c⟩
      exact s20 tc1 (fun m' ce f => ⟨by decide, h.1 _ rfl m' ce (f1.pa.tr f)⟩)
theorem VI_xrt {y : Nat} {args : List AV} {Q : Int32 → XM → Prop} (h : VI D y args m (fun x m' => (x = n32 0 ∨ x = n32 1) ∧ Q x m') E) : VI D y args m (fun x m' => xrt 2 x = true ∧ Q x m') E := by
  refine V_mono h (fun v m' q => ⟨?_, q.2⟩) (fun _ _ e => e)
  rcases q.1 with e | e <;> rw [e] <;> decide
theorem CRES.two {Q : Int32 → XM → Prop} {r : PRS} (h : CRES m Q r) : CRES m (fun x m' => (x = n32 0 ∨ x = n32 1) ∧ Q x m') r := ⟨fun e he m' c f => ⟨Or.inl rfl, h.1 e he m' c f⟩, fun q hq m' c1 c2 f => ⟨Or.inr rfl, h.2 q hq m' c1 c2 f⟩⟩
theorem s22 {bf : BF} {n : Nat} {t : TK} {Q : Int32 → XM → Prop} (hg : PG0 g) (hb : HB m bf n) (tc : TC m t) (tw : TWF bf n t) (cs : CST m g) (h : CRES m Q (wordF bf n g (tok bf n t.2.2.1))) : VI (D + 6) 22 [vR 3 1] m Q E := by
  have w := hg.1.w
  have a2 := w.nb
  have a4 := w.ns
  have a6 := w.np
  refine w22_0 (s84 (bf := bf) (n - t.2.2.1) t.2.2.1 m rfl tw.2.1 hb tc.2.1 ?_)
  intro m1 tc1 f1
  have tw1 := tok_TWF (bf := bf) tw.2.1
  generalize tok bf n t.2.2.1 = t1 at tc1 tw1 h
  have hb1 := hb.ft f1
  have cs1 := cs.ft f1
  have h1 : CRES m1 Q (wordF bf n g t1) := h.sh f1.ps
  unfold wordF at h1
  have e7 : m1 (1 + 3 + 3) 0 = n32 (nBr g) := by have := cs1.1.nb; exact this.trans w.1.1
  have e24 : m1 (1 + 23) 0 = n32 (nSt g) := by have := cs1.2.2.1; exact this.trans w.2.1.1
  have e20 : m1 (1 + 3 + 16) 0 = n32 (nPl g) := by have := cs1.1.np; exact this.trans w.2.2.1.1
  refine s89 STX_2 (by decide) (by decide) (fun i => (l8s i).2.1) hb1 tc1 tw1 ?_
  rw [show ([98, 101, 97, 114, 101, 114] : List Nat) = wBea from rfl]
  by_cases cb : isW bf t1 wBea = true
  · rw [if_pos cb] at h1 ⊢
    refine ⟨fun c => absurd c n01, fun _ => ?_⟩
    rw [e7]
    by_cases c : 12 ≤ nBr g
    · rw [if_pos c] at h1
      refine ⟨fun _ => ?_, fun c' => absurd ((n32_le (by omega) (by omega)).mpr c) c'⟩
      exact s20 tc1 (fun m' ce f => ⟨by decide, h1.1 _ rfl m' ce f⟩)
    · rw [if_neg c] at h1
      refine ⟨fun c' => absurd ((n32_le (by omega) (by omega)).mp c') c, fun _ => VI_xrt ?_⟩
      exact s23 hg (by omega) hb1 tc1 tw1 cs1 h1.two
  · rw [if_neg cb] at h1 ⊢
    refine ⟨fun _ => ?_, fun c => absurd rfl c⟩
    refine s89 STX_3 (by decide) (by decide) (fun i => (l8s i).2.2.1) hb1 tc1 tw1 ?_
    rw [show ([115, 116, 97, 110, 100] : List Nat) = wSta from rfl]
    by_cases cs' : isW bf t1 wSta = true
    · rw [if_pos cs'] at h1 ⊢
      refine ⟨fun c => absurd c n01, fun _ => ?_⟩
      rw [e24]
      by_cases c : 6 ≤ nSt g
      · rw [if_pos c] at h1
        refine ⟨fun _ => ?_, fun c' => absurd ((n32_le (by omega) (by omega)).mpr c) c'⟩
        exact s20 tc1 (fun m' ce f => ⟨by decide, h1.1 _ rfl m' ce f⟩)
      · rw [if_neg c] at h1
        refine ⟨fun c' => absurd ((n32_le (by omega) (by omega)).mp c') c, fun _ => VI_xrt ?_⟩
        exact s24 hg (by omega) hb1 tc1 tw1 cs1 h1.two
    · rw [if_neg cs'] at h1 ⊢
      refine ⟨fun _ => ?_, fun c => absurd rfl c⟩
      refine s89 STX_6 (by decide) (by decide) (fun i => (l8s i).2.2.2.2.2) hb1 tc1 tw1 ?_
      rw [show ([112, 108, 97, 110] : List Nat) = wPla from rfl]
      by_cases cp : isW bf t1 wPla = true
      · rw [if_pos cp] at h1 ⊢
        refine ⟨fun c => absurd c n01, fun _ => ?_⟩
        rw [e20]
        by_cases c : 12 ≤ nPl g
        · rw [if_pos c] at h1
          refine ⟨fun _ => ?_, fun c' => absurd ((n32_le (by omega) (by omega)).mpr c) c'⟩
          exact s20 tc1 (fun m' ce f => ⟨by decide, h1.1 _ rfl m' ce f⟩)
        · rw [if_neg c] at h1
          refine ⟨fun c' => absurd ((n32_le (by omega) (by omega)).mp c') c, fun _ => VI_xrt ?_⟩
          exact s25 hg (by omega) hb1 tc1 tw1 cs1 h1.two
      · rw [if_neg cp] at h1 ⊢
        refine ⟨fun _ => ?_, fun c => absurd rfl c⟩
        exact s20 tc1 (fun m' ce f => ⟨by decide, h1.1 _ rfl m' ce f⟩)
end S97

