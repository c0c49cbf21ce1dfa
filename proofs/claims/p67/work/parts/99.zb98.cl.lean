/-! The component loads. -/
section PO98
variable {bf : BF} {n : Nat} {g : PG}
theorem bearerF_ok {t1 : TK} {q : PG × TK} (hg : PG0 g) (hn : nBr g < 12) (tw : TWF bf n t1) (h : bearerF bf n g t1 = Sum.inr q) : PG0 q.1 ∧ TWF bf n q.2 ∧ t1.2.2.1 ≤ q.2.2.2.1 := by
  unfold bearerF at h
  obtain ⟨p1, p2, p3, p4, p5, p6⟩ := tok_wf (bf := bf) tw.2.1
  have tw1 := tok_TWF (bf := bf) tw.2.1
  generalize tok bf n t1.2.2.1 = t2 at h tw1 p1 p2 p3 p4 p5 p6
  by_cases c : t2.2.1 = 1 ∧ t2.2.2.1 - t2.1 = 1
  · rw [if_pos c] at h
    obtain ⟨r1, r2, -⟩ := tok_wf (bf := bf) tw1.2.1
    have tw2 := tok_TWF (bf := bf) tw1.2.1
    generalize tok bf n t2.2.2.1 = t3 at h tw2 r1 r2
    by_cases c2 : numE (n32 1) (n32 200) t3 = 0
    · rw [if_pos c2] at h
      obtain ⟨s1, s2, -⟩ := tok_wf (bf := bf) tw2.2.1
      have tw3 := tok_TWF (bf := bf) tw2.2.1
      generalize tok bf n t3.2.2.1 = t4 at h tw3 s1 s2
      by_cases c3 : numE (n32 0) (n32 20) t4 = 0
      · rw [if_pos c3] at h
        cases h
        have hL' := (isL_iff _).mp ((p6 c.1).2 t2.1 (Nat.le_refl _) (by omega))
        exact ⟨PG0_join hg hn ⟨bf t2.1 - 96, by omega, by omega, rfl⟩ (numE_ok (by omega) (by omega) c2).2 (numE_ok (by omega) (by omega) c3).2, tw3, by dsimp only; omega⟩
      · rw [if_neg c3] at h; cases h
    · rw [if_neg c2] at h; cases h
  · rw [if_neg c] at h; cases h
theorem placeF_ok {side : Int32} {t2 : TK} {q : PG × TK} (hg : PG0 g) (hn : nSt g < 6) (hs : inR side 0 1) (tw : TWF bf n t2) (h : placeF bf n g side t2 = Sum.inr q) : PG0 q.1 ∧ TWF bf n q.2 ∧ t2.2.2.1 ≤ q.2.2.2.1 := by
  unfold placeF at h
  obtain ⟨p1, p2, -⟩ := tok_wf (bf := bf) tw.2.1
  have tw1 := tok_TWF (bf := bf) tw.2.1
  generalize tok bf n t2.2.2.1 = t3 at h tw1 p1 p2
  by_cases c2 : numE (n32 0) (n32 9999) t3 = 0
  · rw [if_pos c2] at h
    obtain ⟨s1, s2, -⟩ := tok_wf (bf := bf) tw1.2.1
    have tw3 := tok_TWF (bf := bf) tw1.2.1
    generalize tok bf n t3.2.2.1 = t4 at h tw3 s1 s2
    by_cases c3 : t4.2.1 = 1
    · rw [if_pos c3] at h
      cases h
      obtain ⟨x1, x2⟩ := tw3.2.2.2.2 c3
      have x3 := (tw3.2.2.2.1 (by omega)).2
      exact ⟨PG0_stand hg hn hs (by omega) x1 (fun i hi => x2 _ (by omega) (by omega)), tw3, by dsimp only; omega⟩
    · rw [if_neg c3] at h; cases h
  · rw [if_neg c2] at h; cases h
theorem standF_ok {t1 : TK} {q : PG × TK} (hg : PG0 g) (hn : nSt g < 6) (tw : TWF bf n t1) (h : standF bf n g t1 = Sum.inr q) : PG0 q.1 ∧ TWF bf n q.2 ∧ t1.2.2.1 ≤ q.2.2.2.1 := by
  unfold standF at h
  obtain ⟨p1, p2, -⟩ := tok_wf (bf := bf) tw.2.1
  have tw1 := tok_TWF (bf := bf) tw.2.1
  generalize tok bf n t1.2.2.1 = t2 at h tw1 p1 p2
  by_cases c : isW bf t2 wRig = true
  · rw [if_pos c] at h
    obtain ⟨a, b, d⟩ := placeF_ok hg hn ⟨1, by omega, by omega, rfl⟩ tw1 h
    exact ⟨a, b, by omega⟩
  · rw [if_neg c] at h
    by_cases c2 : isW bf t2 wLef = true
    · rw [if_pos c2] at h
      obtain ⟨a, b, d⟩ := placeF_ok hg hn ⟨0, by omega, by omega, rfl⟩ tw1 h
      exact ⟨a, b, by omega⟩
    · rw [if_neg c2] at h; cases h
theorem planF_ok {t1 : TK} {q : PG × TK} (hg : PG0 g) (hn : nPl g < 12) (tw : TWF bf n t1) (h : planF bf n g t1 = Sum.inr q) : PG0 q.1 ∧ TWF bf n q.2 ∧ t1.2.2.1 ≤ q.2.2.2.1 := by
  have a2 := hg.1.w.nb
  unfold planF at h
  obtain ⟨p1, p2, -⟩ := tok_wf (bf := bf) tw.2.1
  have tw1 := tok_TWF (bf := bf) tw.2.1
  generalize tok bf n t1.2.2.1 = t2 at h tw1 p1 p2
  by_cases c : numE (n32 1) (n32 5000) t2 = 0
  · rw [if_pos c] at h
    obtain ⟨s1, s2, -⟩ := tok_wf (bf := bf) tw1.2.1
    have tw3 := tok_TWF (bf := bf) tw1.2.1
    generalize tok bf n t2.2.2.1 = t3 at h tw3 s1 s2
    by_cases c2 : numE (n32 0) (n32 (nBr g) - n32 2) t3 = 0
    · rw [if_pos c2] at h
      cases h
      obtain ⟨-, b, hb, eb⟩ := numE_pl a2 c2
      obtain ⟨-, t, t1', t2', et⟩ := numE_ok (by omega) (by omega) c
      dsimp only
      rw [eb, et]
      exact ⟨PG0_pl hg hb hn t1' t2', tw3, by omega⟩
    · rw [if_neg c2] at h; cases h
  · rw [if_neg c] at h; cases h
theorem wordF_ok {t1 : TK} {q : PG × TK} (hg : PG0 g) (tw : TWF bf n t1) (h : wordF bf n g t1 = Sum.inr q) : PG0 q.1 ∧ TWF bf n q.2 ∧ t1.2.2.1 ≤ q.2.2.2.1 := by
  have a2 := hg.1.w.nb
  have a4 := hg.1.w.ns
  have a6 := hg.1.w.np
  unfold wordF at h
  by_cases c : isW bf t1 wBea = true
  · rw [if_pos c] at h
    by_cases d : 12 ≤ nBr g
    · rw [if_pos d] at h; cases h
    · rw [if_neg d] at h; exact bearerF_ok hg (by omega) tw h
  · rw [if_neg c] at h
    by_cases c : isW bf t1 wSta = true
    · rw [if_pos c] at h
      by_cases d : 6 ≤ nSt g
      · rw [if_pos d] at h; cases h
      · rw [if_neg d] at h; exact standF_ok hg (by omega) tw h
    · rw [if_neg c] at h
      by_cases c : isW bf t1 wPla = true
      · rw [if_pos c] at h
        by_cases d : 12 ≤ nPl g
        · rw [if_pos d] at h; cases h
        · rw [if_neg d] at h; exact planF_ok hg (by omega) tw h
      · rw [if_neg c] at h; cases h
theorem linesF_ok : ∀ (r : Nat) (g : PG) (t : TK) (q : PG × TK), PG0 g → TWF bf n t → linesF bf n r g t = Sum.inr q → PG0 q.1 := by
  intro r
  induction r with
  | zero =>
    intro g t q hg tw h
    rw [linesF_0] at h
    split at h
    · cases h; exact hg
    · cases h
  | succ r ih =>
    intro g t q hg tw h
    rw [linesF_s] at h
    by_cases c : t.2.1 = 3
    · rw [if_pos c] at h
      have tw1 := tok_TWF (bf := bf) tw.2.1
      cases hw : wordF bf n g (tok bf n t.2.2.1) with
      | inl e => rw [hw] at h; cases h
      | inr p =>
        rw [hw] at h
        obtain ⟨x1, x2, x3⟩ := wordF_ok hg tw1 hw
        exact ih _ _ q x1 (tok_TWF x2.2.1) h
    · rw [if_neg c] at h
      split at h
      · cases h; exact hg
      · cases h
theorem parF_ok {g0 : PG} {q : PG × TK} (h0 : PS0 g0 0) (h : parF bf n g0 = Sum.inr q) : PG0 q.1 := by
  unfold parF at h
  have tw := tok_TWF (bf := bf) (Nat.zero_le n)
  by_cases c : isW bf (tok bf n 0) wPar = true
  · rw [if_pos c] at h
    cases hs : setF bf n 6 0 g0 (tok bf n 0) with
    | inl e => rw [hs] at h; cases h
    | inr p =>
      rw [hs] at h
      obtain ⟨x1, x2⟩ := setF_wf 6 0 g0 _ p (by omega) h0 tw hs
      exact linesF_ok 700 _ _ q (PS0_all x1) (tok_TWF x2.2.1) h
  · rw [if_neg c] at h; cases h
/-- no word was read -/
def RG0 (g : PG) : Prop := ∀ s, s < nSt g → g (99 + 12 * s + 3) = -(n32 1)
theorem RG0_at {g g' : PG} (h : RG0 g) (e7 : g' 7 = g 7) (e : ∀ j, 99 ≤ j → j < 171 → g' j = g j) (ns : nSt g ≤ 6) : RG0 g' := by
  intro s hs
  have n7 : nSt g' = nSt g := by unfold nSt; rw [e7]
  rw [n7] at hs
  rw [e _ (by omega) (by omega)]; exact h s hs
theorem bearerF_ra {t1 : TK} {q : PG × TK} (ns : nSt g ≤ 6) (hr : RG0 g) (hn : nBr g < 12) (h : bearerF bf n g t1 = Sum.inr q) : RG0 q.1 := by
  unfold bearerF at h
  split at h
  · split at h
    · split at h
      · cases h
        exact RG0_at hr (joinG_at (g := g) (j := 7) (by omega) (by omega)) (fun j h1 h2 => joinG_at (g := g) (by omega) (by omega)) ns
      · cases h
    · cases h
  · cases h
theorem placeF_ra {side : Int32} {t2 : TK} {q : PG × TK} (hn : nSt g < 6) (hr : RG0 g) (tw : TWF bf n t2) (h : placeF bf n g side t2 = Sum.inr q) : RG0 q.1 := by
  unfold placeF at h
  have tw1 := tok_TWF (bf := bf) tw.2.1
  have tw2 := tok_TWF (bf := bf) tw1.2.1
  split at h
  · split at h
    · rename_i c
      cases h
      intro s hs
      have l8 := (tw2.2.2.2.2 c).1
      obtain ⟨-, jn⟩ := standG_7 (bf := bf) (side := side) (pl := (tok bf n t2.2.2.1).2.2.2) (s0 := (tok bf n (tok bf n t2.2.2.1).2.2.1).1) (len := (tok bf n (tok bf n t2.2.2.1).2.2.1).2.2.1 - (tok bf n (tok bf n t2.2.2.1).2.2.1).1) hn
      dsimp only at hs ⊢
      rw [jn] at hs
      by_cases e : s = nSt g
      · subst e; exact standG_3
      · rw [standG_at l8 (by omega) (by omega)]; exact hr s (by omega)
    · cases h
  · cases h
theorem wordF_ra {t1 : TK} {q : PG × TK} (hg : PG0 g) (hr : RG0 g) (tw : TWF bf n t1) (h : wordF bf n g t1 = Sum.inr q) : RG0 q.1 := by
  have a2 := hg.1.w.nb
  have a4 := hg.1.w.ns
  have a6 := hg.1.w.np
  have tw1 := tok_TWF (bf := bf) tw.2.1
  unfold wordF at h
  split at h
  · split at h
    · cases h
    · exact bearerF_ra a4 hr (by omega) h
  · split at h
    · split at h
      · cases h
      · unfold standF at h
        split at h
        · exact placeF_ra (by omega) hr tw1 h
        · split at h
          · exact placeF_ra (by omega) hr tw1 h
          · cases h
    · split at h
      · split at h
        · cases h
        · unfold planF at h
          split at h
          · split at h
            · cases h
              exact RG0_at hr (plG_at (g := g) (j := 7) (by omega) (by omega)) (fun j h1 h2 => plG_at (g := g) (by omega) (by omega)) a4
            · cases h
          · cases h
      · cases h
theorem linesF_ra : ∀ (r : Nat) (g : PG) (t : TK) (q : PG × TK), PG0 g → RG0 g → TWF bf n t → linesF bf n r g t = Sum.inr q → RG0 q.1 := by
  intro r
  induction r with
  | zero =>
    intro g t q hg hr tw h
    rw [linesF_0] at h
    split at h
    · cases h; exact hr
    · cases h
  | succ r ih =>
    intro g t q hg hr tw h
    rw [linesF_s] at h
    by_cases c : t.2.1 = 3
    · rw [if_pos c] at h
      have tw1 := tok_TWF (bf := bf) tw.2.1
      cases hw : wordF bf n g (tok bf n t.2.2.1) with
      | inl e => rw [hw] at h; cases h
      | inr p =>
        rw [hw] at h
        obtain ⟨x1, x2, x3⟩ := wordF_ok hg tw1 hw
        exact ih _ _ q x1 (wordF_ra hg hr tw1 hw) (tok_TWF x2.2.1) h
    · rw [if_neg c] at h
      split at h
      · cases h; exact hr
      · cases h
theorem parF_ra {g0 : PG} {q : PG × TK} (h0 : PS0 g0 0) (h : parF bf n g0 = Sum.inr q) : ∀ s, s < nSt q.1 → q.1 (99 + 12 * s + 3) = -(n32 1) := by
  unfold parF at h
  have tw := tok_TWF (bf := bf) (Nat.zero_le n)
  by_cases c : isW bf (tok bf n 0) wPar = true
  · rw [if_pos c] at h
    cases hs : setF bf n 6 0 g0 (tok bf n 0) with
    | inl e => rw [hs] at h; cases h
    | inr p =>
      rw [hs] at h
      obtain ⟨x1, x2⟩ := setF_wf 6 0 g0 _ p (by omega) h0 tw hs
      have r0 : RG0 p.1 := by
        intro s hs
        have : nSt p.1 = 0 := by unfold nSt; rw [x1.1 7 (by omega) (by omega)]; rfl
        rw [this] at hs; omega
      exact linesF_ra 700 _ _ q (PS0_all x1) r0 (tok_TWF x2.2.1) h
  · rw [if_neg c] at h; cases h
end PO98
section S98
variable {D : Nat} {m : XM} {g : PG} {E : Nat → XM → Prop}
theorem s69 {Q : XM → Prop} (h : ∀ m', (∀ k, k < 4 → m' 4 k = n32 0) → m' 7 0 = n32 0 → m' 16 0 = n32 0 → m' 20 0 = n32 0 → (∀ s, s < 6 → m' 6 s = -(n32 1)) → (∀ b k, ¬ (4 ≤ b ∧ b ≤ 23) → m' b k = m b k) → Q m') : VU D 69 [vR 8 4] m Q E := by
  refine w69_0 ?_
  simp only [Nat.reduceAdd]
  refine upm (C := fun i m' => VLU D 69 1 [(0, vR 8 4), (1, vI (n32 i))] [] m' Q E) (Inv := fun i m' => (∀ k, k < 4 → m' 4 k = n32 0) ∧ m' 7 0 = n32 0 ∧ m' 16 0 = n32 0 ∧ m' 20 0 = n32 0 ∧ (∀ s, s < i → m' 6 s = -(n32 1)) ∧ ∀ b k, ¬ (4 ≤ b ∧ b ≤ 23) → m' b k = m b k) (n := 6) ?_ ?_ 0 _ (Nat.zero_le _) ⟨?_, ?_, ?_, um_eq _ _ _ _, fun s hs => absurd hs (Nat.not_lt_zero s), ?_⟩
  · intro i m1 hi hI ih
    obtain ⟨i1, i2, i3, i4, i5, i6⟩ := hI
    refine w69_1 ⟨fun c => absurd ((n32_le (by omega) (by omega)).mp c) (by omega), fun _ => ⟨xin_n (by omega) (by omega), ?_⟩⟩
    rw [ix_n32 (by omega), n32_add]
    simp only [Nat.reduceAdd]
    refine ih _ ⟨fun k hk => ?_, ?_, ?_, ?_, fun s hs => ?_, fun b k hb => ?_⟩
    · rw [um_a (by omega)]; exact i1 k hk
    · rw [um_a (by omega)]; exact i2
    · rw [um_a (by omega)]; exact i3
    · rw [um_a (by omega)]; exact i4
    · by_cases e : s = i
      · subst e; rw [um_eq]
      · rw [um_k e]; exact i5 s (by omega)
    · rw [um_a (by omega)]; exact i6 b k hb
  · intro m1 hI
    obtain ⟨i1, i2, i3, i4, i5, i6⟩ := hI
    exact w69_1 ⟨fun _ => h m1 i1 i2 i3 i4 i5 i6, fun c => absurd (n32_rfl _) c⟩
  · intro k hk
    rw [um_a (by omega), um_a (by omega), um_a (by omega)]
    have : k = 0 ∨ k = 1 ∨ k = 2 ∨ k = 3 := by omega
    rcases this with rfl | rfl | rfl | rfl
    · rw [um_k (by omega), um_k (by omega), um_k (by omega), um_eq]
    · rw [um_k (by omega), um_k (by omega), um_eq]
    · rw [um_k (by omega), um_eq]
    · rw [um_eq]
  · rw [um_a (by omega), um_a (by omega), um_eq]
  · rw [um_a (by omega), um_eq]
  · intro b k hb
    rw [um_a (by omega), um_a (by omega), um_a (by omega), um_a (by omega), um_a (by omega), um_a (by omega), um_a (by omega)]
theorem t19 {bf : BF} {n : Nat} {Q : Int32 → XM → Prop} : ∀ (r k : Nat) (g : PG) (m : XM) (t : TK), k + r = 700 → PG0 g → HB m bf n → TC m t → TWF bf n t → CST m g → CRES m Q (linesF bf n r g t) → VLI (D + 7) 19 3 [(0, vR 3 1), (2, vI (n32 k))] [] m Q E := by
  intro r
  -- the end of the lines
  have fin : ∀ (g : PG) (m : XM) (t : TK), TC m t → TWF bf n t → CST m g → CRES m Q (if t.2.1 = 0 then Sum.inr (g, t) else Sum.inl (1, t.1)) → (((m (1 + 1) 5) = (n32 0) → Q (n32 1) m) ∧ (¬ (m (1 + 1) 5) = (n32 0) → VI (D + 6) 20 [vR 3 1, vI (n32 1)] m (fun x7 m7 => ((x7 = (n32 0) → Q (n32 0) m7) ∧ (¬ x7 = (n32 0) → Q (n32 1) m7))) E)) := by
    intro g m t tc tw cs h
    have k5 : m (1 + 1) 5 = n32 t.2.1 := tc.2.2.1
    have w3 := tw.2.2.1
    rw [k5]
    refine ⟨fun c => ?_, fun c => ?_⟩
    · have c := n32_inj (by omega) (by omega) c
      rw [if_pos c] at h
      exact h.2 _ rfl m cs tc (FPS.rf m)
    · have c : ¬ t.2.1 = 0 := fun e => c (by rw [e])
      rw [if_neg c] at h
      exact s20 tc (fun m' ce f => ⟨fun _ => h.1 _ rfl m' ce f, fun c => absurd rfl c⟩)
  induction r with
  | zero =>
    intro k g m t hk hg hb tc tw cs h
    rw [linesF_0] at h
    have : k = 700 := by omega
    subst this
    exact w19_3 ⟨fun _ => fin g m t tc tw cs h, fun c => absurd (n32_rfl _) c⟩
  | succ r ih =>
    intro k g m t hk hg hb tc tw cs h
    rw [linesF_s] at h
    have k5 : m (1 + 1) 5 = n32 t.2.1 := tc.2.2.1
    have w3 := tw.2.2.1
    refine w19_3 ⟨fun c => absurd ((n32_le (by omega) (by omega)).mp c) (by omega), fun _ => ⟨fun c => ?_, fun c => ?_⟩⟩
    · rw [k5] at c
      have c := n32_inj (by omega) (by omega) c
      rw [if_pos c] at h
      have tw1 := tok_TWF (bf := bf) tw.2.1
      refine s22 hg hb tc tw cs ⟨fun e he m' ce f => ⟨fun _ => ?_, fun c => absurd rfl c⟩, fun q hq m' cs' tc' f => ⟨fun c => absurd c n01, fun _ => ?_⟩⟩
      · rw [he] at h
        exact h.1 _ rfl m' ce f
      · rw [hq] at h
        obtain ⟨x1, x2, x3⟩ := wordF_ok hg tw1 hq
        have hb' := hb.pa f.pa
        refine s84 (bf := bf) (n - q.2.2.2.1) q.2.2.2.1 m' rfl x2.2.1 hb' tc'.2.1 ?_
        intro m2 tc2 f2
        rw [n32_add]
        exact ih (k + 1) q.1 m2 _ (by omega) x1 (hb'.ft f2) tc2 (tok_TWF x2.2.1) (cs'.ft f2) (CRES.sh h (f.tr f2.ps))
    · have c' : ¬ t.2.1 = 3 := fun e => c (by rw [k5, e])
      rw [if_neg c'] at h
      exact fin g m t tc tw cs h
theorem s21 {bf : BF} {n : Nat} {g0 : PG} {Q : Int32 → XM → Prop} (hb : HB m bf n) (e4 : m 2 4 = n32 0) (h1 : ¬ isW bf (tok bf n 0) wPar = true → ∀ m', CER m' (1, (tok bf n 0).1) → FPA m m' → Q (n32 0) m') (h2 : isW bf (tok bf n 0) wPar = true → ∀ e, setF bf n 6 0 g0 (tok bf n 0) = Sum.inl e → ∀ m', CER m' e → FPA m m' → Q (n32 0) m')
    (h3 : isW bf (tok bf n 0) wPar = true → ∀ q, setF bf n 6 0 g0 (tok bf n 0) = Sum.inr q → ∀ m', (∀ j, j < 6 → m' 5 j = q.1 j) → TC m' q.2 → FQ m m' → Q (n32 1) m') : VI (D + 5) 21 [vR 3 1] m Q E := by
  refine w21_0 (s84 (bf := bf) (n - 0) 0 m rfl (Nat.zero_le _) hb e4 ?_)
  intro m1 tc1 f1
  have tw1 := tok_TWF (bf := bf) (Nat.zero_le n)
  generalize tok bf n 0 = t at tc1 tw1 h1 h2 h3
  have hb1 := hb.ft f1
  have fq1 : FQ m m1 := fun b k _ c2 => f1 b k c2
  refine s89 STX_1 (by decide) (by decide) (fun i => (l8s i).1) hb1 tc1 tw1 ?_
  rw [show ([112, 97, 114, 97, 100, 101] : List Nat) = wPar from rfl]
  by_cases c : isW bf t wPar = true
  · rw [if_pos c]
    refine ⟨fun c => absurd c n01, fun _ => ?_⟩
    exact t21 6 0 g0 m1 t (by omega) hb1 tc1 tw1 (fun j hj => absurd hj (Nat.not_lt_zero j)) (fun e he m' ce f => h2 c e he m' ce (f1.pa.tr f)) (fun q hq m' x1 x2 x3 => h3 c q hq m' x1 x2 (fq1.tr x3))
  · rw [if_neg c]
    refine ⟨fun _ => ?_, fun c => absurd rfl c⟩
    exact s20 tc1 (fun m' ce f => ⟨by decide, h1 c m' ce (f1.pa.tr f)⟩)
theorem s19 {bf : BF} {n : Nat} {g0 : PG} {Q : Int32 → XM → Prop} (h0 : PS0 g0 0) (n7 : n ≤ 700) (hb : ∀ i, i < n → bf i < 256 ∧ m 3 i = n32 (bf i)) (h : (∀ e, parF bf n g0 = Sum.inl e → ∀ m', CER m' e → (∀ b k, ¬ (4 ≤ b ∧ b ≤ 28) → ¬ (b = 2 ∧ 2 ≤ k ∧ k ≤ 6) → ¬ (b = 1 ∧ (k = 3 ∨ k = 4)) → m' b k = m b k) → Q (n32 0) m') ∧ (∀ q, parF bf n g0 = Sum.inr q → ∀ m', CST m' q.1 → m' 1 3 = n32 0 → m' 1 4 = -(n32 1) → (∀ b k, ¬ (4 ≤ b ∧ b ≤ 28) → ¬ (b = 2 ∧ 2 ≤ k ∧ k ≤ 6) → ¬ (b = 1 ∧ (k = 3 ∨ k = 4)) → m' b k = m b k) → Q (n32 1) m')) : VI (D + 7) 19 [vR 3 1, vI (n32 n)] m Q E := by
  refine w19_0 ?_
  simp only [Nat.reduceAdd]
  refine s69 ?_
  intro m1 i1 i2 i3 i4 i5 i6
  refine w83_0 (s386 (s385 ?_))
  have en : imax (n32 0) (imin (n32 n) (n32 700)) = n32 n := by
    rw [imin_n (by omega) (by omega), imax_n (by omega) (by omega)]
    congr 1; omega
  rw [en]
  have fx : ∀ b k, ¬ (4 ≤ b ∧ b ≤ 28) → ¬ (b = 2 ∧ 2 ≤ k ∧ k ≤ 6) → ¬ (b = 1 ∧ (k = 3 ∨ k = 4)) → um (um (um m1 24 0 (n32 0)) 2 2 (n32 n)) 2 4 (n32 0) b k = m b k := fun b k c1 c2 c3 => by
    rw [um_o (by omega), um_o (by omega), um_o (by omega), i6 b k (by omega), um_o (by omega), um_o (by omega)]
  have a5 : ∀ s, s < 6 → um (um (um m1 24 0 (n32 0)) 2 2 (n32 n)) 2 4 (n32 0) 6 s = -(n32 1) := fun s hs => by rw [um_a (by omega), um_a (by omega), um_a (by omega)]; exact i5 s hs
  have a24 : um (um (um m1 24 0 (n32 0)) 2 2 (n32 n)) 2 4 (n32 0) 24 0 = n32 0 := by rw [um_a (by omega), um_a (by omega), um_eq]
  have a7 : um (um (um m1 24 0 (n32 0)) 2 2 (n32 n)) 2 4 (n32 0) 7 0 = n32 0 := by rw [um_a (by omega), um_a (by omega), um_a (by omega)]; exact i2
  have a16 : um (um (um m1 24 0 (n32 0)) 2 2 (n32 n)) 2 4 (n32 0) 16 0 = n32 0 := by rw [um_a (by omega), um_a (by omega), um_a (by omega)]; exact i3
  have a20 : um (um (um m1 24 0 (n32 0)) 2 2 (n32 n)) 2 4 (n32 0) 20 0 = n32 0 := by rw [um_a (by omega), um_a (by omega), um_a (by omega)]; exact i4
  have a4 : ∀ k, k < 4 → um (um (um m1 24 0 (n32 0)) 2 2 (n32 n)) 2 4 (n32 0) 4 k = n32 0 := fun k hk => by rw [um_a (by omega), um_a (by omega), um_a (by omega)]; exact i1 k hk
  have a22 : um (um (um m1 24 0 (n32 0)) 2 2 (n32 n)) 2 4 (n32 0) 2 2 = n32 n := by rw [um_k (by omega), um_eq]
  have a13 : um (um (um m1 24 0 (n32 0)) 2 2 (n32 n)) 2 4 (n32 0) 1 3 = n32 0 := by rw [um_a (by omega), um_a (by omega), um_a (by omega), i6 _ _ (by omega), um_k (by omega), um_eq]
  have a14 : um (um (um m1 24 0 (n32 0)) 2 2 (n32 n)) 2 4 (n32 0) 1 4 = -(n32 1) := by rw [um_a (by omega), um_a (by omega), um_a (by omega), i6 _ _ (by omega), um_eq]
  have a2q : um (um (um m1 24 0 (n32 0)) 2 2 (n32 n)) 2 4 (n32 0) 2 4 = n32 0 := um_eq _ _ _ _
  generalize um (um (um m1 24 0 (n32 0)) 2 2 (n32 n)) 2 4 (n32 0) = m2 at fx a5 a24 a7 a16 a20 a4 a22 a13 a14 a2q
  have hb2 : HB m2 bf n := ⟨n7, a22, fun i hi => ⟨(hb i hi).1, by rw [fx _ _ (by omega) (by omega) (by omega)]; exact (hb i hi).2⟩⟩
  have ff : ∀ m', FPA m2 m' → ∀ b k, ¬ (4 ≤ b ∧ b ≤ 28) → ¬ (b = 2 ∧ 2 ≤ k ∧ k ≤ 6) → ¬ (b = 1 ∧ (k = 3 ∨ k = 4)) → m' b k = m b k := fun m' f b k c1 c2 c3 => (f b k c1 (by omega) c3).trans (fx b k c1 c2 c3)
  unfold parF at h
  have tw := tok_TWF (bf := bf) (Nat.zero_le n)
  refine s21 (bf := bf) (n := n) (g0 := g0) hb2 a2q (fun c m' ce f => ⟨fun _ => ?_, fun c => absurd rfl c⟩) (fun c e he m' ce f => ⟨fun _ => ?_, fun c => absurd rfl c⟩) (fun c q hq m' x1 x2 x3 => ⟨fun c => absurd c n01, fun _ => ?_⟩)
  · rw [if_neg c] at h
    exact h.1 _ rfl m' ce (ff m' f)
  · rw [if_pos c, he] at h
    exact h.1 _ rfl m' ce (ff m' f)
  · rw [if_pos c, hq] at h
    obtain ⟨y1, y2⟩ := setF_wf 6 0 g0 _ q (by omega) h0 tw hq
    have pg := PS0_all y1
    have hb3 := hb2.pa x3.pa
    refine s84 (bf := bf) (n - q.2.2.2.1) q.2.2.2.1 m' rfl y2.2.1 hb3 x2.2.1 ?_
    intro m3 tc3 f3
    have z := y1.1
    have cs : CST m' q.1 := by
      have n6 : nBr q.1 = 0 := by unfold nBr; rw [z 6 (by omega) (by omega)]; rfl
      have n8 : nPl q.1 = 0 := by unfold nPl; rw [z 8 (by omega) (by omega)]; rfl
      have n10 : nL q.1 = 0 := by unfold nL; rw [z 10 (by omega) (by omega)]; rfl
      have n70 : nSt q.1 = 0 := by unfold nSt; rw [z 7 (by omega) (by omega)]; rfl
      refine ⟨?_, fun s hs => by rw [x3 _ _ (by omega) (by omega)]; exact a5 s hs, ?_, ?_⟩
      · unfold RS
        rw [n6, n8, n10]
        intro d k i hl
        rcases hl with ⟨rfl, hl⟩ | ⟨rfl, hk, rfl⟩ | ⟨rfl, hl⟩ | ⟨hk, -⟩ | ⟨hk, -⟩ | ⟨hk, -⟩
        · rw [x3 _ _ (by omega) (by omega)]
          rcases hl with ⟨rfl, rfl⟩ | ⟨rfl, rfl⟩ | ⟨rfl, rfl⟩ | ⟨rfl, rfl⟩
          · rw [z 9 (by omega) (by omega)]; exact a4 0 (by omega)
          · rw [z 11 (by omega) (by omega)]; exact a4 1 (by omega)
          · rw [z 13 (by omega) (by omega)]; exact a4 2 (by omega)
          · rw [z 14 (by omega) (by omega)]; exact a4 3 (by omega)
        · exact x1 i hk
        · rcases hl with ⟨rfl, rfl⟩ | ⟨rfl, rfl⟩ | ⟨rfl, rfl⟩
          · rw [x3 _ _ (by omega) (by omega), z 6 (by omega) (by omega)]; exact a7
          · rw [x3 _ _ (by omega) (by omega), z 10 (by omega) (by omega)]; exact a16
          · rw [x3 _ _ (by omega) (by omega), z 8 (by omega) (by omega)]; exact a20
        · omega
        · omega
        · omega
      · rw [x3 _ _ (by omega) (by omega), z 7 (by omega) (by omega)]; exact a24
      · intro s hs; rw [n70] at hs; omega
    have ps : ∀ m4, FPS m3 m4 → m4 1 3 = n32 0 ∧ m4 1 4 = -(n32 1) := fun m4 f4 => by
      rw [f4 _ _ (by omega) (by omega), f4 _ _ (by omega) (by omega), f3 _ _ (by omega), f3 _ _ (by omega), x3 _ _ (by omega) (by omega), x3 _ _ (by omega) (by omega)]
      exact ⟨a13, a14⟩
    refine t19 700 0 q.1 m3 _ (by omega) pg (hb3.ft f3) tc3 (tok_TWF y2.2.1) (cs.ft f3) ⟨fun e he m4 ce f4 => h.1 e he m4 ce (ff m4 ((x3.pa.tr f3.pa).tr f4)), fun q' hq' m4 c4 _ f4 => h.2 q' hq' m4 c4 (ps m4 f4).1 (ps m4 f4).2 (ff m4 ((x3.pa.tr f3.pa).tr f4.pa))⟩
theorem s42 {Q : XM → Prop} (w : WF g) (r : RT m 24 g) (h : ∀ m', RT m' 69 g → (∀ b k, ¬ (69 ≤ b ∧ b ≤ 73) → m' b k = m b k) → Q m') : VU (D + 1) 42 [vR 6 69, vR 6 24] m Q E := by
  have a4 := w.ns
  refine w42_0 ?_
  simp only [Nat.reduceAdd]
  refine s172n6 (by omega) (s172n6 (by omega) (s172n6 (by omega) (s172n48 (by omega) ?_)))
  have k1 : ∀ (m : XM) (a0 a1 n b k : Nat), b ≠ a1 → cpy m a0 a1 n b k = m b k := fun m a0 a1 n b k hb => by unfold cpy; rw [if_neg (fun e => hb e.1)]
  have k2 : ∀ (m : XM) (a0 a1 n k : Nat), k < n → cpy m a0 a1 n a1 k = m a0 k := fun m a0 a1 n k hk => by unfold cpy; rw [if_pos ⟨rfl, hk⟩]
  refine h _ ⟨?_, fun s hs => ?_⟩ (fun b k hb => ?_)
  · rw [k1 _ _ _ _ _ _ (by omega), k1 _ _ _ _ _ _ (by omega), k1 _ _ _ _ _ _ (by omega), k1 _ _ _ _ _ _ (by omega), um_eq]
    exact r.1
  · obtain ⟨q1, q2, q3, q4⟩ := r.2 s hs
    obtain ⟨l1, l2, -⟩ := wl w hs
    refine ⟨?_, ?_, ?_, fun i hi => ?_⟩
    · rw [k1 _ _ _ _ _ _ (by omega), k1 _ _ _ _ _ _ (by omega), k1 _ _ _ _ _ _ (by omega), k2 _ _ _ _ _ (by omega), um_a (by omega)]
      exact q1
    · rw [k1 _ _ _ _ _ _ (by omega), k1 _ _ _ _ _ _ (by omega), k2 _ _ _ _ _ (by omega), k1 _ _ _ _ _ _ (by omega), um_a (by omega)]
      exact q2
    · rw [k1 _ _ _ _ _ _ (by omega), k2 _ _ _ _ _ (by omega), k1 _ _ _ _ _ _ (by omega), k1 _ _ _ _ _ _ (by omega), um_a (by omega)]
      exact q3
    · rw [k2 _ _ _ _ _ (by omega), k1 _ _ _ _ _ _ (by omega), k1 _ _ _ _ _ _ (by omega), k1 _ _ _ _ _ _ (by omega), um_a (by omega)]
      exact q4 i hi
  · rw [k1 _ _ _ _ _ _ (by omega), k1 _ _ _ _ _ _ (by omega), k1 _ _ _ _ _ _ (by omega), k1 _ _ _ _ _ _ (by omega), um_a (by omega)]
theorem s12 {Q : XM → Prop} (h : Q (um (um m 77 0 (n32 0)) 77 1 (n32 0))) : VU D 12 [vR 2 74] m Q E := by
  refine w12_0 (w12_1 ⟨fun c => absurd c (by decide), fun _ => ⟨by decide, w12_1 ⟨fun c => absurd c (by decide), fun _ => ⟨by decide, w12_1 ⟨fun _ => ?_, fun c => absurd (by decide) c⟩⟩⟩⟩⟩)
  exact h
/-- what the component's load leaves -/
theorem cload {bf : BF} {n l : Nat} {g0 : PG} {Q : Int32 → XM → Prop} (h0 : PS0 g0 0) (l7 : l ≤ 700) (e1 : m 2 1 = n32 l) (hn : n ≤ l) (hb : ∀ i, i < n → bf i < 256 ∧ m 3 i = n32 (bf i))
    (h1 : ∀ e, parF bf n g0 = Sum.inl e → ∀ m', CER m' e → m' 2 1 = n32 0 → (∀ b k, ¬ (4 ≤ b ∧ b ≤ 28) → ¬ (b = 2 ∧ 1 ≤ k) → ¬ (b = 1 ∧ (k = 3 ∨ k = 4)) → m' b k = m b k) → E 1 m')
    (h2 : ∀ q, parF bf n g0 = Sum.inr q → ∀ m', RS m' 29 q.1 → RA m' 29 q.1 → RT m' 69 q.1 → m' 1 3 = n32 0 → m' 1 4 = -(n32 1) → m' 2 1 = n32 0 → m' 0 7 = n32 1 → m' 74 0 = n32 0 → m' 74 1 = n32 0 → m' 77 0 = n32 0 → m' 77 1 = n32 0 → (∀ b k, 78 ≤ b → m' b k = m b k) → Q (q.1 6) m') : VI (D + 9) 92 [vR 10 0, vI (n32 n)] m Q E := by
  have e1' : m (1 + 1) 1 = n32 l := e1
  refine w92_0 ⟨fun c => absurd ((n32_lt (by omega) (by omega)).mp c) (by omega), fun _ => ?_⟩
  rw [e1']
  refine ⟨fun _ => ?_, fun c => absurd ((n32_le (by omega) (by omega)).mpr hn) c⟩
  refine s19 (bf := bf) (g0 := g0) h0 (by omega) hb ⟨fun e he m1 ce f => ⟨fun _ => ?_, fun c => absurd rfl c⟩, fun q hq m1 cs x3 x4 f => ⟨fun c => absurd c n01, fun _ => ?_⟩⟩
  · simp only [Nat.reduceAdd]
    refine h1 e he _ ⟨by rw [um_a (by omega)]; exact ce.1, by rw [um_a (by omega)]; exact ce.2⟩ (um_eq _ _ _ _) (fun b k c1 c2 c3 => ?_)
    rw [um_o (by omega)]
    exact f b k c1 (by omega) c3
  · have pg := parF_ok h0 hq
    have w := pg.1.w
    have a2 := w.nb
    have a4 := w.ns
    simp only [Nat.reduceAdd]
    have cs' : CST (um m1 2 1 (n32 0)) q.1 := cs.eq (fun b k c1 c2 => um_a (by omega))
    refine s68 (by omega) ?_
    intro m2 cp
    have r2 : RS m2 29 q.1 := RS_cp w cp cs'.1
    have ra2 : RA m2 29 q.1 := fun s hs => by
      have e : m2 (29 + 2) s = um m1 2 1 (n32 0) (4 + 2) s := cp.1 2 s (Or.inr (Or.inl ⟨Or.inr rfl, by omega⟩))
      rw [e]
      have z : q.1 (99 + 12 * s + 3) = -(n32 1) := parF_ra h0 hq s hs
      rw [z]
      exact cs'.2.1 s (by omega)
    have rt2 : RT m2 24 q.1 := RT_eq cs'.2.2 (fun d k hd => cp.2 _ _ (by omega))
    refine s42 w rt2 ?_
    intro m3 rt3 f3
    have r3 : RS m3 29 q.1 := RS_eq r2 (fun d k hd _ _ => f3 _ _ (by omega))
    have ra3 : RA m3 29 q.1 := fun s hs => by rw [f3 _ _ (by omega)]; exact ra2 s hs
    have back : ∀ b k, ¬ (29 ≤ b ∧ b < 49) → ¬ (69 ≤ b ∧ b ≤ 73) → m3 b k = um m1 2 1 (n32 0) b k := fun b k c1 c2 => by rw [f3 b k c2]; exact cp.2 b k (by omega)
    refine s12 ?_
    have e32 : um (um (um (um (um m3 74 0 (n32 0)) 74 1 (n32 0)) 77 0 (n32 0)) 77 1 (n32 0)) 0 7 (n32 1) 32 0 = q.1 6 := by
      rw [um_a (by omega), um_a (by omega), um_a (by omega), um_a (by omega), um_a (by omega)]
      exact r3.nb
    rw [e32]
    have un : ∀ b k, b ≠ 74 → b ≠ 77 → b ≠ 0 → um (um (um (um (um m3 74 0 (n32 0)) 74 1 (n32 0)) 77 0 (n32 0)) 77 1 (n32 0)) 0 7 (n32 1) b k = m3 b k := fun b k c1 c2 c3 => by
      rw [um_a c3, um_a c2, um_a c2, um_a c1, um_a c1]
    refine h2 q hq _ (RS_eq r3 (fun d k hd _ _ => un _ _ (by omega) (by omega) (by omega))) (fun s hs => by rw [un _ _ (by omega) (by omega) (by omega)]; exact ra3 s hs) (RT_eq rt3 (fun d k hd => un _ _ (by omega) (by omega) (by omega))) ?_ ?_ ?_ (um_eq _ _ _ _) ?_ ?_ ?_ ?_ ?_
    · rw [un _ _ (by omega) (by omega) (by omega), back _ _ (by omega) (by omega), um_a (by omega)]; exact x3
    · rw [un _ _ (by omega) (by omega) (by omega), back _ _ (by omega) (by omega), um_a (by omega)]; exact x4
    · rw [un _ _ (by omega) (by omega) (by omega), back _ _ (by omega) (by omega), um_eq]
    · rw [um_a (by omega), um_a (by omega), um_a (by omega), um_k (by omega), um_eq]
    · rw [um_a (by omega), um_a (by omega), um_a (by omega), um_eq]
    · rw [um_a (by omega), um_k (by omega), um_eq]
    · rw [um_a (by omega), um_eq]
    · intro b k hb'
      rw [un _ _ (by omega) (by omega) (by omega), back _ _ (by omega) (by omega), um_a (by omega)]
      exact f b k (by omega) (by omega) (by omega)
end S98

