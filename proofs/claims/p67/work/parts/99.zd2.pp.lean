/-! The printed text parses. -/
theorem linesF_end {bf : BF} {n r : Nat} {g : PG} : linesF bf n r g (tok bf n n) = Sum.inr (g, (n, 0, n, n32 0)) := by
  rw [tok_E]
  cases r with
  | zero => rw [linesF_0, if_pos rfl]
  | succ r => rw [linesF_s, if_neg (show ¬ (0 : Nat) = 3 by decide), if_pos rfl]
theorem qFl_ne {f : Nat → List Nat} {c : Nat} (hf : ∀ k, ∃ u, f k = c :: u) {r k : Nat} (hr : 1 ≤ r) (v : List Nat) : ∃ u, qFl f r k ++ v = c :: u := by
  obtain ⟨r, rfl⟩ := Nat.exists_eq_add_of_le' hr
  obtain ⟨u, hu⟩ := hf k
  exact ⟨u ++ qFl f r (k + 1) ++ v, by show (f k ++ qFl f r (k + 1)) ++ v = _; rw [hu]; rfl⟩
theorem wPar_ok : 1 ≤ wPar.length ∧ wPar.length ≤ 8 ∧ ∀ i, i < wPar.length → isL (wPar.getD i 0) = true := by
  have H : ((List.range wPar.length).all fun i => isL (wPar.getD i 0)) = true := by decide +kernel
  exact ⟨by decide, by decide, fun i hi => List.all_eq_true.mp H i (List.mem_range.mpr hi)⟩
theorem parF_pr {bf : BF} {n b nb np ns : Nat} {m : XM} {wd : Nat → List Int32} {v : Nat → Nat} (hnb : 2 ≤ nb ∧ nb ≤ 12) (hnp : np ≤ 12) (hns : 1 ≤ ns ∧ ns ≤ 6) (hv : ∀ i, i < 6 → setLo i ≤ v i ∧ v i ≤ setHi i ∧ v i < 100)
    (hb : ∀ i, i < nb → (1 ≤ ix (m (b + 2) i) ∧ ix (m (b + 2) i) ≤ 2) ∧ (1 ≤ ix (m (b + 4) i) ∧ ix (m (b + 4) i) < 100) ∧ ix (m (b + 5) i) ≤ 20) (hp : ∀ i, i < np → (1 ≤ ix (m (b + 11) i) ∧ ix (m (b + 11) i) < 100) ∧ ix (m (b + 12) i) + 2 ≤ nb)
    (hs : ∀ i, i < ns → ix (m (b + 9) i) < 100 ∧ 1 ≤ (wd i).length ∧ (wd i).length ≤ 8 ∧ ∀ x ∈ wd i, x = n32 97 ∨ x = n32 98)
    (ha : qAt bf n 0 (wPar ++ (qFl (qNsf v) 6 0 ++ (qFl (qLb m b) nb 0 ++ (qFl (qLp m b) np 0 ++ qFl (qLs m b wd) ns 0))))) (hn : n = (wPar ++ (qFl (qNsf v) 6 0 ++ (qFl (qLb m b) nb 0 ++ (qFl (qLp m b) np 0 ++ qFl (qLs m b wd) ns 0)))).length) :
    ∃ q, parF bf n (fun _ => n32 0) = Sum.inr q ∧ q.1 6 = n32 nb ∧ q.1 7 = n32 ns ∧ q.1 8 = n32 np ∧ (∀ k, k < nb → qBk q.1 (q.1 0) k) ∧ (∀ k, k < np → q.1 (171 + 3 * k + 2) = n32 0) ∧ (∀ k, k < ns → q.1 (99 + 12 * k + 2) = n32 (wd k).length) ∧ ∀ k, k < 6 → q.1 k = n32 (v k) := by
  have b59 : ∀ k, ∃ u, qLb m b k = 59 :: u := fun k => ⟨_, rfl⟩
  have p59 : ∀ k, ∃ u, qLp m b k = 59 :: u := fun k => ⟨_, rfl⟩
  have s59 : ∀ k, ∃ u, qLs m b wd k = 59 :: u := fun k => ⟨_, rfl⟩
  obtain ⟨a1, a2⟩ := ha.app
  obtain ⟨a3, a4⟩ := a2.app
  obtain ⟨-, a6⟩ := a4.app
  obtain ⟨-, a8⟩ := a6.app
  simp only [List.length_append] at hn
  have k0 : tok bf n 0 = (0, 1, 0 + wPar.length, n32 0) := by
    refine tok_W wPar_ok.1 wPar_ok.2.1 wPar_ok.2.2 a1 (Or.inr ?_)
    have := a2.2 0 (by rw [List.length_append]; show 0 < (qNsf v 0 ++ qFl (qNsf v) 5 (0 + 1)).length + _; rw [List.length_append]; show 0 < (32 :: qdN (v 0)).length + _ + _; rw [List.length_cons]; omega)
    rw [Nat.add_zero] at this
    rw [this]; exact isL32
  obtain ⟨u1, hu1⟩ := qFl_ne (r := nb) (k := 0) b59 (by omega) (qFl (qLp m b) np 0 ++ qFl (qLs m b wd) ns 0)
  have x1 := a4.2 0 (by rw [hu1, List.length_cons]; omega)
  rw [Nat.add_zero, hu1] at x1
  obtain ⟨g1, t1, e1, e2, e3, e4⟩ := setF_pr (bf := bf) (n := n) hv 6 0 (fun _ => n32 0) (0, 1, 0 + wPar.length, n32 0) rfl (by rw [qNs_Fl]; exact a3) (Or.inr (by rw [qNs_Fl]; dsimp only; rw [x1]; exact isD59))
  rw [qNs_Fl] at e2
  dsimp only at e2
  have y2 : qNx n (0 + wPar.length + (qFl (qNsf v) 6 0).length + (qFl (qLb m b) nb 0).length) (qFl (qLp m b) np 0 ++ qFl (qLs m b wd) ns 0) := by
    right
    by_cases c : np = 0
    · subst c
      obtain ⟨u, hu⟩ := qFl_ne (r := ns) (k := 0) s59 hns.1 []
      rw [List.append_nil] at hu
      exact ⟨u, by show [] ++ _ = _; rw [List.nil_append, hu]⟩
    · exact qFl_ne p59 (by omega) _
  obtain ⟨g2, f1, f2, f3, f4⟩ := lines_bea (u := qFl (qLp m b) np 0 ++ qFl (qLs m b wd) ns 0) hnb.2 hb nb 0 (0 + wPar.length + (qFl (qNsf v) 6 0).length) (np + (ns + (700 - nb - np - ns))) g1 (Nat.zero_add _) (e3 6 (by omega)) a4 y2
  have y3 : qNx n (0 + wPar.length + (qFl (qNsf v) 6 0).length + (qFl (qLb m b) nb 0).length + (qFl (qLp m b) np 0).length) (qFl (qLs m b wd) ns 0) := by
    right
    obtain ⟨u, hu⟩ := qFl_ne (r := ns) (k := 0) s59 hns.1 []
    rw [List.append_nil] at hu
    exact ⟨u, hu⟩
  obtain ⟨g3, h1, h2, h3, h4⟩ := lines_pla (u := qFl (qLs m b wd) ns 0) hnp hnb hp np 0 (0 + wPar.length + (qFl (qNsf v) 6 0).length + (qFl (qLb m b) nb 0).length) (ns + (700 - nb - np - ns)) g2 (Nat.zero_add _) (by rw [f3 8 (by omega) (by omega)]; exact e3 8 (by omega)) f2 a6 y3
  obtain ⟨g4, i1, i2, i3, i4⟩ := lines_sta (u := []) hns.2 hs ns 0 (0 + wPar.length + (qFl (qNsf v) 6 0).length + (qFl (qLb m b) nb 0).length + (qFl (qLp m b) np 0).length) (700 - nb - np - ns) g3 (Nat.zero_add _) (by rw [h3 7 (by omega) (by omega), f3 7 (by omega) (by omega)]; exact e3 7 (by omega)) (by rw [List.append_nil]; exact a8) (Or.inl ⟨rfl, by omega⟩)
  have hlow : ∀ k, k < 6 → g4 k = n32 (v k) := fun k hk => by rw [i3 k (by omega) (by omega), h3 k (by omega) (by omega), f3 k (by omega) (by omega)]; exact e4 k (Nat.zero_le _) hk
  refine ⟨(g4, (n, 0, n, n32 0)), ?_, ?_, i2, ?_, fun k hk => ?_, fun k hk => ?_, fun k hk => i4 k (Nat.zero_le _) hk, hlow⟩
  · unfold parF
    rw [k0, isW_t a1.2, if_pos rfl, e1]
    dsimp only
    rw [e2, show (700 : Nat) = nb + (np + (ns + (700 - nb - np - ns))) by omega, f1, h1, i1]
    have hend : 0 + wPar.length + (qFl (qNsf v) 6 0).length + (qFl (qLb m b) nb 0).length + (qFl (qLp m b) np 0).length + (qFl (qLs m b wd) ns 0).length = n := by omega
    rw [hend]
    exact linesF_end
  · show g4 6 = _
    rw [i3 6 (by omega) (by omega), h3 6 (by omega) (by omega)]; exact f2
  · show g4 8 = _
    rw [i3 8 (by omega) (by omega)]; exact h2
  · obtain ⟨x, z1, z2, z3, z4, z5⟩ := f4 k (Nat.zero_le _) hk
    have hk0 : g4 0 = g1 0 := by rw [i3 0 (by omega) (by omega), h3 0 (by omega) (by omega), f3 0 (by omega) (by omega)]
    have hg : ∀ y, 15 ≤ y → y < 99 → g4 y = g2 y := fun y w1 w2 => by rw [i3 y (by omega) (by omega), h3 y (by omega) (by omega)]
    refine ⟨x, z1, ?_, ?_, ?_, ?_⟩
    · show g4 _ = _; rw [hg _ (by omega) (by omega)]; exact z2
    · show g4 _ = _; rw [hg _ (by omega) (by omega)]; exact z3
    · show g4 _ = _; rw [hg _ (by omega) (by omega)]; exact z4
    · show g4 _ = -(g4 0) * _; rw [hg _ (by omega) (by omega), hk0]; exact z5
  · show g4 _ = _
    rw [i3 _ (by omega) (by omega)]; exact h4 k (Nat.zero_le _) hk
