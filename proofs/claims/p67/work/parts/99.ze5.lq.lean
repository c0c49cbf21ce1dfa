/-! The law's loop: dropping and picking up. -/
theorem lie_ex {g : PG} (wf : WF g) {k : Nat} {p : Int32} (hk : k < nL g) (hp : g (207 + 3 * k + 1) = p) : ∃ j, j < nL g ∧ lieG g p p = n32 j := by
  have a2 := wf.nb
  have a9 := wf.nl
  rcases lieG_rng g p p (by omega) with c | c
  · exfalso
    have := (bst_none (by omega)).mp c
    have c1 : 0 < cnt (nL g) (fun k => decide (¬ g (207 + 3 * k + 1) < p) && decide (¬ p < g (207 + 3 * k + 1))) := cnt_pos.mpr ⟨k, hk, by
      rw [hp, decide_eq_true (Int32.lt_irrefl), Bool.and_self]⟩
    omega
  · exact c
section ZE5
variable {K : XK} {d : Nat} {T : List XC} {e : Nat} {w : Nat → Value} {m : XM} {a q : Nat} {g : PG} {u : Option PG} {s : Nat} {x : PG} {B c i : Nat} {k5 : Int32} {Q : Option Value → XS → Prop}
theorem qw181_17 (h : qLS T m a q g u s x B c) (hi : i < 22) (hB : B ≤ 16 * (i + 1)) (hc1 : c + 1 ≤ 200 + 10 * (i + 1)) {b : Nat} (hb : b < nBr g) (nx : qNX K d a i e w Q) : qL K (d + 15) 181 17 [(0, .ref 1000000), (1, .ref 0), (3, .ref a), (4, .int (n32 i)), (5, .int k5), (6, .int (n32 s)), (7, .ref q), (8, .int (n32 b))] [] (S0 ++ T, e, w, m) Q := by
  have hc : c ≤ 1000 := by omega
  refine qL_at km181 k181_17 ?_
  show qB K (d + 15) 181 2 _ [(0, .ref 1000000), (1, .ref 0), (3, .ref a), (4, .int (n32 i)), (5, .int k5), (6, .int (n32 s)), (7, .ref q), (8, .int (n32 b))] [] _ _
  iterate 3 refine qB_one rfl rfl ?_
  refine qB_iv km98 (Nat.le_of_ble_eq_true rfl) (qrecv (hcls _) (by decide)) (Nat.le_of_ble_eq_true rfl) (Nat.le_of_ble_eq_true rfl) (q98 (d := d + 2) (b := b) (i := 0) h.1 hb (by omega) (h.hT hc)) ?_
  rintro v1 σ1 ⟨rfl, y4, rfl, c1, f1, f2⟩
  refine ⟨Or.inl rfl, ?_⟩
  replace h := h.ask c1 f2
  by_cases hp : g (15 + 7 * b) ≤ n32 0
  · refine qB_ifT hp ?_
    exact qL_ls km181 k181_27 (qw181_27 h hi hB hc1 hb nx) rfl
  refine qB_ifF hp ?_
  refine qB_gow (qL_at km181 k181_18 ?_)
  show qB K (d + 15) 181 2 _ [(0, .ref 1000000), (1, .ref 0), (3, .ref a), (4, .int (n32 i)), (5, .int k5), (6, .int (n32 s)), (7, .ref q), (8, .int (n32 b))] [] _ _
  iterate 5 refine qB_one rfl rfl ?_
  refine qB_if (fun _ => qL_ls km181 k181_27 (qw181_27 h hi hB hc1 hb nx) rfl) (fun _ => ?_)
  have wf := h.wf
  have a2 := wf.nb
  have a9 := wf.nl
  have a8 := wf.lc
  have b12 : b < 12 := by omega
  have hp0 := (ban_pos wf hb hp).2
  have p3 := carried_pos wf hb hp0
  obtain ⟨e1, e2⟩ := nL_dropG wf hb
  have kk := WF_dropG wf hb hp
  have lw2 := LW_drop wf hb hp h.2.1.1
  have e5 : cq g 5 = n32 (nL g) := wf.2.2.2.1.1
  generalize hl : nL g = l at e1 e2 e5 a9 a8
  refine qB_gow (qL_at km181 k181_19 ?_)
  show qB K (d + 15) 181 2 _ [(0, .ref 1000000), (1, .ref 0), (3, .ref a), (4, .int (n32 i)), (5, .int k5), (6, .int (n32 s)), (7, .ref q), (8, .int (n32 b))] [] _ _
  iterate 2 refine qB_one rfl rfl ?_
  refine qB_iv km96 (Nat.le_of_ble_eq_true rfl) (qrecv (hcls _) (by decide)) (Nat.le_of_ble_eq_true rfl) (Nat.le_of_ble_eq_true rfl) (q96 (d := d + 2) (j := 5) h.1 (by omega) (h.hT hc)) ?_
  rintro v1 σ1 ⟨rfl, y5, rfl, c1, f1, f2⟩
  refine ⟨Or.inl rfl, ?_⟩
  replace h := h.ask c1 f2
  rw [e5]
  iterate 4 refine qB_one rfl rfl ?_
  refine qB_iv km98 (Nat.le_of_ble_eq_true rfl) (qrecv (hcls _) (by decide)) (Nat.le_of_ble_eq_true rfl) (Nat.le_of_ble_eq_true rfl) (q98 (d := d + 2) (b := b) (i := 0) h.1 hb (by omega) (h.hT hc)) ?_
  rintro v1 σ1 ⟨rfl, y6, rfl, c1, f1, f2⟩
  refine ⟨Or.inl rfl, ?_⟩
  replace h := h.ask c1 f2
  iterate 3 refine qB_one rfl rfl ?_
  refine qB_iv km144 (Nat.le_of_ble_eq_true rfl) (qrecv (hcls _) (by decide)) (Nat.le_of_ble_eq_true rfl) (Nat.le_of_ble_eq_true rfl) (q144 (d := d + 2) (b := b) h.1 hb hp0 (h.hT hc)) ?_
  rintro v1 σ1 ⟨y, rfl, hy, m9, rfl, c1, f2⟩
  refine ⟨Or.inl rfl, ?_⟩
  replace h := h.k c1 f2 lw2 kk.2.1
  replace hb : b < nBr (dropG g b) := by rw [kk.2.1]; exact hb
  have x1 : dropG g b (207 + 3 * l) = g (15 + 7 * b) := by
    subst hl
    unfold dropG; rw [gup_ne (by omega), gup_ne (by omega), gup_ne (by omega), gup_ne (by omega), gup_ne (by omega), gup_eq]
  have x2 : dropG g b (207 + 3 * l + 1) = g (15 + 7 * b + 1) := by
    subst hl
    unfold dropG; rw [gup_ne (by omega), gup_ne (by omega), gup_ne (by omega), gup_ne (by omega), gup_eq]
  have x3 : dropG g b (15 + 7 * b + 1) = g (15 + 7 * b + 1) := dropG_at g b (by omega) (by omega) (by omega) (by omega) (by omega) (by omega)
  have x4 : dropG g b (15 + 7 * b) = n32 0 := by unfold dropG; rw [gup_eq]
  have wf2 := kk.1
  rw [e1] at hy
  clear kk e5 hp0 wf e1 lw2
  generalize dropG g b = g2 at h hb x1 x2 x3 x4 wf2 e2
  have hl2 : l < nL g2 := by omega
  iterate 3 refine qB_one rfl rfl ?_
  refine qB_icF (fun z => z (by rw [hy, ← n32_add]; rfl)) ?_
  refine qB_gow (qL_at km181 k181_20 ?_)
  show qB K (d + 15) 181 2 _ [(0, .ref 1000000), (1, .ref 0), (3, .ref a), (4, .int (n32 i)), (5, .int k5), (6, .int (n32 s)), (7, .ref q), (8, .int (n32 b)), (14, .int (n32 l)), (15, .int (bq g b 0))] [] _ _
  iterate 3 refine qB_one rfl rfl ?_
  refine qB_iv km101 (Nat.le_of_ble_eq_true rfl) (qrecv (hcls _) (by decide)) (Nat.le_of_ble_eq_true rfl) (Nat.le_of_ble_eq_true rfl) (q101 (d := d + 2) (k := l) (i := 0) h.1 hl2 (by omega) (h.hT hc)) ?_
  rintro v1 σ1 ⟨rfl, y7, rfl, c1, f1, f2⟩
  refine ⟨Or.inl rfl, ?_⟩
  replace h := h.ask c1 f2
  iterate 1 refine qB_one rfl rfl ?_
  refine qB_icF (fun z => z x1) ?_
  refine qB_gow (qL_at km181 k181_21 ?_)
  show qB K (d + 15) 181 2 _ [(0, .ref 1000000), (1, .ref 0), (3, .ref a), (4, .int (n32 i)), (5, .int k5), (6, .int (n32 s)), (7, .ref q), (8, .int (n32 b)), (14, .int (n32 l))] [] _ _
  iterate 3 refine qB_one rfl rfl ?_
  refine qB_iv km98 (Nat.le_of_ble_eq_true rfl) (qrecv (hcls _) (by decide)) (Nat.le_of_ble_eq_true rfl) (Nat.le_of_ble_eq_true rfl) (q98 (d := d + 2) (b := b) (i := 0) h.1 hb (by omega) (h.hT hc)) ?_
  rintro v1 σ1 ⟨rfl, y8, rfl, c1, f1, f2⟩
  refine ⟨Or.inl rfl, ?_⟩
  replace h := h.ask c1 f2
  refine qB_ifT x4 ?_
  refine qL_at km181 k181_23 ?_
  show qB K (d + 15) 181 2 _ [(0, .ref 1000000), (1, .ref 0), (3, .ref a), (4, .int (n32 i)), (5, .int k5), (6, .int (n32 s)), (7, .ref q), (8, .int (n32 b)), (14, .int (n32 l))] [] _ _
  iterate 3 refine qB_one rfl rfl ?_
  refine qB_iv km98 (Nat.le_of_ble_eq_true rfl) (qrecv (hcls _) (by decide)) (Nat.le_of_ble_eq_true rfl) (Nat.le_of_ble_eq_true rfl) (q98 (d := d + 2) (b := b) (i := 4) h.1 hb (by omega) (h.hT hc)) ?_
  rintro v1 σ1 ⟨rfl, y9, rfl, c1, f1, f2⟩
  refine ⟨Or.inl rfl, ?_⟩
  replace h := h.ask c1 f2
  iterate 2 refine qB_one rfl rfl ?_
  refine qB_iv km97 (Nat.le_of_ble_eq_true rfl) (qrecv (hcls _) (by decide)) (Nat.le_of_ble_eq_true rfl) (Nat.le_of_ble_eq_true rfl) (q97 (d := d + 2) (j := 4) h.1 (by omega) (h.hT hc)) ?_
  rintro v1 σ1 ⟨rfl, y10, rfl, c1, f1, f2⟩
  refine ⟨Or.inl rfl, ?_⟩
  replace h := h.ask c1 f2
  refine qB_ic (fun _ => qL_ls km181 k181_27 (qw181_27 h hi hB hc1 hb nx) rfl) (fun hs4 => ?_)
  obtain ⟨j, hj, ej⟩ := lie_ex wf2 hl2 x2
  rw [← x3] at ej
  obtain ⟨z, z1, z2, z3⟩ := wf2.l0 hj
  have b2 := wf2.nb
  have b9 := wf2.nl
  have kk := WF_pickG wf2 hb x4 hj
  have lw3 := LW_pick wf2 hb x4 hj h.2.1.1
  have y1 : pickG g2 b j (15 + 7 * b) = n32 z := by rw [pickG_b g2 (by omega)]; exact z3
  have y2 : pickG g2 b j 10 = n32 l := by rw [pickG_10 g2 (by omega), wf2.2.2.2.1.1, e2, n32_sub (by omega), Nat.add_sub_cancel]
  refine qB_gow (qL_at km181 k181_24 ?_)
  show qB K (d + 15) 181 2 _ [(0, .ref 1000000), (1, .ref 0), (3, .ref a), (4, .int (n32 i)), (5, .int k5), (6, .int (n32 s)), (7, .ref q), (8, .int (n32 b)), (14, .int (n32 l))] [] _ _
  iterate 2 refine qB_one rfl rfl ?_
  refine qB_iv km145 (Nat.le_of_ble_eq_true rfl) (qrecv (hcls _) (by decide)) (Nat.le_of_ble_eq_true rfl) (Nat.le_of_ble_eq_true rfl) (q145 (d := d + 2) (b := b) (j := j) h.1 hb x4 hs4 hj ej (h.hT hc)) ?_
  rintro v1 σ1 ⟨y, rfl, hy3, m10, rfl, c1, f2⟩
  refine ⟨Or.inl rfl, ?_⟩
  replace h := h.k c1 f2 lw3 kk.2.1
  replace hb : b < nBr (pickG g2 b j) := by rw [kk.2.1]; exact hb
  rw [y1] at hy3
  generalize pickG g2 b j = g3 at h hb y2
  refine qB_ifF (fun c => ?_) ?_
  · have c : y = n32 0 := c
    rw [hy3] at c
    have := n32_inj (by omega) (by omega) c
    omega
  refine qB_gow (qL_at km181 k181_25 ?_)
  show qB K (d + 15) 181 2 _ [(0, .ref 1000000), (1, .ref 0), (3, .ref a), (4, .int (n32 i)), (5, .int k5), (6, .int (n32 s)), (7, .ref q), (8, .int (n32 b)), (14, .int (n32 l))] [] _ _
  iterate 2 refine qB_one rfl rfl ?_
  refine qB_iv km96 (Nat.le_of_ble_eq_true rfl) (qrecv (hcls _) (by decide)) (Nat.le_of_ble_eq_true rfl) (Nat.le_of_ble_eq_true rfl) (q96 (d := d + 2) (j := 5) h.1 (by omega) (h.hT hc)) ?_
  rintro v1 σ1 ⟨rfl, y11, rfl, c1, f1, f2⟩
  refine ⟨Or.inl rfl, ?_⟩
  replace h := h.ask c1 f2
  iterate 1 refine qB_one rfl rfl ?_
  refine qB_icT y2 ?_
  exact qL_ls km181 k181_27 (qw181_27 h hi hB hc1 hb nx) rfl
end ZE5
