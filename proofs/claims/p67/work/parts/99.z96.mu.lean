/-! The march's text: its stands; the whole. -/
section QMU
variable {K : XK} {d : Nat} {e : Nat} {w : Nat → Value} {Q : Option Value → XS → Prop} {T : List XC} {mT : XM}
theorem qw179_10 {a b L nb ns np p : Nat} {l0 : List Int32} {ws : List (Option Nat)} {wd : Nat → List Int32} (hV : qMV T mT a b L nb ns np nb ns np ws) (hW : qWd T mT b L ws ns wd) (hN : T.length + 100 < 900000) (hl0 : l0.length ≤ 140) : ∀ (i j : Nat) (S : List XC) (m : XM) (v cap c : Nat), j + i = ns → c + 5 * i ≤ 80 → qTB T mT S m p v cap (qTsta mT b wd l0 j) c →
    (∀ (S' : List XC) (m' : XM) (v' cap' : Nat), qTB T mT S' m' p v' cap' (qTsta mT b wd l0 ns) (c + 5 * i) → qL K (d + 6) 179 15 [(1, .ref p)] [] (S', e, w, m') Q) →
    qL K (d + 6) 179 10 [(0, .ref a), (1, .ref p), (2, .int (n32 j))] [] (S, e, w, m) Q := by
  intro i
  have hns := hV.2.2.2.1
  induction i with
  | zero =>
    intro j S m v cap c hj hc h cont
    have hj' : j = ns := by omega
    subst hj'
    have hq := h.2.2.2.2
    have hms := hV.1
    have hbl := hms.2.2.2.2.1
    have hab := hms.2.2.2.2.2
    have hma := hq.2.2.2.2 a (by omega) (fun q => q)
    refine qL_at km179 k179_10 ?_
    iterate 2 refine qB_one rfl rfl ?_
    refine q_getV (hma.1.trans hms.1) (v := n32 j) (by rw [hma.2]; exact hns.1) rfl ?_
    refine qB_icT (Int32.le_refl _) ?_
    exact qL_ls km179 k179_15 (cont S m v cap h) rfl
  | succ i ih =>
    intro j S m v cap c hj hc h cont
    have hq := h.2.2.2.2
    have hms := hV.1
    have hbl := hms.2.2.2.2.1
    have hab := hms.2.2.2.2.2
    have hma := hq.2.2.2.2 a (by omega) (fun q => q)
    obtain ⟨b8, b9, -⟩ := hV.2.2.2.2.2.2.1 j (by omega)
    obtain ⟨f1, f2, f3⟩ := qNum_ix b9 (by omega)
    obtain ⟨tw, vw, x1, x2, x3, x4⟩ := hW.2 j (by omega)
    have hwl := hW.1 j
    have hlen := qTsta_len mT b wd l0 hW.1 j
    have h15 : qt15.length = 7 := rfl
    have hd4 := qdg_le (k := ix (mT (b + 9) j))
    have arr : ∀ k, k < 14 → ∀ {S1 : List XC} {m1 : XM} {v1 cap1 c1 : Nat} {l1 : List Int32}, qTB T mT S1 m1 p v1 cap1 l1 c1 → S1[b + k]? = some (20, qmn.getD k 0, []) ∧ m1 (b + k) = mT (b + k) ∧ S1[a]? = some (11, 24, (List.range 16).map (fun i => some (b + i)) ++ List.replicate 8 none) ∧ S1[b + 14]? = some (26, 6, ws) := fun k hk S1 m1 v1 cap1 c1 l1 h1 => by
      have q1 := h1.2.2.2.2
      obtain ⟨z1, z2⟩ := q1.2.2.2.2 (b + k) (by omega) (fun q => q)
      exact ⟨z1.trans (hms.2.1 k hk), z2, ((q1.2.2.2.2 a (by omega) (fun q => q)).1).trans hms.1, ((q1.2.2.2.2 (b + 14) (by omega) (fun q => q)).1).trans hms.2.2.1⟩
    have hls : ∀ n, T.length ≤ n → p < n → (([(0, .ref a), (1, .ref p), (2, .int (n32 j))] : XL).all fun q => xok n q.2) = true := fun n h1 h2 => by
      show (xok n (Value.ref a) && (xok n (Value.ref p) && (true && true))) = true
      rw [xokR (show a < n by omega), xokR h2]; rfl
    refine qL_at km179 k179_10 ?_
    iterate 2 refine qB_one rfl rfl ?_
    refine q_getV (hma.1.trans hms.1) (v := n32 ns) (by rw [hma.2]; exact hns.1) rfl ?_
    refine qB_icF (fun q => ?_) ?_
    · have := (n32_le (a := ns) (b := j) (by omega) (by omega)).mp q
      omega
    refine qB_gow (qL_at km179 k179_11 ?_)
    show qB K (d + 6) 179 8 _ [(0, .ref a), (1, .ref p), (2, .int (n32 j))] [] _ _
    iterate 2 refine qB_one rfl rfl ?_
    refine q_apS h (by omega) (qTc_at (j := 15) (l := qt15) rfl (by omega) rfl) (by omega) hls (fun S1 m1 v1 cap1 h1 => ?_)
    iterate 1 refine qB_one rfl rfl ?_
    refine q_getR (arr 8 (by omega) h1).2.2.1 (qM_at hms (i := 8) (by omega)) rfl ?_
    iterate 1 refine qB_one rfl rfl ?_
    refine q_ialV (i := j) (arr 8 (by omega) h1).1 (by show j < 6; omega) (by show (6 : Nat) ≤ 100000; omega) (v := mT (b + 8) j) (by rw [(arr 8 (by omega) h1).2.1]) ?_
    have rest : ∀ (tt : Nat) (l2 : List Int32), qTv T mT tt (tt + 30) l2 → l2.length ≤ 6 → l2 = (if mT (b + 8) j = 0 then qt16 else qt17) → qL K (d + 6) 179 14 [(0, .ref a), (1, .ref p), (2, .int (n32 j))] [.ref tt, .ref p] (S1, e, w, m1) Q := by
      intro tt l2 ht hl2 he
      refine qL_at km179 k179_14 ?_
      show qB K (d + 6) 179 8 _ [(0, .ref a), (1, .ref p), (2, .int (n32 j))] [.ref tt, .ref p] _ _
      refine q_apS h1 (by omega) ht (by simp only [List.length_append]; omega) hls (fun S2 m2 v2 cap2 h2 => ?_)
      iterate 1 refine qB_one rfl rfl ?_
      refine q_getR (arr 9 (by omega) h2).2.2.1 (qM_at hms (i := 9) (by omega)) rfl ?_
      iterate 1 refine qB_one rfl rfl ?_
      refine q_ialV (i := j) (arr 9 (by omega) h2).1 (by show j < 6; omega) (by show (6 : Nat) ≤ 100000; omega) (v := n32 (ix (mT (b + 9) j))) (by rw [(arr 9 (by omega) h2).2.1]; exact f1) ?_
      refine q_apI h2 (by omega) (by simp only [List.length_append]; omega) rfl (by omega) hls (fun S3 m3 v3 cap3 h3 => ?_)
      iterate 1 refine qB_one rfl rfl ?_
      refine q_apC h3 (by omega) (by simp only [List.length_append]; omega) (ch := n32 32) ⟨by decide, by decide⟩ hls (fun S4 m4 v4 cap4 h4 => ?_)
      iterate 1 refine qB_one rfl rfl ?_
      refine q_getR (arr 9 (by omega) h4).2.2.1 (qM_at hms (i := 14) (by omega)) rfl ?_
      iterate 1 refine qB_one rfl rfl ?_
      refine q_aal (b := tw) (arr 9 (by omega) h4).2.2.2 (Or.inr rfl) (xin_n (by omega) (by omega)) (by rw [show (n32 j).toNatClampNeg = j from ix_n32 (by omega)]; exact x1) ?_
      refine q_apS h4 (by omega) (Or.inl x2) (by simp only [List.length_append, List.length_singleton]; omega) hls (fun S5 m5 v5 cap5 h5 => ?_)
      iterate 1 refine qB_one rfl rfl ?_
      refine qB_one (ls' := [(2, .int (n32 (j + 1))), (0, .ref a), (1, .ref p)]) (st' := []) rfl (by rw [← n32_add]; rfl) ?_
      subst he
      refine qB_go (qL_ls km179 k179_10 (ih (j + 1) S5 m5 v5 cap5 (c + 1 + 1 + 1 + 1 + 1) (by omega) (by omega) h5 (fun S' m' v' cap' h' => cont S' m' v' cap' ?_)) rfl)
      rw [show c + 5 * (i + 1) = c + 1 + 1 + 1 + 1 + 1 + 5 * i by omega]; exact h'
    refine qB_if (fun hne => ?_) (fun hne => ?_)
    · refine qL_at km179 k179_13 ?_
      iterate 1 refine qB_one rfl rfl ?_
      refine qB_gow (qL_ls km179 k179_14 (rest 1000027 qt17 (qTc_at (j := 17) rfl (by omega) rfl) (Nat.le_of_ble_eq_true rfl) ?_) rfl)
      rw [if_neg hne]
    · refine qB_gow (qL_at km179 k179_12 ?_)
      iterate 1 refine qB_one rfl rfl ?_
      refine qB_go (qL_ls km179 k179_14 (rest 1000026 qt16 (qTc_at (j := 16) rfl (by omega) rfl) (Nat.le_of_ble_eq_true rfl) ?_) rfl)
      rw [if_pos (Decidable.not_not.mp hne)]
/-- the whole text -/
def qtext (m : XM) (b nb np ns : Nat) (wd : Nat → List Int32) : List Int32 := qTsta m b wd (qTpla m b (qTbea m b (qTset m b 6) nb) np) ns
theorem qc179 {a b L nb ns np : Nat} {ws : List (Option Nat)} {wd : Nat → List Int32} (hV : qMV T mT a b L nb ns np nb ns np ws) (hW : qWd T mT b L ws ns wd) (hG : qG T) (hN : T.length + 100 < 800000) : qM K (d + 9) 179 [.ref a] (T, e, w, mT) (fun r σ' => ∃ t vt S' m', r = some (.ref t) ∧ σ' = (S', e, w, m') ∧ qTm S' m' t vt (qtext mT b nb np ns wd) ∧ T.length ≤ t ∧ T.length ≤ vt ∧ qS T mT S' m' (fun _ => False) 90 ∧ qG S') := by
  have hms := hV.1
  have hbl := hms.2.2.2.2.1
  have hab := hms.2.2.2.2.2
  have hal : a < T.length := by omega
  refine qL_at km179 k179_0 ?_
  refine q_new (c := 12) (by decide) (qfresh hG (by omega) rfl (by show (xok T.length (Value.ref a) && true) = true; rw [xokR hal]; rfl)) ?_
  show qB K (d + 9) 179 8 _ [(0, .ref a)] _ (T ++ [((12, 4, [none, none, none, none]) : XC)], e, w, _) _
  have q1 : qS T mT (T ++ [((12, 4, [none, none, none, none]) : XC)]) (uz mT T.length) (fun _ => False) 1 := qS_push (by omega) (fun q hq => by simp at hq; exact hq) (fun x hx => uz_ne (by omega))
  have hNB : qNB (T ++ [((12, 4, [none, none, none, none]) : XC)]) (uz mT T.length) T.length := ⟨ap_end, uz_at, uz_at⟩
  have hl1 : (T ++ [((12, 4, [none, none, none, none]) : XC)]).length = T.length + 1 := by rw [List.length_append]; rfl
  iterate 2 refine qB_one rfl rfl ?_
  refine qB_ip km188 (Nat.le_of_ble_eq_true rfl) (qrecv hNB.1 (by decide)) (Nat.le_of_ble_eq_true rfl) (Nat.le_of_ble_eq_true rfl) (qc188 (vt := 1000022 + 30) (l := qt12) hNB (qTc_at (j := 12) rfl (by omega) rfl) (q1.2.2.2.1 hG) (by rw [hl1]; omega) (by omega) (Nat.le_of_ble_eq_true rfl)) ?_
  rintro v1 σ1 ⟨rfl, S2, m2, v2, cap2, rfl, hB, hv2, q2⟩
  refine ⟨Or.inr ⟨by show (xok _ (Value.ref a) && true) = true; rw [xokR (show a < List.length _ by rw [hl1]; omega)]; rfl, by show (xok _ (Value.ref T.length) && true) = true; rw [xokR (show T.length < List.length _ by rw [hl1]; omega)]; rfl⟩, ?_⟩
  rw [hl1] at hv2
  have hTB : qTB T mT S2 m2 T.length v2 cap2 (qTset mT b 0) 3 := ⟨hB, q2.2.2.2.1 (q1.2.2.2.1 hG), Nat.le_refl _, by omega, q1.tr q2 (fun _ _ q => q) (fun x hx q => by omega) (Nat.le_refl _)⟩
  have hq := hTB.2.2.2.2
  have hma := hq.2.2.2.2 a hal (fun q => q)
  have hmb := hq.2.2.2.2 b (by omega) (fun q => q)
  iterate 2 refine qB_one rfl rfl ?_
  refine q_getR (b := b) (hma.1.trans hms.1) (qM_at hms (i := 0) (by omega)) rfl ?_
  iterate 2 refine qB_one rfl rfl ?_
  refine q_alen (hmb.1.trans (hms.2.1 0 (by omega))) (Or.inl rfl) ?_
  iterate 3 refine qB_one rfl rfl ?_
  refine qB_gow (qL_ls km179 k179_1 (qw179_1 (d := d + 3) (p := T.length) hV (by omega) 6 0 S2 m2 v2 cap2 3 rfl (by omega) hTB ?_) rfl)
  intro S3 m3 v3 cap3 h3
  refine qL_at km179 k179_3 ?_
  iterate 2 refine qB_one rfl rfl ?_
  have ln3 := qTset_len mT b 6
  refine qB_gow (qL_ls km179 k179_4 (qw179_4 (d := d + 3) (p := T.length) (l0 := qTset mT b 6) hV (by omega) (by omega) nb 0 S3 m3 v3 cap3 (3 + 2 * 6) (Nat.zero_add _) (by have := hV.2.2.1.2.2; omega) h3 ?_) rfl)
  intro S4 m4 v4 cap4 h4
  have hnb := hV.2.2.1.2
  have hns := hV.2.2.2.1.2
  have hnp := hV.2.2.2.2.1.2
  refine qL_at km179 k179_6 ?_
  iterate 2 refine qB_one rfl rfl ?_
  have ln4 := qTbea_len mT b (qTset mT b 6) nb
  refine qB_gow (qL_ls km179 k179_7 (qw179_7 (d := d + 3) (p := T.length) (l0 := qTbea mT b (qTset mT b 6) nb) hV (by omega) (by omega) np 0 S4 m4 v4 cap4 (3 + 2 * 6 + 6 * nb) (Nat.zero_add _) (by omega) h4 ?_) rfl)
  intro S5 m5 v5 cap5 h5
  refine qL_at km179 k179_9 ?_
  iterate 2 refine qB_one rfl rfl ?_
  have ln5 := qTpla_len mT b (qTbea mT b (qTset mT b 6) nb) np
  refine qB_gow (qL_ls km179 k179_10 (qw179_10 (d := d + 3) (p := T.length) (l0 := qTpla mT b (qTbea mT b (qTset mT b 6) nb) np) hV hW (by omega) (by omega) ns 0 S5 m5 v5 cap5 (3 + 2 * 6 + 6 * nb + 4 * np) (Nat.zero_add _) (by omega) h5 ?_) rfl)
  intro S6 m6 v6 cap6 h6
  have q6 := h6.2.2.2.2
  have l6 := q6.1
  have l6b := q6.2.1
  refine qL_at km179 k179_15 ?_
  iterate 1 refine qB_one rfl rfl ?_
  refine qB_iv km194 (Nat.le_of_ble_eq_true rfl) (qrecv h6.1.1 (by decide)) (Nat.le_of_ble_eq_true rfl) (Nat.le_of_ble_eq_true rfl) (qc194 h6.1 h6.2.1 (by omega)) ?_
  rintro v1 σ1 ⟨rfl, S7, m7, rfl, hT, q7⟩
  refine ⟨Or.inr ⟨by show (xok S6.length (Value.ref T.length) && true) = true; rw [xokR (ap_lt h6.1.1)]; rfl, rfl⟩, ?_⟩
  exact qB_aret ⟨_, _, S7, m7, rfl, rfl, hT, l6, by omega, q6.tr q7 (fun _ _ q => q) (fun _ _ q => q) (by omega), q7.2.2.2.1 h6.2.1⟩
end QMU
