/-! The class's calls, each alone: what is seen, what would be, and the changes. -/
section CL5
variable {D : Nat} {m : XM} {g : PG} {E : Nat → XM → Prop} {u z : Option PG} {sl B : Nat}
theorem c104 {s : Nat} (h : CLS m g u sl z B) (hs : s < nSt g) : VI (D + 12) 104 [vR 10 0, vI (n32 s)] m (fun r m' => r = bset (nBr g) (fun b => seesG g s b) ∧ FLR m m') E := by
  obtain ⟨h1, ⟨r1, r2, r3, T, X, hT, si⟩, -, -⟩ := h
  have w := si.w
  have a4 := w.ns
  have h69 : m 69 0 = n32 (nSt g) := by rw [r3.1]; exact w.2.1.1
  refine w104_0 ⟨fun c => absurd (h1.symm.trans c) n01, fun _ => ⟨fun c => absurd ((n32_lt (by omega) (by omega)).mp c) (by omega), fun _ => ⟨fun _ => ?_, fun c => absurd (by rw [h69]; exact (n32_lt (by omega) (by omega)).mpr hs) c⟩⟩⟩
  refine s169 w r1 r3 hs ?_
  exact ⟨rfl, FLR.rf m⟩
theorem c106 {s : Nat} (h : CLS m g u sl z B) (hs : s < nSt g) : VI (D + 12) 106 [vR 10 0, vI (n32 s)] m (fun r m' => r = (if rdG g s = true then n32 1 else n32 0) ∧ FLR m m') E := by
  obtain ⟨h1, ⟨r1, r2, r3, T, X, hT, si⟩, -, -⟩ := h
  have w := si.w
  have a4 := w.ns
  have h69 : m 69 0 = n32 (nSt g) := by rw [r3.1]; exact w.2.1.1
  refine w106_0 ⟨fun c => absurd (h1.symm.trans c) n01, fun _ => ⟨fun c => absurd ((n32_lt (by omega) (by omega)).mp c) (by omega), fun _ => ⟨fun _ => ?_, fun c => absurd (by rw [h69]; exact (n32_lt (by omega) (by omega)).mpr hs) c⟩⟩⟩
  refine s161 w r1 r3 hs ?_
  intro m1 hT1 fd
  have rt1 := RT_fd (r := 278) r3 fd (Or.inr (by omega))
  refine s39 w hT1 rt1 hs ⟨xrt_if, ?_⟩
  exact ⟨rfl, FD.r fd⟩
theorem c107 {s : Nat} (h : CLS m g u sl z B) (hs : s < nSt g) : VF (D + 12) 107 [vR 10 0, vI (n32 s)] m (fun r m' => r = shareG g s ∧ FLR m m') E := by
  obtain ⟨h1, ⟨r1, r2, r3, T, X, hT, si⟩, -, -⟩ := h
  have w := si.w
  have a4 := w.ns
  have h69 : m 69 0 = n32 (nSt g) := by rw [r3.1]; exact w.2.1.1
  refine w107_0 ⟨fun c => absurd (h1.symm.trans c) n01, fun _ => ⟨fun c => absurd ((n32_lt (by omega) (by omega)).mp c) (by omega), fun _ => ⟨fun _ => ?_, fun c => absurd (by rw [h69]; exact (n32_lt (by omega) (by omega)).mpr hs) c⟩⟩⟩
  refine s161 w r1 r3 hs ?_
  intro m1 hT1 fd
  have rt1 := RT_fd (r := 278) r3 fd (Or.inr (by omega))
  refine s40 w hT1 rt1 hs ?_
  exact ⟨rfl, FD.r fd⟩
theorem c128 {b n : Nat} (h : CLS m g u sl z B) (hB : B ≤ 5000) (hb : b < nBr g) (hn : n ≤ 300) : VI (D + 12) 128 [vR 10 0, vI (n32 b), vI (n32 n)] m (fun r m' => r = bq (tkn g n) b 1 ∧ FLR m m') E := by
  obtain ⟨h1, ⟨r1, r2, r3, T, X, hT, si⟩, -, -⟩ := h
  have w := si.w
  have a2 := w.nb
  have e3 : m (29 + 3) 0 = n32 (nBr g) := by rw [r1.nb]; exact w.1.1
  refine w128_0 ⟨fun c => absurd (h1.symm.trans c) n01, fun _ => ⟨fun c => absurd ((n32_lt (by omega) (by omega)).mp c) (by omega), fun _ => ⟨fun _ => ?_, fun c => absurd (by rw [e3]; exact (n32_lt (by omega) (by omega)).mpr hb) c⟩⟩⟩
  refine ⟨fun c => absurd ((n32_lt (by omega) (by omega)).mp c) (by omega), fun _ => ⟨fun c => absurd ((n32_lt (by omega) (by omega)).mp c) (by omega), fun _ => ?_⟩⟩
  refine s163 si (by omega) hn r1 ?_
  intro m1 rl fl
  have hb' : b < nBr (tkn g n) := by rw [(tkn_keeps si (by omega) n (by omega)).2.1]; exact hb
  rw [ix_n32 (show b < 2147483648 by omega), rl.pla hb']
  exact ⟨xin_n (by omega) (by omega), rfl, FL.r fl⟩
theorem c129 {b n : Nat} (h : CLS m g u sl z B) (hB : B ≤ 5000) (hb : b < nBr g) (hn : n ≤ 300) : VI (D + 12) 129 [vR 10 0, vI (n32 b), vI (n32 n)] m (fun r m' => r = bq (tkn g n) b 4 ∧ FLR m m') E := by
  obtain ⟨h1, ⟨r1, r2, r3, T, X, hT, si⟩, -, -⟩ := h
  have w := si.w
  have a2 := w.nb
  have e3 : m (29 + 3) 0 = n32 (nBr g) := by rw [r1.nb]; exact w.1.1
  refine w129_0 ⟨fun c => absurd (h1.symm.trans c) n01, fun _ => ⟨fun c => absurd ((n32_lt (by omega) (by omega)).mp c) (by omega), fun _ => ⟨fun _ => ?_, fun c => absurd (by rw [e3]; exact (n32_lt (by omega) (by omega)).mpr hb) c⟩⟩⟩
  refine ⟨fun c => absurd ((n32_lt (by omega) (by omega)).mp c) (by omega), fun _ => ⟨fun c => absurd ((n32_lt (by omega) (by omega)).mp c) (by omega), fun _ => ?_⟩⟩
  refine s163 si (by omega) hn r1 ?_
  intro m1 rl fl
  have hb' : b < nBr (tkn g n) := by rw [(tkn_keeps si (by omega) n (by omega)).2.1]; exact hb
  rw [ix_n32 (show b < 2147483648 by omega), rl.str hb']
  exact ⟨xin_n (by omega) (by omega), rfl, FL.r fl⟩
theorem c130 {b n : Nat} (h : CLS m g u sl z B) (hB : B ≤ 5000) (hb : b < nBr g) (hn : n ≤ 300) : VI (D + 12) 130 [vR 10 0, vI (n32 b), vI (n32 n)] m (fun r m' => r = bq (tkn g n) b 0 ∧ FLR m m') E := by
  obtain ⟨h1, ⟨r1, r2, r3, T, X, hT, si⟩, -, -⟩ := h
  have w := si.w
  have a2 := w.nb
  have e3 : m (29 + 3) 0 = n32 (nBr g) := by rw [r1.nb]; exact w.1.1
  refine w130_0 ⟨fun c => absurd (h1.symm.trans c) n01, fun _ => ⟨fun c => absurd ((n32_lt (by omega) (by omega)).mp c) (by omega), fun _ => ⟨fun _ => ?_, fun c => absurd (by rw [e3]; exact (n32_lt (by omega) (by omega)).mpr hb) c⟩⟩⟩
  refine ⟨fun c => absurd ((n32_lt (by omega) (by omega)).mp c) (by omega), fun _ => ⟨fun c => absurd ((n32_lt (by omega) (by omega)).mp c) (by omega), fun _ => ?_⟩⟩
  refine s163 si (by omega) hn r1 ?_
  intro m1 rl fl
  have hb' : b < nBr (tkn g n) := by rw [(tkn_keeps si (by omega) n (by omega)).2.1]; exact hb
  rw [ix_n32 (show b < 2147483648 by omega), rl.ban hb']
  exact ⟨xin_n (by omega) (by omega), rfl, FL.r fl⟩
theorem c131 {n : Nat} (h : CLS m g u sl z B) (hB : B ≤ 5000) (hn : n ≤ 300) : VI (D + 12) 131 [vR 10 0, vI (n32 n)] m (fun r m' => r = tkn g n 13 - g 13 ∧ FLR m m') E := by
  obtain ⟨h1, ⟨r1, r2, r3, T, X, hT, si⟩, -, -⟩ := h
  refine w131_0 ⟨fun c => absurd (h1.symm.trans c) n01, fun _ => ?_⟩
  refine ⟨fun c => absurd ((n32_lt (by omega) (by omega)).mp c) (by omega), fun _ => ⟨fun c => absurd ((n32_lt (by omega) (by omega)).mp c) (by omega), fun _ => ?_⟩⟩
  refine s163 si (by omega) hn r1 ?_
  intro m1 rl fl
  rw [rl.dr, (RS_fl fl r1).dr]
  exact ⟨rfl, FL.r fl⟩
theorem c152 (h : m 74 1 = n32 0) : VI (D + 12) 152 [vR 10 0] m (fun r m' => r = n32 0 ∧ m' = m) E := w152_0 ⟨h, rfl⟩
/-- the picture is put by, for the step behind it -/
theorem rem_k {o k : Nat} {Q : XM → Prop} (ho : m 74 0 = n32 o) (hk : m 74 1 = n32 k) (o8 : o < 8) (k8 : k ≤ 8)
    (h : ∀ mc, (∀ d j, cpv d j → mc (78 + 20 * ((o + k) % 8) + d) j = m (29 + d) j) → (∃ o' k', mc 74 0 = n32 o' ∧ o' < 8 ∧ mc 74 1 = n32 k' ∧ k' ≤ 8 ∧ 1 ≤ k' ∧ (o' + (k' - 1)) % 8 = (o + k) % 8) → (∀ x j, x ≠ 74 → ¬ (78 + 20 * ((o + k) % 8) ≤ x ∧ x < 78 + 20 * ((o + k) % 8) + 20) → mc x j = m x j) → Q mc) : VU (D + 4) 13 [vR 2 74, vR 8 29] m Q E := by
  refine s13 ho hk o8 k8 ?_
  intro m1 cp
  have j8 : (o + k) % 8 < 8 := Nat.mod_lt _ (by omega)
  have ei : ∀ x j, x ≠ 74 → (if k < 8 then um m1 74 1 (n32 (k + 1)) else um m1 74 0 (n32 ((o + 1) % 8))) x j = m1 x j := by
    intro x j hx
    split
    · exact um_a hx
    · exact um_a hx
  refine h _ (fun d j hd => ?_) ?_ (fun x j hx hx2 => ?_)
  · rw [ei _ _ (by omega)]
    exact cp.1 d j hd
  · by_cases q : k < 8
    · rw [if_pos q]
      refine ⟨o, k + 1, ?_, o8, um_eq _ _ _ _, by omega, by omega, by omega⟩
      rw [um_k (by omega), cp.2 74 0 (by omega)]; exact ho
    · rw [if_neg q]
      refine ⟨(o + 1) % 8, 8, um_eq _ _ _ _, by omega, ?_, by omega, by omega, by omega⟩
      rw [um_k (by omega), cp.2 74 1 (by omega), hk]
      congr 1; omega
  · rw [ei x j hx]; exact cp.2 x j (by omega)
theorem k142 {n : Nat} (h : CLS m g u sl z B) (hB : B + n ≤ 5000) (n1 : 1 ≤ n) (hn : n ≤ 100) : VI (D + 12) 142 [vR 10 0, vI (n32 n)] m (fun r m' => r = n32 (rdN (tkn g n)) - n32 (rdN g) ∧ CLS m' (tkn g n) (some g) sl z (B + n)) E := by
  have h' := h
  obtain ⟨h1, ⟨r1, r2, r3, T, X, hT, si⟩, ⟨o, k, ho, o8, hk, k8, -⟩, -⟩ := h
  have w := si.w
  have a4 := w.ns
  have e9 : g 9 = n32 T := si.2.1
  refine w142_0 ⟨fun c => absurd (h1.symm.trans c) n01, fun _ => ⟨fun c1 => absurd ((n32_lt (by omega) (by omega)).mp c1) (by omega), fun _ => ⟨fun c2 => absurd ((n32_lt (by omega) (by omega)).mp c2) (by omega), fun _ => ⟨fun c3 => ?_, fun _ => ?_⟩⟩⟩⟩
  · rw [r1.tm, e9, n32_add, n32_lt (by omega) (by omega)] at c3
    exact absurd c3 (by omega)
  · refine rem_k ho hk o8 k8 ?_
    intro mc c1 c2 c3
    have q8 : (o + k) % 8 < 8 := Nat.mod_lt _ (by omega)
    have rc : RS mc 29 g := RS_eq r1 (fun d j hd _ _ => c3 _ _ (by omega) (by omega))
    have rac : RA mc 29 g := fun s hs => by rw [c3 _ _ (by omega) (by omega)]; exact r2 s hs
    have rtc : RT mc 69 g := RT_eq r3 (fun d k hd => c3 _ _ (by omega) (by omega))
    refine s166 w rac rtc ?_
    refine c142 si (by omega) hn rc rac rtc ?_
    intro m2 rs2 ra2 f2
    have si2 := SI_tkn si (by omega) n (by omega)
    refine ⟨?_, CLS_chg h' (by omega) q8 c1 c2 c3 f2 rs2 ra2 ⟨T + n, _, by omega, si2⟩ (fun j j1 j2 j3 => tkn_st si (by omega) ⟨j1, j2⟩ j3 n (by omega)) (tkn_lo si (by omega) (by omega) n (by omega))⟩
    have bb := (bits_bset (n := nSt g) (fun s => decide (¬ g (99 + 12 * s + 3) = -(n32 1))) (by omega)).1
    show n32 (rdN (tkn g n)) - bitc _ = _
    rw [bb]
    rfl
theorem k144 {b : Nat} (h : CLS m g u sl z B) (hb : b < nBr g) (hp : ¬ g (15 + 7 * b) = n32 0) : VI (D + 12) 144 [vR 10 0, vI (n32 b)] m (fun r m' => r = dropG g b 10 ∧ CLS m' (dropG g b) (some g) sl z B) E := by
  have h' := h
  obtain ⟨h1, ⟨r1, r2, r3, T, X, hT, si⟩, ⟨o, k, ho, o8, hk, k8, -⟩, -⟩ := h
  have w := si.w
  have a2 := w.nb
  have a4 := w.ns
  have a9 := w.nl
  have e3 : m (29 + 3) 0 = n32 (nBr g) := by rw [r1.nb]; exact w.1.1
  refine w144_0 ⟨fun c => absurd (h1.symm.trans c) n01, fun _ => ⟨fun c => absurd ((n32_lt (by omega) (by omega)).mp c) (by omega), fun _ => ⟨fun _ => ?_, fun c => absurd (by rw [e3]; exact (n32_lt (by omega) (by omega)).mpr hb) c⟩⟩⟩
  rw [ix_n32 (show b < 2147483648 by omega), r1.ban hb]
  refine ⟨xin_n (by omega) (by omega), fun c => absurd c hp, fun c => ?_⟩
  have c' : ¬ g (15 + 7 * b) ≤ n32 0 := fun e => c ((weak_iff w hb).mpr e)
  have kk := WF_dropG w hb c'
  refine rem_k ho hk o8 k8 ?_
  intro mc c1 c2 c3
  have q8 : (o + k) % 8 < 8 := Nat.mod_lt _ (by omega)
  have rc : RS mc 29 g := RS_eq r1 (fun d j hd _ _ => c3 _ _ (by omega) (by omega))
  refine s76 w rc hb c' ?_
  intro m2 rs2 fr2
  refine ⟨rs2.nl, CLS_chg h' (Nat.le_refl _) q8 c1 c2 c3 (fun x j hx _ => fr2 x j (by omega)) rs2 (fun s hs => ?_) ⟨T, X + 1, hT, SI_drop si hb c'⟩ (fun j j1 j2 _ => dropG_at g b (by omega) (by omega) (by omega) (by omega) (by omega) (by omega)) (dropG_at g b (by omega) (by omega) (by omega) (by omega) (by omega) (by omega))⟩
  rw [kk.2.2.1] at hs
  rw [fr2 _ _ (by omega), c3 _ _ (by omega) (by omega), r2 s hs, dropG_at g b (by omega) (by omega) (by omega) (by omega) (by omega) (by omega)]
theorem k145 {b j : Nat} (h : CLS m g u sl z B) (hb : b < nBr g) (hp : g (15 + 7 * b) = n32 0) (hs4 : ¬ g (15 + 7 * b + 4) < g 4) (hj : j < nL g) (ej : lieG g (g (15 + 7 * b + 1)) (g (15 + 7 * b + 1)) = n32 j) : VI (D + 12) 145 [vR 10 0, vI (n32 b)] m (fun r m' => r = pickG g b j (15 + 7 * b) ∧ CLS m' (pickG g b j) (some g) sl z B) E := by
  have h' := h
  obtain ⟨h1, ⟨r1, r2, r3, T, X, hT, si⟩, ⟨o, k, ho, o8, hk, k8, -⟩, -⟩ := h
  have w := si.w
  have a2 := w.nb
  have a4 := w.ns
  have a9 := w.nl
  have e3 : m (29 + 3) 0 = n32 (nBr g) := by rw [r1.nb]; exact w.1.1
  refine w145_0 ⟨fun c => absurd (h1.symm.trans c) n01, fun _ => ⟨fun c => absurd ((n32_lt (by omega) (by omega)).mp c) (by omega), fun _ => ⟨fun _ => ?_, fun c => absurd (by rw [e3]; exact (n32_lt (by omega) (by omega)).mpr hb) c⟩⟩⟩
  rw [ix_n32 (show b < 2147483648 by omega), r1.pla hb]
  refine ⟨xin_n (by omega) (by omega), s8g w r1 ?_⟩
  rw [r1.ban hb, r1.str hb, ix_n32 (show 4 < 2147483648 by omega), r1.se (k := 4) (by omega), ej]
  refine ⟨fun c1 => ⟨fun c2 => absurd c2 hs4, fun c2 => ⟨fun c3 => absurd c3 (n32_nm1 (by omega)), fun c3 => ?_⟩⟩, fun c1 => absurd hp c1⟩
  have kk := WF_pickG w hb hp hj
  refine rem_k ho hk o8 k8 ?_
  intro mc c1' c2' c3'
  have q8 : (o + k) % 8 < 8 := Nat.mod_lt _ (by omega)
  have rc : RS mc 29 g := RS_eq r1 (fun d j hd _ _ => c3' _ _ (by omega) (by omega))
  refine s78 w rc hb hp hj ?_
  intro m2 rs2 fr2
  have pat : ∀ i, i ≠ 14 → i ≠ 10 → i ≠ 15 + 7 * b → i < 207 → pickG g b j i = g i := fun i i1 i2 i3 i4 => pickG_at g b j i1 i2 i3 (Or.inl (by omega))
  refine ⟨rs2.ban (by rw [kk.2.1]; exact hb), CLS_chg h' (Nat.le_refl _) q8 c1' c2' c3' (fun x j hx _ => fr2 x j (by omega)) rs2 (fun s hs => ?_) ⟨T, X, hT, SI_pick si hb hp hj⟩ (fun j j1 j2 _ => pat j (by omega) (by omega) (by omega) (by omega)) (pat 7 (by omega) (by omega) (by omega) (by omega))⟩
  rw [kk.2.2.1] at hs
  rw [fr2 _ _ (by omega), c3' _ _ (by omega) (by omega), r2 s hs, pat _ (by omega) (by omega) (by omega) (by omega)]
theorem k146 {b : Nat} {v : Int32} (h : CLS m g u sl z B) (hb : b < nBr g) (v1 : ¬ v < -(n32 100)) (v2 : ¬ n32 100 < v) : VI (D + 12) 146 [vR 10 0, vI (n32 b), vI v] m (fun r m' => r = strG g b v (15 + 7 * b + 4) ∧ CLS m' (strG g b v) (some g) sl z B) E := by
  have h' := h
  obtain ⟨h1, ⟨r1, r2, r3, T, X, hT, si⟩, ⟨o, k, ho, o8, hk, k8, -⟩, -⟩ := h
  have w := si.w
  have a2 := w.nb
  have a4 := w.ns
  have e3 : m (29 + 3) 0 = n32 (nBr g) := by rw [r1.nb]; exact w.1.1
  refine w146_0 ⟨fun c => absurd (h1.symm.trans c) n01, fun _ => ⟨fun c => absurd ((n32_lt (by omega) (by omega)).mp c) (by omega), fun _ => ⟨fun _ => ?_, fun c => absurd (by rw [e3]; exact (n32_lt (by omega) (by omega)).mpr hb) c⟩⟩⟩
  refine ⟨fun c1 => absurd c1 v1, fun _ => ⟨fun c2 => absurd c2 v2, fun _ => ?_⟩⟩
  refine rem_k ho hk o8 k8 ?_
  intro mc c1 c2 c3
  have q8 : (o + k) % 8 < 8 := Nat.mod_lt _ (by omega)
  have rc : RS mc 29 g := RS_eq r1 (fun d j hd _ _ => c3 _ _ (by omega) (by omega))
  have rm2 := RS_str (v := v) w rc hb
  have kk := WF_strG (v := v) w hb
  refine s52 (by omega) ?_
  refine ⟨xin_n (by omega) (by omega), ?_⟩
  rw [ix_n32 (show b < 2147483648 by omega), um_eq]
  refine ⟨?_, CLS_chg h' (Nat.le_refl _) q8 c1 c2 c3 (fun x j hx _ => um_a (by omega)) rm2 (fun s hs => ?_) ⟨T, X, hT, SI_str si hb⟩ (fun j j1 j2 _ => strG_at (by omega)) (strG_at (by omega))⟩
  · rw [rc.str hb]
    exact (gup_eq _ _ _).symm
  · rw [kk.2.2.1] at hs
    rw [um_a (by omega), c3 _ _ (by omega) (by omega), r2 s hs, strG_at (by omega)]
theorem k151 {x : PG} (h : CLS m g (some x) sl z B) : VI (D + 12) 151 [vR 10 0] m (fun r m' => (∃ k, k ≤ 8 ∧ r = n32 k) ∧ CLS m' x none sl z B) E := by
  obtain ⟨h1, hS, ⟨o, k, ho, o8, hk, k8, hx⟩, hz⟩ := h
  obtain ⟨k1, hX⟩ := hx x rfl
  have q8 : (o + (k - 1)) % 8 < 8 := Nat.mod_lt _ (by omega)
  refine w151_0 ⟨fun c => ?_, fun _ => w14_0 ⟨fun c => ?_, fun _ => ?_⟩⟩
  · rw [hk] at c
    exact absurd (n32_inj (by omega) (by omega) c) (by omega)
  · rw [hk] at c
    exact absurd ((n32_le (by omega) (by omega)).mp c) (by omega)
  · have e0 : um m 74 1 (m 74 1 - n32 1) 74 0 = n32 o := by rw [um_k (by omega)]; exact ho
    have e1' : um m 74 1 (m 74 1 - n32 1) 74 1 = n32 (k - 1) := by rw [um_eq, hk, n32_sub (by omega)]
    rw [e0, e1', n32_add, mod8 (o + (k - 1)) (by omega), ix_n32 (show (o + (k - 1)) % 8 < 2147483648 by omega)]
    refine ⟨xin_n q8 (by omega), ?_⟩
    rw [hk, n32_sub (by omega)]
    refine s17 (a1 := 78 + 20 * ((o + (k - 1)) % 8)) (by omega) ?_
    intro m1 cp
    generalize hq : (o + (k - 1)) % 8 = q at cp q8 hX
    have bk : ∀ b j, ¬ (29 ≤ b ∧ b < 49) → ¬ (b = 74 ∧ j = 1) → m1 b j = m b j := by
      intro b j x1 x2
      rw [cp.2 b j (by omega)]
      unfold um
      rw [if_neg x2]
    have k1' : m1 74 1 = n32 (k - 1) := by rw [cp.2 74 1 (by omega), um_eq]
    have fR : ∀ d j, d < 5 → m1 (69 + d) j = m (69 + d) j := fun d j hd => bk _ _ (by omega) (by omega)
    refine ⟨⟨k - 1, by omega, k1'⟩, by rw [bk 0 7 (by omega) (by omega)]; exact h1, Sx_to hX (Nat.le_refl _) (fun d j hd => ?_) fR, ⟨o, k - 1, by rw [bk 74 0 (by omega) (by omega)]; exact ho, o8, k1', by omega, fun y hy => by cases hy⟩, fun y hy => ?_⟩
    · have hd20 : d < 20 := by rcases hd with hd | hd | hd | hd <;> omega
      rw [cp.1 d j hd, um_a (by omega)]
    · obtain ⟨y1, y2, y3⟩ := hz y hy
      exact ⟨y1, by rw [bk 77 sl (by omega) (by omega)]; exact y2, Sx_eq y3 (Nat.le_refl _) (fun d j hd _ => bk _ _ (by omega) (by omega)) fR⟩
theorem k153 {s : Nat} (h : CLS m g u sl z B) (hs : s < 2) : VI (D + 12) 153 [vR 10 0, vI (n32 s)] m (fun r m' => r = g 9 ∧ CLS m' g u s (some g) B) E := by
  obtain ⟨h1, hS, ⟨o, k, ho, o8, hk, k8, hx⟩, -⟩ := h
  refine w153_0 ⟨fun c => absurd (h1.symm.trans c) n01, fun _ => ?_⟩
  refine ⟨fun c => absurd ((n32_lt (by omega) (by omega)).mp c) (by omega), fun _ => ⟨fun _ => w15_0 ⟨xin_n hs (by omega), ?_⟩, fun c => absurd ((n32_lt (by omega) (by omega)).mpr hs) c⟩⟩
  rw [ix_n32 (show s < 2147483648 by omega)]
  refine s17 (a0 := 74 + 2 + 162 + 20 * s) (by omega) ?_
  intro m1 cp
  refine ⟨xin_n hs (by omega), ?_⟩
  generalize hm2 : um m1 (74 + 3) s (n32 1) = m2
  have f2 : ∀ b j, ¬ (b = 77 ∧ j = s) → m2 b j = m1 b j := by
    intro b j x1
    rw [← hm2]; unfold um; rw [if_neg x1]
  have bk : ∀ b j, ¬ (238 + 20 * s ≤ b ∧ b < 238 + 20 * s + 20) → ¬ (b = 77 ∧ j = s) → m2 b j = m b j := by
    intro b j x1 x2
    rw [f2 b j x2]; exact cp.2 b j (by omega)
  have v9 : m2 29 0 = g 9 := by rw [bk 29 0 (by omega) (by omega)]; exact hS.1.tm
  have fR : ∀ d j, d < 5 → m2 (69 + d) j = m (69 + d) j := fun d j hd => bk _ _ (by omega) (by omega)
  refine ⟨v9, by rw [bk 0 7 (by omega) (by omega)]; exact h1, Sx_eq hS (Nat.le_refl _) (fun d j hd _ => bk _ _ (by omega) (by omega)) fR, ⟨o, k, by rw [bk 74 0 (by omega) (by omega)]; exact ho, o8, by rw [bk 74 1 (by omega) (by omega)]; exact hk, k8, fun y hy => ?_⟩, fun y hy => ?_⟩
  · obtain ⟨y1, y2⟩ := hx y hy
    have : (o + (k - 1)) % 8 < 8 := Nat.mod_lt _ (by omega)
    exact ⟨y1, Sx_eq y2 (Nat.le_refl _) (fun d j hd _ => bk _ _ (by omega) (by omega)) fR⟩
  · cases hy
    refine ⟨hs, by rw [← hm2, um_eq], Sx_to hS (Nat.le_refl _) (fun d j hd => ?_) fR⟩
    have hd20 : d < 20 := by rcases hd with hd | hd | hd | hd <;> omega
    rw [f2 _ _ (by omega)]
    exact cp.1 d j hd
theorem k154 {x : PG} (h : CLS m g u sl (some x) B) : VI (D + 12) 154 [vR 10 0, vI (n32 sl)] m (fun r m' => r = x 9 ∧ CLS m' x none sl (some x) B ∧ m' 74 1 = n32 0) E := by
  obtain ⟨h1, hS, -, hz⟩ := h
  obtain ⟨hs, hf, hX⟩ := hz x rfl
  refine w154_0 ⟨fun c => absurd ((n32_lt (by omega) (by omega)).mp c) (by omega), fun _ => ⟨fun _ => ⟨xin_n hs (by omega), ?_⟩, fun c => absurd ((n32_lt (by omega) (by omega)).mpr hs) c⟩⟩
  rw [ix_n32 (show sl < 2147483648 by omega)]
  refine ⟨fun c => absurd (hf.symm.trans c) n01, fun _ => w16_0 ⟨xin_n hs (by omega), ?_⟩⟩
  rw [ix_n32 (show sl < 2147483648 by omega)]
  refine s17 (a1 := 74 + 2 + 162 + 20 * sl) (by omega) ?_
  intro m1 cp
  generalize hm2 : um (um m1 74 0 (n32 0)) 74 1 (n32 0) = m2
  have f2 : ∀ b j, ¬ (b = 74 ∧ (j = 0 ∨ j = 1)) → m2 b j = m1 b j := by
    intro b j y1
    rw [← hm2]; unfold um; rw [if_neg (by omega), if_neg (by omega)]
  have bk : ∀ b j, ¬ (29 ≤ b ∧ b < 49) → ¬ (b = 74 ∧ (j = 0 ∨ j = 1)) → m2 b j = m b j := by
    intro b j y1 y2
    rw [f2 b j y2]; exact cp.2 b j (by omega)
  have t2 : m2 29 0 = x 9 := by
    rw [f2 29 0 (by omega)]
    have := cp.1 0 0 (Or.inl ⟨rfl, by omega⟩)
    rw [Nat.add_zero] at this
    rw [this]
    exact hX.1.tm
  have fR : ∀ d j, d < 5 → m2 (69 + d) j = m (69 + d) j := fun d j hd => bk _ _ (by omega) (by omega)
  have z0 : m2 74 0 = n32 0 := by rw [← hm2, um_k (by omega), um_eq]
  have z1 : m2 74 1 = n32 0 := by rw [← hm2, um_eq]
  refine ⟨t2, ⟨by rw [bk 0 7 (by omega) (by omega)]; exact h1, Sx_to hX (Nat.le_refl _) (fun d j hd => ?_) fR, ⟨0, 0, z0, by omega, z1, by omega, fun y hy => by cases hy⟩, fun y hy => ?_⟩, z1⟩
  · have hd20 : d < 20 := by rcases hd with hd | hd | hd | hd <;> omega
    rw [f2 _ _ (by omega)]
    exact cp.1 d j hd
  · cases hy
    exact ⟨hs, by rw [bk 77 sl (by omega) (by omega)]; exact hf, Sx_eq hX (Nat.le_refl _) (fun d j hd _ => bk _ _ (by omega) (by omega)) fR⟩
end CL5
