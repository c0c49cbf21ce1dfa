/-! The pair load. -/
theorem BY_neg : ∀ n, n < 256 → 128 ≤ n → ((n32 n).toInt8.toInt32).toInt < 0 := by decide +kernel
theorem BB_of {x y : Int32} (h : BY x y) : ix x < 256 ∧ x = n32 (ix x) ∧ BB (ix x) y := by
  obtain ⟨n, h1, h2, h3⟩ := h
  have e : ix x = n := by rw [h2, ix_n32 (by omega)]
  rw [e]
  refine ⟨h1, h2, ?_⟩
  by_cases c : n < 128
  · exact Or.inl ⟨c, by rw [h3, byt n c]⟩
  · exact Or.inr ⟨by omega, h1, by rw [h3]; exact BY_neg n h1 (by omega)⟩
def G00 : PG := fun _ => n32 0
theorem PS00 : PS0 G00 0 := ⟨fun _ _ _ => rfl, fun j hj => absurd hj (Nat.not_lt_zero j)⟩
section S99e
variable {D : Nat} {m : XM} {g : PG} {E : Nat → XM → Prop} {bf : BF} {n : Nat}
theorem r201 {l : Nat} {Q : Int32 → XM → Prop} (l7 : l ≤ 700) (e9 : m 283 9 = n32 l) (hn : n ≤ l) (hb : ∀ i, i < n → BB (bf i) (m 289 i))
    (he : ∀ e, parF bf n G00 = Sum.inl e → ∀ m', m' 283 0 = n32 2 → m' 283 10 = n32 e.1 → m' 283 11 = n32 e.2 → m' 283 9 = n32 0 → (∀ k, k < 243 → m' 284 k = m 284 k) → (∀ b k, b ≠ 284 → b ≠ 285 → ¬ (b = 283 ∧ (k = 0 ∨ (9 ≤ k ∧ k ≤ 16))) → m' b k = m b k) → Q (n32 0) m')
    (ho : ∀ q, parF bf n G00 = Sum.inr q → ∀ m', m' 283 0 = n32 0 → m' 283 10 = n32 0 → m' 283 11 = -(n32 1) → m' 283 9 = n32 0 → m' 283 6 = n32 1 → m' 283 7 = n32 0 → m' 288 0 = n32 0 → m' 288 1 = n32 0 → PX m' q.1 → (∀ b k, b ≠ 284 → b ≠ 285 → b ≠ 288 → ¬ (b = 283 ∧ (k = 0 ∨ k = 6 ∨ k = 7 ∨ (9 ≤ k ∧ k ≤ 16))) → m' b k = m b k) → Q (q.1 6) m') : VI (D + 7) 201 [vR 11 283, vI (n32 n)] m Q E := by
  refine w201_0 ⟨fun c => absurd ((n32_lt (by omega) (by omega)).mp c) (by omega), fun _ => ?_⟩
  rw [e9]
  refine ⟨fun c => absurd ((n32_lt (by omega) (by omega)).mp c) (by omega), fun _ => ?_⟩
  refine s176 ?_
  rw [show codeOf (n32 1) (n32 1) (n32 1) = 0 by decide, if_pos rfl]
  refine ⟨fun c => absurd c n01, fun _ => s178a (p := 0) (q := 0) (by omega) (by omega) (by omega) ?_⟩
  have mo : ∀ b k, ¬ (b = 283 ∧ (k = 0 ∨ (9 ≤ k ∧ k ≤ 13))) → um (um (um (um (um (um m 283 0 (n32 0)) 283 12 (n32 n)) 283 13 (n32 0)) 283 9 (n32 0)) 283 10 (n32 0)) 283 11 (-(n32 1)) b k = m b k := fun b k c => by
    rw [um_o (by omega), um_o (by omega), um_o (by omega), um_o (by omega), um_o (by omega), um_o (by omega)]
  have i0 : um (um (um (um (um (um m 283 0 (n32 0)) 283 12 (n32 n)) 283 13 (n32 0)) 283 9 (n32 0)) 283 10 (n32 0)) 283 11 (-(n32 1)) 283 0 = n32 0 := by
    rw [um_k (by omega), um_k (by omega), um_k (by omega), um_k (by omega), um_k (by omega), um_eq]
  have i9 : um (um (um (um (um (um m 283 0 (n32 0)) 283 12 (n32 n)) 283 13 (n32 0)) 283 9 (n32 0)) 283 10 (n32 0)) 283 11 (-(n32 1)) 283 9 = n32 0 := by
    rw [um_k (by omega), um_k (by omega), um_eq]
  have i10 : um (um (um (um (um (um m 283 0 (n32 0)) 283 12 (n32 n)) 283 13 (n32 0)) 283 9 (n32 0)) 283 10 (n32 0)) 283 11 (-(n32 1)) 283 10 = n32 0 := by
    rw [um_k (by omega), um_eq]
  have i11 : um (um (um (um (um (um m 283 0 (n32 0)) 283 12 (n32 n)) 283 13 (n32 0)) 283 9 (n32 0)) 283 10 (n32 0)) 283 11 (-(n32 1)) 283 11 = -(n32 1) := um_eq _ _ _ _
  have i12 : um (um (um (um (um (um m 283 0 (n32 0)) 283 12 (n32 n)) 283 13 (n32 0)) 283 9 (n32 0)) 283 10 (n32 0)) 283 11 (-(n32 1)) 283 12 = n32 n := by
    rw [um_k (by omega), um_k (by omega), um_k (by omega), um_k (by omega), um_eq]
  have i13 : um (um (um (um (um (um m 283 0 (n32 0)) 283 12 (n32 n)) 283 13 (n32 0)) 283 9 (n32 0)) 283 10 (n32 0)) 283 11 (-(n32 1)) 283 13 = n32 0 := by
    rw [um_k (by omega), um_k (by omega), um_k (by omega), um_eq]
  generalize um (um (um (um (um (um m 283 0 (n32 0)) 283 12 (n32 n)) 283 13 (n32 0)) 283 9 (n32 0)) 283 10 (n32 0)) 283 11 (-(n32 1)) = m1 at mo i0 i9 i10 i11 i12 i13
  have lo : ∀ b k, b ≠ 285 → lay m1 284 0 285 0 243 b k = m1 b k := fun b k hb' => by unfold lay; rw [if_neg (fun c => hb' c.1)]
  have la : ∀ k, k < 243 → lay m1 284 0 285 0 243 285 k = m 284 k := fun k hk => by
    unfold lay; rw [if_pos ⟨rfl, by omega, by omega⟩, show 0 + (k - 0) = k by omega]; exact mo _ _ (by omega)
  generalize lay m1 284 0 285 0 243 = m2 at lo la
  refine upm (C := fun i m' => VLI (D + 7) 201 3 [(0, vR 11 283), (2, vI (n32 i))] [] m' Q E) (Inv := fun i m' => (∀ k, k < i → m' 284 k = n32 0) ∧ ∀ b k, b ≠ 284 → m' b k = m2 b k) (n := 243) ?_ ?_ 0 _ (Nat.zero_le _) ⟨fun k hk => absurd hk (Nat.not_lt_zero k), fun _ _ _ => rfl⟩
  · intro i m3 hi hI ih
    obtain ⟨j1, j2⟩ := hI
    refine w201_3 ⟨fun c => absurd ((n32_le (by omega) (by omega)).mp c) (by omega), fun _ => ⟨xin_n (by omega) (by omega), ?_⟩⟩
    rw [ix_n32 (by omega), n32_add]
    refine ih _ ⟨fun k hk => ?_, fun b k hb' => by rw [um_a hb']; exact j2 b k hb'⟩
    by_cases e : k = i
    · subst e; rw [um_eq]
    · rw [um_k e]; exact j1 k (by omega)
  · intro m3 hI
    obtain ⟨j1, j2⟩ := hI
    refine w201_3 ⟨fun _ => ?_, fun c => absurd (n32_rfl _) c⟩
    have k3 : ∀ b k, b ≠ 284 → b ≠ 285 → m3 b k = m1 b k := fun b k c1 c2 => (j2 b k c1).trans (lo b k c2)
    have hr : HR m3 bf n := ⟨by omega, by rw [k3 _ _ (by omega) (by omega)]; exact i12, fun i hi => by rw [k3 _ _ (by omega) (by omega), mo _ _ (by omega)]; exact hb i hi⟩
    refine r200 (g0 := G00) PS00 hr (by rw [k3 _ _ (by omega) (by omega)]; exact i10) (by rw [k3 _ _ (by omega) (by omega)]; exact i11) (by rw [k3 _ _ (by omega) (by omega)]; exact i13) (fun k hk => j1 k hk) ⟨fun e h1 m4 ms f => ?_, fun q h1 m4 x0 x1 px f => ?_⟩
    · refine ⟨fun c => absurd c (e10 ms).2, fun _ => s178a (p := 0) (q := 0) (by omega) (by omega) (by omega) ?_⟩
      have po : ∀ b k, b ≠ 284 → ¬ (b = 283 ∧ k = 0) → um (lay m4 285 0 284 0 243) 283 0 (n32 2) b k = m4 b k := fun b k c1 c2 => by
        rw [um_o (by omega)]; unfold lay; rw [if_neg (fun c => c1 c.1)]
      have fo : ∀ b k, b ≠ 284 → b ≠ 285 → ¬ (b = 283 ∧ (k = 0 ∨ (9 ≤ k ∧ k ≤ 16))) → um (lay m4 285 0 284 0 243) 283 0 (n32 2) b k = m b k := fun b k c1 c2 c3 => by
        rw [po b k c1 (by omega), f b k c1 (by omega), k3 b k c1 c2, mo b k (by omega)]
      refine he e h1 _ (um_eq _ _ _ _) ?_ ?_ ?_ (fun k hk => ?_) fo
      · rw [po _ _ (by omega) (by omega)]; exact ms.2.2.1
      · rw [po _ _ (by omega) (by omega)]; exact ms.2.2.2
      · rw [po _ _ (by omega) (by omega), f _ _ (by omega) (by omega), k3 _ _ (by omega) (by omega)]; exact i9
      · rw [um_a (by omega)]
        unfold lay
        rw [if_pos ⟨rfl, by omega, by omega⟩, show 0 + (k - 0) = k by omega, f _ _ (by omega) (by omega), j2 _ _ (by omega)]
        exact la k hk
    · refine ⟨fun _ => ?_, fun c => absurd (by rw [x0]; exact (n32_le (by omega) (by omega)).mpr (by omega)) c⟩
      rw [um_a (by omega), um_a (by omega), um_a (by omega), um_a (by omega), ix_n32 (show 6 < 2147483648 by omega), px 6 (by omega), ix_n32 (show 0 < 2147483648 by omega), ix_n32 (show 1 < 2147483648 by omega)]
      have po : ∀ b k, b ≠ 288 → ¬ (b = 283 ∧ (k = 6 ∨ k = 7)) → um (um (um (um m4 283 6 (n32 1)) 283 7 (n32 0)) 288 0 (n32 0)) 288 1 (n32 0) b k = m4 b k := fun b k c1 c2 => by
        rw [um_o (by omega), um_o (by omega), um_o (by omega), um_o (by omega)]
      refine ho q h1 _ ?_ ?_ ?_ ?_ ?_ ?_ ?_ ?_ (fun k hk => by rw [po _ _ (by omega) (by omega)]; exact px k hk) (fun b k c1 c2 c3 c4 => ?_)
      · rw [po _ _ (by omega) (by omega), f _ _ (by omega) (by omega), k3 _ _ (by omega) (by omega)]; exact i0
      · rw [po _ _ (by omega) (by omega)]; exact x0
      · rw [po _ _ (by omega) (by omega)]; exact x1
      · rw [po _ _ (by omega) (by omega), f _ _ (by omega) (by omega), k3 _ _ (by omega) (by omega)]; exact i9
      · rw [um_a (by omega), um_a (by omega), um_k (by omega), um_eq]
      · rw [um_a (by omega), um_a (by omega), um_eq]
      · rw [um_k (by omega), um_eq]
      · rw [um_eq]
      · rw [po b k c3 (by omega), f b k c1 (by omega), k3 b k c1 c2, mo b k (by omega)]
theorem p_load {v : Int32} {N : Nat} (h : CPL m N) : PRI (D + 12) 92 201 [vR 10 0, vI v] [vR 11 283, vI v] mpPA m N := by
  unfold PRI
  obtain ⟨⟨a1, a2⟩, a3, ⟨o, k, b1, b2, b3, b4, b5, b6, b7⟩, c1, ⟨l, d1, d2, d3, d4⟩, ⟨e1, e2⟩, p, p1, p2, p3, p4⟩ := id h
  have d2' : m (1 + 1) 1 = n32 l := d2
  have bad : (v < n32 0 ∨ n32 l < v) → VI (D + 12) 201 [vR 11 283, vI v] m (fun _ m2 => (m2 283 0 = n32 (mpPA 2) ∧ 1 ≤ mpPA 2 ∧ mpPA 2 ≤ 3) ∧ CPL m2 N) (fun _ _ => False) := by
    intro hv
    refine w201_0 ⟨fun c => ?_, fun c => ⟨fun c' => ?_, fun c' => ?_⟩⟩
    · refine s176 ?_
      rw [show codeOf (n32 0) (n32 1) (n32 1) = 1 by decide, if_neg (by decide)]
      exact ⟨fun _ => ⟨⟨um_eq _ _ _ _, by decide, by decide⟩, CPL_th h⟩, fun c => absurd rfl c⟩
    · refine s176 ?_
      rw [show codeOf (n32 0) (n32 1) (n32 1) = 1 by decide, if_neg (by decide)]
      exact ⟨fun _ => ⟨⟨um_eq _ _ _ _, by decide, by decide⟩, CPL_th h⟩, fun c => absurd rfl c⟩
    · rcases hv with hv | hv
      · exact absurd hv c
      · exact absurd (by rw [d3]; exact hv) c'
  rcases rng_cases v l (by omega) with ⟨h1, -⟩ | ⟨h1, h2, -⟩ | ⟨i, hi, rfl, -⟩
  · exact w92_0 ⟨fun _ => bad (Or.inl h1), fun c => absurd h1 c⟩
  · refine w92_0 ⟨fun c => absurd c h1, fun _ => ⟨fun c => ?_, fun _ => bad (Or.inr h2)⟩⟩
    rw [d2'] at c
    exact absurd h2 (Int32.not_lt.mpr c)
  · have by' : ∀ j, j < i → ix (m 3 j) < 256 ∧ m 3 j = n32 (ix (m 3 j)) ∧ BB (ix (m 3 j)) (m 289 j) := fun j hj => BB_of (d4 j (by omega))
    refine cload (bf := fun j => ix (m 3 j)) (g0 := G00) PS00 d1 d2 hi (fun j hj => ⟨(by' j hj).1, (by' j hj).2.1⟩) (fun e he m1 ce u1 fr => ?_) (fun q hq m1 x1 x2 x3 x4 x5 x6 x7 x8 x9 y1 y2 fr => ?_)
    · refine r201 (bf := fun j => ix (m 3 j)) (n := i) (l := l) d1 (by rw [fr _ _ (by omega) (by omega) (by omega)]; exact d3) hi (fun j hj => by rw [fr _ _ (by omega) (by omega) (by omega)]; exact (by' j hj).2.2) (fun e' he' m2 z0 z1 z2 z3 z4 fo => ?_) (fun q hq => by rw [he] at hq; cases hq)
      rw [he] at he'
      cases he'
      refine ⟨⟨z0, by decide, by decide⟩, ?_⟩
      have ff : ∀ b k, ¬ (4 ≤ b ∧ b ≤ 28) → ¬ (b = 2 ∧ 1 ≤ k) → ¬ (b = 1 ∧ (k = 3 ∨ k = 4)) → b ≠ 284 → b ≠ 285 → ¬ (b = 283 ∧ (k = 0 ∨ (9 ≤ k ∧ k ≤ 16))) → m2 b k = m b k := fun b k q1 q2 q3 q4 q5 q6 => by
        rw [fo b k q4 q5 q6, fr b k q1 q2 q3]
      have fR : ∀ d k, d < 5 → m2 (69 + d) k = m (69 + d) k := fun d k hd => ff _ _ (by omega) (by omega) (by omega) (by omega) (by omega) (by omega)
      have fS : ∀ a, (a = 29 ∨ (78 ≤ a ∧ a + 20 ≤ 278)) → ∀ d k, d < 20 → d ≠ 10 → m2 (a + d) k = m (a + d) k := fun a ha d k hd _ => ff _ _ (by omega) (by omega) (by omega) (by omega) (by omega) (by omega)
      have fu : ∀ b j, (b = 286 ∨ b = 287) → slG m2 b j = slG m b j := fun b j hb => funext fun i => ff _ _ (by omega) (by omega) (by omega) (by omega) (by omega) (by omega)
      have f07 : m2 0 7 = m 0 7 := ff _ _ (by omega) (by omega) (by omega) (by omega) (by omega) (by omega)
      refine ⟨⟨?_, ?_⟩, ?_, ⟨o, k, ?_, b2, ?_, b4, ?_, ?_, ?_⟩, ?_, ⟨0, by omega, ?_, ?_, fun i hi => absurd hi (Nat.not_lt_zero i)⟩, ⟨?_, ?_⟩, p, p1, ?_, ?_, ?_⟩
      · rw [f07, ff 283 6 (by omega) (by omega) (by omega) (by omega) (by omega) (by omega)]; exact a1
      · rw [f07]; exact a2
      · rw [f07]; intro hx
        exact SS_ext (fun k hk => (z4 k hk).trans (fr _ _ (by omega) (by omega) (by omega))) (SS_eq (a3 hx) (Nat.le_refl _) rfl (fS 29 (Or.inl rfl)) fR)
      · rw [ff 74 0 (by omega) (by omega) (by omega) (by omega) (by omega) (by omega)]; exact b1
      · rw [ff 74 1 (by omega) (by omega) (by omega) (by omega) (by omega) (by omega)]; exact b3
      · rw [ff 283 7 (by omega) (by omega) (by omega) (by omega) (by omega) (by omega)]; exact b5
      · rw [f07]; exact b6
      · intro j hj
        have : (o + j) % 8 < 8 := Nat.mod_lt _ (by omega)
        exact SS_eq (b7 j hj) (Nat.le_refl _) (fu _ _ (Or.inl rfl)) (fS _ (Or.inr (by omega))) fR
      · intro s hs
        obtain ⟨q1, q2⟩ := c1 s hs
        rw [ff 77 s (by omega) (by omega) (by omega) (by omega) (by omega) (by omega), ff 288 s (by omega) (by omega) (by omega) (by omega) (by omega) (by omega), f07]
        refine ⟨q1, ?_⟩
        rcases q2 with q2 | ⟨q2, q3, q4⟩
        · exact Or.inl q2
        · exact Or.inr ⟨q2, q3, SS_eq q4 (Nat.le_refl _) (fu _ _ (Or.inr rfl)) (fS _ (Or.inr (by omega))) fR⟩
      · rw [fo _ _ (by omega) (by omega) (by omega)]; exact u1
      · exact z3
      · rw [fo _ _ (by omega) (by omega) (by omega), z1]; exact ce.1
      · rw [fo _ _ (by omega) (by omega) (by omega), z2]; exact ce.2
      · rw [ff 281 0 (by omega) (by omega) (by omega) (by omega) (by omega) (by omega)]; exact p2
      · rw [ff 283 21 (by omega) (by omega) (by omega) (by omega) (by omega) (by omega)]; exact p3
      · intro i hi
        rw [ff 282 i (by omega) (by omega) (by omega) (by omega) (by omega) (by omega), ff 292 i (by omega) (by omega) (by omega) (by omega) (by omega) (by omega)]; exact p4 i hi
    · refine r201 (bf := fun j => ix (m 3 j)) (n := i) (l := l) d1 (by rw [fr _ _ (by omega)]; exact d3) hi (fun j hj => by rw [fr _ _ (by omega)]; exact (by' j hj).2.2) (fun e he => by rw [hq] at he; cases he) (fun q' hq' m2 z0 z10 z11 z9 z6 z7 z80 z81 px fo => ?_)
      rw [hq] at hq'
      cases hq'
      have pg := parF_ok PS00 hq
      refine ⟨⟨rfl, z0⟩, ?_⟩
      have fc : ∀ b k, b ≠ 284 → b ≠ 285 → b ≠ 288 → b ≠ 283 → m2 b k = m1 b k := fun b k q1 q2 q3 q4 => fo b k q1 q2 q3 (by omega)
      have f07 : m2 0 7 = n32 1 := by rw [fc _ _ (by omega) (by omega) (by omega) (by omega)]; exact x7
      have ss1 : SS m1 29 q.1 0 := ⟨x1, x2, x3, 0, by omega, pg.1⟩
      have ss2 : SS m2 29 q.1 N := SS_eq ss1 (Nat.zero_le _) rfl (fun d k hd _ => fc _ _ (by omega) (by omega) (by omega) (by omega)) (fun d k hd => fc _ _ (by omega) (by omega) (by omega) (by omega))
      refine ⟨⟨?_, ?_⟩, ?_, ⟨0, 0, ?_, by omega, ?_, by omega, ?_, fun _ => rfl, fun j hj => absurd hj (Nat.not_lt_zero j)⟩, ?_, ⟨0, by omega, ?_, ?_, fun i hi => absurd hi (Nat.not_lt_zero i)⟩, ⟨?_, ?_⟩, p, p1, ?_, ?_, ?_⟩
      · rw [f07, z6]
      · exact Or.inr f07
      · intro _; exact SS_ext (fun k hk => px k hk) ss2
      · rw [fc _ _ (by omega) (by omega) (by omega) (by omega)]; exact x8
      · rw [fc _ _ (by omega) (by omega) (by omega) (by omega)]; exact x9
      · exact z7
      · intro s hs
        have : s = 0 ∨ s = 1 := by omega
        rcases this with rfl | rfl
        · rw [fc 77 0 (by omega) (by omega) (by omega) (by omega), z80, y1]; exact ⟨rfl, Or.inl rfl⟩
        · rw [fc 77 1 (by omega) (by omega) (by omega) (by omega), z81, y2]; exact ⟨rfl, Or.inl rfl⟩
      · rw [fc _ _ (by omega) (by omega) (by omega) (by omega)]; exact x6
      · exact z9
      · rw [fc _ _ (by omega) (by omega) (by omega) (by omega), z10]; exact x4
      · rw [fc _ _ (by omega) (by omega) (by omega) (by omega), z11]; exact x5
      · rw [fc _ _ (by omega) (by omega) (by omega) (by omega), fr _ _ (by omega)]; exact p2
      · rw [fo _ _ (by omega) (by omega) (by omega) (by omega), fr _ _ (by omega)]; exact p3
      · intro i hi
        rw [fc _ _ (by omega) (by omega) (by omega) (by omega), fr _ _ (by omega), fc 292 i (by omega) (by omega) (by omega) (by omega), fr 292 i (by omega)]; exact p4 i hi
end S99e
