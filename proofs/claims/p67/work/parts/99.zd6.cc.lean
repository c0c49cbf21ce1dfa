/-! The class's calls beside other cells. -/
/-- what a question answers and leaves -/
def qQP (g : PG) (u : Option PG) (sl : Nat) (z : Option PG) (B : Nat) (S : List XC) (e : Nat) (w : Nat → Value) (m : XM) (v : Value) : Option Value → XS → Prop := fun r σ' => r = some v ∧ ∃ m', σ' = (S, e, w, m') ∧ CLS m' g u sl z B ∧ (∀ b k, CRL b → m' b k = m b k) ∧ ∀ a, 283 ≤ a → m' a = m a
/-- what a change answers and leaves -/
def qKP (g : PG) (u : Option PG) (sl : Nat) (z : Option PG) (B : Nat) (S : List XC) (e : Nat) (w : Nat → Value) (m : XM) (R : Int32 → Prop) : Option Value → XS → Prop := fun r σ' => ∃ x, r = some (.int x) ∧ R x ∧ ∃ m', σ' = (S, e, w, m') ∧ CLS m' g u sl z B ∧ ∀ a, 283 ≤ a → m' a = m a
theorem wts0 : wtS [vR 10 0] := wtS_cons (v := vR 10 0) (fun q hq => by cases hq) ⟨by decide +kernel, by decide⟩
theorem wts1 (x : Int32) : wtS [vR 10 0, vI x] := wtS_cons (v := vR 10 0) (wtS_cons (v := vI x) (fun q hq => by cases hq) trivial) ⟨by decide +kernel, by decide⟩
theorem wts2 (x y : Int32) : wtS [vR 10 0, vI x, vI y] := wtS_cons (v := vR 10 0) (wtS_cons (v := vI x) (wtS_cons (v := vI y) (fun q hq => by cases hq) trivial) trivial) ⟨by decide +kernel, by decide⟩
section ZD6
variable {K : XK} {d : Nat} {T : List XC} {e : Nat} {w : Nat → Value} {m : XM} {g : PG} {u z : Option PG} {sl B : Nat}
theorem qQI {y : Nat} {args : List AV} {v : Int32} (hC : CLS m g u sl z B) (h : VI d y args m (fun r m' => r = v ∧ FLR m m') (fun _ _ => False)) (hr : ∀ r, vrt (rtOf y) r → ∃ x, r = some (.int x)) (hw : wtS args) (hT : 283 + T.length ≤ 1000000) : qM K d y (cvS args) (S0 ++ T, e, w, m) (qQP g u sl z B (S0 ++ T) e w m (.int v)) := by
  refine qL_mono (qV (K := K) (e := e) (w := w) (m := m) (T := T) h hw hT (fun _ _ => rfl)) ?_
  rintro r σ' ⟨h1, m0', m', ⟨p1, p2⟩, rfl, g1, g2⟩
  obtain ⟨x, rfl⟩ := hr r h1
  have hf : ∀ b k, CRL b → m' b k = m b k := fun b k hb => by rw [g1 b (by have := hb.2; omega)]; exact p2.c b k hb
  exact ⟨by rw [← p1]; rfl, m', rfl, CLS_fr hC (Nat.le_refl _) hf, hf, g2⟩
theorem qQF {y : Nat} {args : List AV} {v : UInt32} (hC : CLS m g u sl z B) (h : VF d y args m (fun r m' => r = v ∧ FLR m m') (fun _ _ => False)) (hr : ∀ r, vrt (rtOf y) r → ∃ x, r = some (.float x)) (hw : wtS args) (hT : 283 + T.length ≤ 1000000) : qM K d y (cvS args) (S0 ++ T, e, w, m) (qQP g u sl z B (S0 ++ T) e w m (.float v)) := by
  refine qL_mono (qV (K := K) (e := e) (w := w) (m := m) (T := T) h hw hT (fun _ _ => rfl)) ?_
  rintro r σ' ⟨h1, m0', m', ⟨p1, p2⟩, rfl, g1, g2⟩
  obtain ⟨x, rfl⟩ := hr r h1
  have hf : ∀ b k, CRL b → m' b k = m b k := fun b k hb => by rw [g1 b (by have := hb.2; omega)]; exact p2.c b k hb
  exact ⟨by rw [← p1]; rfl, m', rfl, CLS_fr hC (Nat.le_refl _) hf, hf, g2⟩
theorem qKI {y : Nat} {args : List AV} {R : Int32 → Prop} {g' : PG} {u' z' : Option PG} {sl' B' : Nat} (h : VI d y args m (fun r m' => R r ∧ CLS m' g' u' sl' z' B') (fun _ _ => False)) (hr : ∀ r, vrt (rtOf y) r → ∃ x, r = some (.int x)) (hw : wtS args) (hT : 283 + T.length ≤ 1000000) : qM K d y (cvS args) (S0 ++ T, e, w, m) (qKP g' u' sl' z' B' (S0 ++ T) e w m R) := by
  refine qL_mono (qV (K := K) (e := e) (w := w) (m := m) (T := T) h hw hT (fun _ _ => rfl)) ?_
  rintro r σ' ⟨h1, m0', m', ⟨p1, p2⟩, rfl, g1, g2⟩
  obtain ⟨x, rfl⟩ := hr r h1
  exact ⟨x, rfl, p1, m', rfl, CLS_fr p2 (Nat.le_refl _) (fun b k hb => by rw [g1 b (by have := hb.2; omega)]), g2⟩
theorem q96 {j : Nat} (hC : CLS m g u sl z B) (hj : j < 12) (hT : 283 + T.length ≤ 1000000) : qM K (d + 12) 96 [.ref 0, .int (n32 j)] (S0 ++ T, e, w, m) (qQP g u sl z B (S0 ++ T) e w m (.int (cq g j))) := qQI hC (c96 hC hj) (fun _ h => h) (wts1 _) hT
theorem q97 {j : Nat} (hC : CLS m g u sl z B) (hj : j < 6) (hT : 283 + T.length ≤ 1000000) : qM K (d + 12) 97 [.ref 0, .int (n32 j)] (S0 ++ T, e, w, m) (qQP g u sl z B (S0 ++ T) e w m (.int (g j))) := qQI hC (c97 hC hj) (fun _ h => h) (wts1 _) hT
theorem q98 {b i : Nat} (hC : CLS m g u sl z B) (hb : b < nBr g) (hi : i < 9) (hT : 283 + T.length ≤ 1000000) : qM K (d + 12) 98 [.ref 0, .int (n32 b), .int (n32 i)] (S0 ++ T, e, w, m) (qQP g u sl z B (S0 ++ T) e w m (.int (bq g b i))) := qQI hC (c98 hC hb hi) (fun _ h => h) (wts2 _ _) hT
theorem q99 {s i : Nat} (hC : CLS m g u sl z B) (hs : s < nSt g) (hi : i < 6) (hT : 283 + T.length ≤ 1000000) : qM K (d + 12) 99 [.ref 0, .int (n32 s), .int (n32 i)] (S0 ++ T, e, w, m) (qQP g u sl z B (S0 ++ T) e w m (.int (sq g s i))) := qQI hC (c99 hC hs hi) (fun _ h => h) (wts2 _ _) hT
theorem q100 {k : Nat} (hC : CLS m g u sl z B) (hk : k < nPl g) (hT : 283 + T.length ≤ 1000000) : qM K (d + 12) 100 [.ref 0, .int (n32 k), .int (n32 2)] (S0 ++ T, e, w, m) (qQP g u sl z B (S0 ++ T) e w m (.int (g (171 + 3 * k + 2)))) := qQI hC (c100 hC hk) (fun _ h => h) (wts2 _ _) hT
theorem q101 {k i : Nat} (hC : CLS m g u sl z B) (hk : k < nL g) (hi : i < 3) (hT : 283 + T.length ≤ 1000000) : qM K (d + 12) 101 [.ref 0, .int (n32 k), .int (n32 i)] (S0 ++ T, e, w, m) (qQP g u sl z B (S0 ++ T) e w m (.int (lq g k i))) := qQI hC (c101 hC hk hi) (fun _ h => h) (wts2 _ _) hT
theorem q104 {s : Nat} (hC : CLS m g u sl z B) (hs : s < nSt g) (hT : 283 + T.length ≤ 1000000) : qM K (d + 12) 104 [.ref 0, .int (n32 s)] (S0 ++ T, e, w, m) (qQP g u sl z B (S0 ++ T) e w m (.int (bset (nBr g) fun b => seesG g s b))) := qQI hC (c104 hC hs) (fun _ h => h) (wts1 _) hT
theorem q106 {s : Nat} (hC : CLS m g u sl z B) (hs : s < nSt g) (hT : 283 + T.length ≤ 1000000) : qM K (d + 12) 106 [.ref 0, .int (n32 s)] (S0 ++ T, e, w, m) (qQP g u sl z B (S0 ++ T) e w m (.int (if rdG g s = true then n32 1 else n32 0))) := qQI hC (c106 hC hs) (fun _ h => h) (wts1 _) hT
theorem q107 {s : Nat} (hC : CLS m g u sl z B) (hs : s < nSt g) (hT : 283 + T.length ≤ 1000000) : qM K (d + 12) 107 [.ref 0, .int (n32 s)] (S0 ++ T, e, w, m) (qQP g u sl z B (S0 ++ T) e w m (.float (shareG g s))) := qQF hC (c107 hC hs) (fun _ h => h) (wts1 _) hT
theorem q128 {b n : Nat} (hC : CLS m g u sl z B) (hB : B ≤ 5000) (hb : b < nBr g) (hn : n ≤ 300) (hT : 283 + T.length ≤ 1000000) : qM K (d + 12) 128 [.ref 0, .int (n32 b), .int (n32 n)] (S0 ++ T, e, w, m) (qQP g u sl z B (S0 ++ T) e w m (.int (bq (tkn g n) b 1))) := qQI hC (c128 hC hB hb hn) (fun _ h => h) (wts2 _ _) hT
theorem q129 {b n : Nat} (hC : CLS m g u sl z B) (hB : B ≤ 5000) (hb : b < nBr g) (hn : n ≤ 300) (hT : 283 + T.length ≤ 1000000) : qM K (d + 12) 129 [.ref 0, .int (n32 b), .int (n32 n)] (S0 ++ T, e, w, m) (qQP g u sl z B (S0 ++ T) e w m (.int (bq (tkn g n) b 4))) := qQI hC (c129 hC hB hb hn) (fun _ h => h) (wts2 _ _) hT
theorem q130 {b n : Nat} (hC : CLS m g u sl z B) (hB : B ≤ 5000) (hb : b < nBr g) (hn : n ≤ 300) (hT : 283 + T.length ≤ 1000000) : qM K (d + 12) 130 [.ref 0, .int (n32 b), .int (n32 n)] (S0 ++ T, e, w, m) (qQP g u sl z B (S0 ++ T) e w m (.int (bq (tkn g n) b 0))) := qQI hC (c130 hC hB hb hn) (fun _ h => h) (wts2 _ _) hT
theorem q131 {n : Nat} (hC : CLS m g u sl z B) (hB : B ≤ 5000) (hn : n ≤ 300) (hT : 283 + T.length ≤ 1000000) : qM K (d + 12) 131 [.ref 0, .int (n32 n)] (S0 ++ T, e, w, m) (qQP g u sl z B (S0 ++ T) e w m (.int (tkn g n 13 - g 13))) := qQI hC (c131 hC hB hn) (fun _ h => h) (wts1 _) hT
theorem q152 (hC : CLS m g u sl z B) (h0 : m 74 1 = n32 0) (hT : 283 + T.length ≤ 1000000) : qM K (d + 12) 152 [.ref 0] (S0 ++ T, e, w, m) (qQP g u sl z B (S0 ++ T) e w m (.int (n32 0))) := qQI hC (w152_0 ⟨h0, FLR.rf m⟩) (fun _ h => h) wts0 hT
theorem q142 {n : Nat} (hC : CLS m g u sl z B) (hB : B + n ≤ 5000) (n1 : 1 ≤ n) (hn : n ≤ 100) (hT : 283 + T.length ≤ 1000000) : qM K (d + 12) 142 [.ref 0, .int (n32 n)] (S0 ++ T, e, w, m) (qKP (tkn g n) (some g) sl z (B + n) (S0 ++ T) e w m (fun r => r = n32 (rdN (tkn g n)) - n32 (rdN g))) := qKI (k142 hC hB n1 hn) (fun _ h => h) (wts1 _) hT
theorem q144 {b : Nat} (hC : CLS m g u sl z B) (hb : b < nBr g) (hp : ¬ g (15 + 7 * b) = n32 0) (hT : 283 + T.length ≤ 1000000) : qM K (d + 12) 144 [.ref 0, .int (n32 b)] (S0 ++ T, e, w, m) (qKP (dropG g b) (some g) sl z B (S0 ++ T) e w m (fun r => r = dropG g b 10)) := qKI (k144 hC hb hp) (fun _ h => h) (wts1 _) hT
theorem q145 {b j : Nat} (hC : CLS m g u sl z B) (hb : b < nBr g) (hp : g (15 + 7 * b) = n32 0) (hs4 : ¬ g (15 + 7 * b + 4) < g 4) (hj : j < nL g) (ej : lieG g (g (15 + 7 * b + 1)) (g (15 + 7 * b + 1)) = n32 j) (hT : 283 + T.length ≤ 1000000) : qM K (d + 12) 145 [.ref 0, .int (n32 b)] (S0 ++ T, e, w, m) (qKP (pickG g b j) (some g) sl z B (S0 ++ T) e w m (fun r => r = pickG g b j (15 + 7 * b))) := qKI (k145 hC hb hp hs4 hj ej) (fun _ h => h) (wts1 _) hT
theorem q146 {b : Nat} {v : Int32} (hC : CLS m g u sl z B) (hb : b < nBr g) (v1 : ¬ v < -(n32 100)) (v2 : ¬ n32 100 < v) (hT : 283 + T.length ≤ 1000000) : qM K (d + 12) 146 [.ref 0, .int (n32 b), .int v] (S0 ++ T, e, w, m) (qKP (strG g b v) (some g) sl z B (S0 ++ T) e w m (fun r => r = strG g b v (15 + 7 * b + 4))) := qKI (k146 hC hb v1 v2) (fun _ h => h) (wts2 _ _) hT
theorem q151 {x : PG} (hC : CLS m g (some x) sl z B) (hT : 283 + T.length ≤ 1000000) : qM K (d + 12) 151 [.ref 0] (S0 ++ T, e, w, m) (qKP x none sl z B (S0 ++ T) e w m (fun r => ∃ k, k ≤ 8 ∧ r = n32 k)) := qKI (k151 hC) (fun _ h => h) wts0 hT
theorem q153 {s : Nat} (hC : CLS m g u sl z B) (hs : s < 2) (hT : 283 + T.length ≤ 1000000) : qM K (d + 12) 153 [.ref 0, .int (n32 s)] (S0 ++ T, e, w, m) (qKP g u s (some g) B (S0 ++ T) e w m (fun r => r = g 9)) := qKI (k153 hC hs) (fun _ h => h) (wts1 _) hT
theorem q154 {x : PG} (hC : CLS m g u sl (some x) B) (hT : 283 + T.length ≤ 1000000) : qM K (d + 12) 154 [.ref 0, .int (n32 sl)] (S0 ++ T, e, w, m) (fun r σ' => ∃ y, r = some (.int y) ∧ y = x 9 ∧ ∃ m', σ' = (S0 ++ T, e, w, m') ∧ (CLS m' x none sl (some x) B ∧ m' 74 1 = n32 0) ∧ ∀ a, 283 ≤ a → m' a = m a) := by
  refine qL_mono (qV (K := K) (e := e) (w := w) (m := m) (T := T) (k154 (D := d) (E := fun _ _ => False) hC) (wts1 _) hT (fun _ _ => rfl)) ?_
  rintro r σ' ⟨h1, m0', m', ⟨p1, p2, p3⟩, rfl, g1, g2⟩
  obtain ⟨y, rfl⟩ : ∃ y, r = some (.int y) := h1
  exact ⟨y, rfl, p1, m', rfl, ⟨CLS_fr p2 (Nat.le_refl _) (fun b k hb => by rw [g1 b (by have := hb.2; omega)]), by rw [g1 74 (by omega)]; exact p3⟩, g2⟩
end ZD6
