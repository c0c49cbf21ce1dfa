/-! Tokens of a printed text. -/
theorem fps_at {P : Nat → Bool} {n : Nat} : ∀ (k p : Nat), (∀ i, p ≤ i → i < p + k → P i = false) → p + k ≤ n → (p + k = n ∨ P (p + k) = true) → fps P (n - p) p = p + k := by
  intro k
  induction k with
  | zero =>
    intro p _ hn h
    by_cases q : p < n
    · rw [fps_st q]
      rcases h with h | h
      · omega
      · rw [Nat.add_zero] at h
        rw [if_pos h]; rfl
    · rw [fps_en (by omega)]; rfl
  | succ k ih =>
    intro p hp hn h
    rw [fps_st (by omega), if_neg (by rw [hp p (Nat.le_refl _) (by omega)]; decide)]
    rw [ih (p + 1) (fun i h1 h2 => hp i (by omega) (by omega)) (by omega) (by rw [show p + 1 + k = p + (k + 1) by omega]; exact h)]
    omega
/-- the bytes w stand from p on -/
def qAt (bf : BF) (n p : Nat) (w : List Nat) : Prop := p + w.length ≤ n ∧ ∀ i, i < w.length → bf (p + i) = w.getD i 0
theorem qAt.app {bf : BF} {n p : Nat} {u v : List Nat} (h : qAt bf n p (u ++ v)) : qAt bf n p u ∧ qAt bf n (p + u.length) v := by
  obtain ⟨h1, h2⟩ := h
  rw [List.length_append] at h1 h2
  refine ⟨⟨by omega, fun i hi => ?_⟩, ⟨by omega, fun i hi => ?_⟩⟩
  · rw [h2 i (by omega), List.getD_eq_getElem?_getD, List.getD_eq_getElem?_getD, List.getElem?_append_left hi]
  · rw [show p + u.length + i = p + (u.length + i) by omega, h2 _ (by omega), List.getD_eq_getElem?_getD, List.getD_eq_getElem?_getD, List.getElem?_append_right (by omega), Nat.add_sub_cancel_left]
theorem skp_0 {bf : BF} {n p : Nat} (hp : p < n) (h : ¬ bf p = 32) : skp bf n p = p := by
  unfold skp
  exact fps_at 0 p (fun i h1 h2 => by omega) (by omega) (Or.inr (by simpa using h))
theorem skp_1 {bf : BF} {n p : Nat} (hp : p + 1 < n) (h0 : bf p = 32) (h : ¬ bf (p + 1) = 32) : skp bf n p = p + 1 := by
  unfold skp
  refine fps_at 1 p (fun i h1 h2 => ?_) (by omega) (Or.inr (by simpa using h))
  have : i = p := by omega
  subst this
  simpa using h0
theorem tkS_W {bf : BF} {n s k : Nat} (hk : 1 ≤ k) (hk8 : k ≤ 8) (hn : s + k ≤ n) (hl : ∀ i, i < k → isL (bf (s + i)) = true) (he : s + k = n ∨ isL (bf (s + k)) = false) : tkS bf n s = (s, 1, s + k, n32 0) := by
  have hw : wnd bf n s = s + k := by
    unfold wnd
    refine fps_at k s (fun i h1 h2 => ?_) hn ?_
    · have := hl (i - s) (by omega)
      rw [show s + (i - s) = i by omega] at this
      rw [this]; rfl
    · rcases he with h | h
      · exact Or.inl h
      · exact Or.inr (by rw [h]; rfl)
  unfold tkS
  rw [if_neg (by omega), if_pos (by have := hl 0 (by omega); rwa [Nat.add_zero] at this), hw, if_pos (by omega)]
theorem isD_L {x : Nat} (h : isD x = true) : isL x = false := by
  unfold isD at h; unfold isL
  simp only [Bool.and_eq_true, decide_eq_true_eq] at h
  simp only [Bool.and_eq_false_iff, decide_eq_false_iff_not]
  omega
theorem tkS_N {bf : BF} {n s k : Nat} (hk : 1 ≤ k) (hk4 : k ≤ 4) (hn : s + k ≤ n) (hl : ∀ i, i < k → isD (bf (s + i)) = true) (he : s + k = n ∨ isD (bf (s + k)) = false) : tkS bf n s = (s, 2, s + k, nmI bf s k) := by
  have hw : dnd bf n s = s + k := by
    unfold dnd
    refine fps_at k s (fun i h1 h2 => ?_) hn ?_
    · have := hl (i - s) (by omega)
      rw [show s + (i - s) = i by omega] at this
      rw [this]; rfl
    · rcases he with h | h
      · exact Or.inl h
      · exact Or.inr (by rw [h]; rfl)
  have h0 : isD (bf s) = true := by have := hl 0 (by omega); rwa [Nat.add_zero] at this
  unfold tkS
  rw [if_neg (by omega), if_neg (by rw [isD_L h0]; decide), if_pos h0, hw, if_pos (by omega), show s + k - s = k by omega]
/-- the bytes of a number below 100 -/
def qdN (v : Nat) : List Nat := if v < 10 then [48 + v] else [48 + v / 10, 48 + v % 10]
theorem qdN_D {v : Nat} (hv : v < 100) : 1 ≤ (qdN v).length ∧ (qdN v).length ≤ 2 ∧ ∀ i, i < (qdN v).length → isD ((qdN v).getD i 0) = true := by
  have H : ∀ v, v < 100 → 1 ≤ (qdN v).length ∧ (qdN v).length ≤ 2 ∧ ((List.range (qdN v).length).all fun i => isD ((qdN v).getD i 0)) = true := by decide +kernel
  obtain ⟨h1, h2, h3⟩ := H v hv
  exact ⟨h1, h2, fun i hi => List.all_eq_true.mp h3 i (List.mem_range.mpr hi)⟩
theorem nmI_qd {bf : BF} {s v : Nat} (hv : v < 100) (h : ∀ i, i < (qdN v).length → bf (s + i) = (qdN v).getD i 0) : nmI bf s (qdN v).length = n32 v := by
  have H : ∀ v, v < 100 → (v < 10 → n32 0 * n32 10 + n32 (48 + v) - n32 48 = n32 v) ∧ (¬ v < 10 → (n32 0 * n32 10 + n32 (48 + v / 10) - n32 48) * n32 10 + n32 (48 + v % 10) - n32 48 = n32 v) := by decide +kernel
  obtain ⟨a, b⟩ := H v hv
  by_cases c : v < 10
  · have e : qdN v = [48 + v] := by unfold qdN; rw [if_pos c]
    rw [e] at h ⊢
    show nmI bf s (0 + 1) = _
    rw [nmI_succ, h 0 (by show 0 < 1; omega)]
    exact a c
  · have e : qdN v = [48 + v / 10, 48 + v % 10] := by unfold qdN; rw [if_neg c]
    rw [e] at h ⊢
    show nmI bf s (0 + 1 + 1) = _
    rw [nmI_succ, nmI_succ, h 0 (by show 0 < 2; omega), h (0 + 1) (by show 1 < 2; omega)]
    exact b c
/-- a number behind a blank -/
theorem tok_N {bf : BF} {n p v : Nat} (hv : v < 100) (h : qAt bf n p (32 :: qdN v)) (he : p + 1 + (qdN v).length = n ∨ isD (bf (p + 1 + (qdN v).length)) = false) : tok bf n p = (p + 1, 2, p + 1 + (qdN v).length, n32 v) := by
  obtain ⟨d1, d2, d3⟩ := qdN_D hv
  obtain ⟨h1, h2⟩ := h
  simp only [List.length_cons] at h1 h2
  have hb : ∀ i, i < (qdN v).length → bf (p + 1 + i) = (qdN v).getD i 0 := fun i hi => by
    have := h2 (i + 1) (by omega)
    rw [show p + 1 + i = p + (i + 1) by omega, this]; rfl
  have h0 : bf p = 32 := h2 0 (by omega)
  have hd : isD (bf (p + 1)) = true := by have := hb 0 (by omega); rw [Nat.add_zero] at this; rw [this]; exact d3 0 (by omega)
  unfold tok
  rw [skp_1 (by omega) h0 (fun q => by rw [q] at hd; cases hd), tkS_N d1 (by omega) (by omega) (fun i hi => by rw [hb i hi]; exact d3 i hi) he, nmI_qd hv hb]
/-- a word, behind a blank or not -/
theorem tok_W {bf : BF} {n p : Nat} {l : List Nat} (h1 : 1 ≤ l.length) (h8 : l.length ≤ 8) (hl : ∀ i, i < l.length → isL (l.getD i 0) = true) (h : qAt bf n p l) (he : p + l.length = n ∨ isL (bf (p + l.length)) = false) : tok bf n p = (p, 1, p + l.length, n32 0) := by
  obtain ⟨a, b⟩ := h
  have h0 : isL (bf p) = true := by have := b 0 (by omega); rw [Nat.add_zero] at this; rw [this]; exact hl 0 (by omega)
  unfold tok
  rw [skp_0 (by omega) (fun q => by rw [q] at h0; cases h0), tkS_W h1 h8 a (fun i hi => by rw [b i hi]; exact hl i hi) he]
theorem tok_bW {bf : BF} {n p : Nat} {l : List Nat} (h1 : 1 ≤ l.length) (h8 : l.length ≤ 8) (hl : ∀ i, i < l.length → isL (l.getD i 0) = true) (h : qAt bf n p (32 :: l)) (he : p + 1 + l.length = n ∨ isL (bf (p + 1 + l.length)) = false) : tok bf n p = (p + 1, 1, p + 1 + l.length, n32 0) := by
  obtain ⟨a, b⟩ := h
  simp only [List.length_cons] at a b
  have hb : ∀ i, i < l.length → bf (p + 1 + i) = l.getD i 0 := fun i hi => by
    have := b (i + 1) (by omega)
    rw [show p + 1 + i = p + (i + 1) by omega, this]; rfl
  have hp : bf p = 32 := b 0 (by omega)
  have h0 : isL (bf (p + 1)) = true := by have := hb 0 (by omega); rw [Nat.add_zero] at this; rw [this]; exact hl 0 (by omega)
  unfold tok
  rw [skp_1 (by omega) hp (fun q => by rw [q] at h0; cases h0), tkS_W h1 h8 (by omega) (fun i hi => by rw [hb i hi]; exact hl i hi) he]
theorem tok_S {bf : BF} {n p : Nat} (hp : p < n) (h : bf p = 59) : tok bf n p = (p, 3, p + 1, n32 0) := by
  unfold tok
  rw [skp_0 hp (by omega)]
  unfold tkS
  rw [if_neg (by omega), h, if_neg (by decide), if_neg (by decide), if_pos rfl]
theorem tok_E {bf : BF} {n : Nat} : tok bf n n = (n, 0, n, n32 0) := by
  have : skp bf n n = n := by
    unfold skp; rw [fps_en (Nat.le_refl _)]
  unfold tok
  rw [this]
  unfold tkS
  rw [if_pos (Nat.le_refl _)]
theorem eqW_t {bf : BF} {s : Nat} {l : List Nat} : ∀ (r i : Nat), (∀ j, i ≤ j → j < i + r → bf (s + j) = l.getD j 0) → eqW bf s l r i = true := by
  intro r
  induction r with
  | zero => intro i _; rfl
  | succ r ih =>
    intro i h
    rw [eqW_s, if_pos (h i (Nat.le_refl _) (by omega))]
    exact ih (i + 1) (fun j h1 h2 => h j (by omega) (by omega))
theorem isW_t {bf : BF} {s : Nat} {l : List Nat} {x : Int32} (h : ∀ j, j < l.length → bf (s + j) = l.getD j 0) : isW bf (s, 1, s + l.length, x) l = true := by
  unfold isW
  rw [show s + l.length - s = l.length by omega, eqW_t l.length 0 (fun j _ h2 => h j (by omega))]
  simp
/-- another length, another word -/
theorem isW_f {bf : BF} {s k : Nat} {l : List Nat} {x : Int32} (h : k ≠ l.length) : isW bf (s, 1, s + k, x) l = false := by
  unfold isW
  rw [show s + k - s = k by omega, decide_eq_false h]
  simp
