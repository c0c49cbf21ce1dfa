/-! The march that the script tells: what holds of it. -/
theorem qAnd (x : Int32) {k : Nat} (hk : k < 2147483648) : ∃ j, j ≤ k ∧ x &&& n32 k = n32 j := by
  refine ⟨(x.toBitVec &&& (n32 k).toBitVec).toNat, ?_, ?_⟩
  · rw [BitVec.toNat_and]
    refine Nat.le_trans Nat.and_le_right ?_
    show (BitVec.ofNat 32 k).toNat ≤ k
    rw [BitVec.toNat_ofNat]; exact Nat.mod_le _ _
  · apply Int32.toBitVec_inj.mp
    rw [Int32.toBitVec_and]
    apply BitVec.eq_of_toNat_eq
    show _ = (BitVec.ofNat 32 _).toNat
    rw [BitVec.toNat_ofNat, Nat.mod_eq_of_lt (BitVec.isLt _)]
theorem qrem {a b : Nat} (ha : a < 32) (hb : 1 ≤ b) (hb2 : b < 32) : n32 a - n32 a / n32 b * n32 b = n32 (a % b) := by
  have H : ∀ a, a < 32 → ∀ b, b < 32 → 1 ≤ b → n32 a - n32 a / n32 b * n32 b = n32 (a % b) := by decide +kernel
  exact H a ha b hb2 hb
def qNum (m : XM) (A j lo hi : Nat) : Prop := ∃ k, lo ≤ k ∧ k ≤ hi ∧ m A j = n32 k
theorem qNum_um {m : XM} {A A' i j lo hi : Nat} {v : Int32} (h : qNum m A i lo hi) (hne : A ≠ A' ∨ i ≠ j) : qNum (um m A' j v) A i lo hi := by
  obtain ⟨k, h1, h2, h3⟩ := h
  refine ⟨k, h1, h2, ?_⟩
  rcases hne with q | q
  · rw [um_a q]; exact h3
  · rw [um_k q]; exact h3
theorem qNum_eq {m m' : XM} {A i lo hi : Nat} (h : qNum m A i lo hi) (he : m' A = m A) : qNum m' A i lo hi := by
  obtain ⟨k, h1, h2, h3⟩ := h
  exact ⟨k, h1, h2, by rw [he]; exact h3⟩
/-- the word i -/
def qW (S : List XC) (m : XM) (b L : Nat) (ws : List (Option Nat)) (i : Nat) : Prop := ∃ t v l, ws[i]? = some (some t) ∧ qTm S m t v l ∧ b + 16 ≤ t ∧ b + 16 ≤ v ∧ t < L ∧ v < L ∧ 1 ≤ l.length ∧ l.length ≤ 4 ∧ ∀ x ∈ l, x = n32 97 ∨ x = n32 98
def qlo : List Nat := [1, 0, 1, 0, 1, 0]
def qhi : List Nat := [8, 63, 8, 15, 32, 31]
/-- the March a, so far -/
def qMV (S : List XC) (m : XM) (a b L nb ns np j1 j2 j3 : Nat) (ws : List (Option Nat)) : Prop := qMS S a b ws ∧ (∀ i, i < 6 → qNum m b i (qlo.getD i 0) (qhi.getD i 0)) ∧ (m a 16 = n32 nb ∧ 2 ≤ nb ∧ nb ≤ 5) ∧ (m a 17 = n32 ns ∧ 1 ≤ ns ∧ ns ≤ 2) ∧ (m a 18 = n32 np ∧ np ≤ 2) ∧
  (∀ i, i < j1 → qNum m (b + 2) i 1 2 ∧ qNum m (b + 4) i 1 16 ∧ qNum m (b + 5) i 0 20) ∧ (∀ i, i < j2 → qNum m (b + 8) i 0 1 ∧ qNum m (b + 9) i 0 63 ∧ qW S m b L ws i) ∧ (∀ i, i < j3 → qNum m (b + 11) i 1 8 ∧ qNum m (b + 12) i 0 (nb - 2))
theorem qMS.mv {S S' : List XC} {m m' : XM} {a b c : Nat} {ws : List (Option Nat)} {E : Nat → Prop} (h : qMS S a b ws) (hq : qS S m S' m' E c) (hE : ∀ x, E x → x ≠ a ∧ b + 16 ≤ x) : qMS S' a b ws := by
  obtain ⟨h1, h2, h3, h4, h5, h6⟩ := h
  have hl := hq.1
  refine ⟨((hq.2.2.2.2 a (ap_lt h1) (fun q => (hE _ q).1 rfl)).1).trans h1, fun i hi => ((hq.2.2.2.2 (b + i) (ap_lt (h2 i hi)) (fun q => by have := (hE _ q).2; omega)).1).trans (h2 i hi), ((hq.2.2.2.2 (b + 14) (ap_lt h3) (fun q => by have := (hE _ q).2; omega)).1).trans h3, h4, by omega, h6⟩
theorem qMV.mv {S S' : List XC} {m m' : XM} {a b L nb ns np j1 j2 j3 c : Nat} {ws : List (Option Nat)} {E : Nat → Prop} (h : qMV S m a b L nb ns np j1 j2 j3 ws) (hq : qS S m S' m' E c) (hE : ∀ x, E x → x ≠ a ∧ b + 16 ≤ x ∧ L ≤ x) : qMV S' m' a b L nb ns np j1 j2 j3 ws := by
  obtain ⟨h1, h2, h3, h4, h5, h6, h7, h8⟩ := h
  have h1' := h1
  obtain ⟨s1, s2, s3, s4, s5, s6⟩ := h1
  have ha : m' a = m a := (hq.2.2.2.2 a (ap_lt s1) (fun q => (hE _ q).1 rfl)).2
  have hb : ∀ i, i < 16 → m' (b + i) = m (b + i) := fun i hi => (hq.2.2.2.2 (b + i) (by omega) (fun q => by have := (hE _ q).2.1; omega)).2
  refine ⟨h1'.mv hq (fun x q => ⟨(hE x q).1, (hE x q).2.1⟩), fun i hi => qNum_eq (h2 i hi) (hb 0 (by omega)), by rw [ha]; exact h3, by rw [ha]; exact h4, by rw [ha]; exact h5, fun i hi => ?_, fun i hi => ?_, fun i hi => ?_⟩
  · obtain ⟨g1, g2, g3⟩ := h6 i hi
    exact ⟨qNum_eq g1 (hb 2 (by omega)), qNum_eq g2 (hb 4 (by omega)), qNum_eq g3 (hb 5 (by omega))⟩
  · obtain ⟨g1, g2, t, v, l, w1, w2, w3, w4, w5, w6, w7⟩ := h7 i hi
    exact ⟨qNum_eq g1 (hb 8 (by omega)), qNum_eq g2 (hb 9 (by omega)), t, v, l, w1, w2.mv hq (fun q => by have := (hE _ q).2.2; omega) (fun q => by have := (hE _ q).2.2; omega), w3, w4, w5, w6, w7⟩
  · obtain ⟨g1, g2⟩ := h8 i hi
    exact ⟨qNum_eq g1 (hb 11 (by omega)), qNum_eq g2 (hb 12 (by omega))⟩
/-- a number is stored into one of its arrays, where nothing is told yet -/
theorem qMV_um {S : List XC} {m : XM} {a b L nb ns np j1 j2 j3 k j : Nat} {v : Int32} {ws : List (Option Nat)} (h : qMV S m a b L nb ns np j1 j2 j3 ws) (hk : k < 14) (h0 : k ≠ 0) (e1 : k = 2 ∨ k = 4 ∨ k = 5 → j1 ≤ j) (e2 : k = 8 ∨ k = 9 → j2 ≤ j) (e3 : k = 11 ∨ k = 12 → j3 ≤ j) : qMV S (um m (b + k) j v) a b L nb ns np j1 j2 j3 ws := by
  obtain ⟨h1, h2, h3, h4, h5, h6, h7, h8⟩ := h
  have h1' := h1
  obtain ⟨s1, s2, s3, s4, s5, s6⟩ := h1
  have ha : ∀ x, um m (b + k) j v a x = m a x := fun x => um_a (by omega)
  refine ⟨h1', fun i hi => qNum_um (h2 i hi) (Or.inl (by omega)), by rw [ha]; exact h3, by rw [ha]; exact h4, by rw [ha]; exact h5, fun i hi => ?_, fun i hi => ?_, fun i hi => ?_⟩
  · obtain ⟨g1, g2, g3⟩ := h6 i hi
    refine ⟨qNum_um g1 ?_, qNum_um g2 ?_, qNum_um g3 ?_⟩ <;> omega
  · obtain ⟨g1, g2, t, u, l, w1, w2, w3, w4, w5, w6, w7⟩ := h7 i hi
    exact ⟨qNum_um g1 (by omega), qNum_um g2 (by omega), t, u, l, w1, w2.mv (qS_um (a := b + k) (k := j) (v := v)) (by omega) (by omega), w3, w4, w5, w6, w7⟩
  · obtain ⟨g1, g2⟩ := h8 i hi
    refine ⟨qNum_um g1 ?_, qNum_um g2 ?_⟩ <;> omega
theorem qM_at {S : List XC} {a b i : Nat} {ws : List (Option Nat)} (h : qMS S a b ws) (hi : i < 16) : ((List.range 16).map (fun i => some (b + i)) ++ List.replicate 8 none)[i]? = some (some (b + i)) := by
  rw [List.getElem?_append_left (by simpa using hi), List.getElem?_map, List.getElem?_range hi]; rfl
