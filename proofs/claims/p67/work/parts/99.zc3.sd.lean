/-! The law's said: blanks fill the last twenty. -/
theorem qS_split {S S' : List XC} {m m' : XM} {c : Nat} (h : qS S m S' m' (fun _ => False) c) : ∃ T', S' = S ++ T' := by
  refine ⟨S'.drop S.length, ?_⟩
  apply List.ext_getElem?
  intro i
  by_cases hi : i < S.length
  · rw [List.getElem?_append_left hi]
    exact (h.2.2.2.2 i hi (fun q => q)).1
  · rw [List.getElem?_append_right (by omega), List.getElem?_drop]
    congr 1; omega
section ZC3
variable {K : XK} {d : Nat} {T : List XC} {e : Nat} {w : Nat → Value} {m : XM}
/-- what is left of the rest of memory -/
def qPF (m m' : XM) (mm : Nat) : Prop := ∀ b k, b ≠ mm → ¬ (b = 2 ∧ k = 1) → b ≠ 3 → m' b k = m b k
theorem qPF.tr {m1 m2 m3 : XM} {mm : Nat} (h1 : qPF m1 m2 mm) (h2 : qPF m2 m3 mm) : qPF m1 m3 mm := fun b k c1 c2 c3 => (h2 b k c1 c2 c3).trans (h1 b k c1 c2 c3)
theorem qw176 {mm n0 : Nat} {B0 : List Nat} {x : Int32} (hmm : 283 ≤ mm) (hS : (S0 ++ T)[mm]? = some (20, 7, [])) (hT : 283 + T.length ≤ 1000000) (hn0 : n0 = B0.length) : ∀ (i : Nat) (m : XM) (B : List Nat) (q : Nat), qPK m mm B q → (B.length = 20 * q ∨ B.length + i = 20 * q + 20) → 20 * q + 20 ≤ 700 → n0 ≤ B.length → (∀ j, j < n0 → B.getD j 0 = B0.getD j 0) →
    qL K (d + 5) 176 1 [(0, .ref 0), (1, .ref mm), (2, .int x)] [] (S0 ++ T, e, w, m) (fun r σ' => r = some (.int x) ∧ ∃ m' L, σ' = (S0 ++ T, e, w, m') ∧ m' 2 1 = n32 L ∧ n0 ≤ L ∧ L ≤ 700 ∧ (∀ j, j < n0 → m' 3 j = n32 (B0.getD j 0)) ∧ qPF m m' mm) := by
  intro i
  have fin : ∀ (m : XM) (B : List Nat) (q : Nat), qPK m mm B q → B.length = 20 * q → 20 * q ≤ 700 → n0 ≤ B.length → (∀ j, j < n0 → B.getD j 0 = B0.getD j 0) →
      qL K (d + 5) 176 1 [(0, .ref 0), (1, .ref mm), (2, .int x)] [] (S0 ++ T, e, w, m) (fun r σ' => r = some (.int x) ∧ ∃ m' L, σ' = (S0 ++ T, e, w, m') ∧ m' 2 1 = n32 L ∧ n0 ≤ L ∧ L ≤ 700 ∧ (∀ j, j < n0 → m' 3 j = n32 (B0.getD j 0)) ∧ qPF m m' mm) := by
    intro m B q h hB hl hn hj
    obtain ⟨h1, h2, h3, h4, h5, h6, h7, h8⟩ := h
    refine qL_at km176 k176_1 ?_
    iterate 2 refine qB_one rfl rfl ?_
    refine q_ialV (i := 5) hS (by omega) (by omega) h3 ?_
    refine qB_ifT ?_ ?_
    · rw [hB, Nat.sub_self]
      exact Int32.le_refl _
    refine qL_at km176 k176_3 ?_
    iterate 3 refine qB_one rfl rfl ?_
    refine q_iastV (i := 6) hS (by omega) (by omega) ?_
    iterate 1 refine qB_one rfl rfl ?_
    refine qB_iret rfl ⟨rfl, _, 20 * q, rfl, ?_, by omega, hl, fun j hj' => ?_, fun b k c1 c2 c3 => um_a c1⟩
    · rw [um_a (by omega)]; exact h5
    · rw [um_a (by omega), h6 j (by omega), hj j hj']
  induction i with
  | zero =>
    intro m B q h hk hl hn hj
    rcases hk with hk | hk
    · exact fin m B q h hk (by omega) hn hj
    · have := h.2.1; omega
  | succ i ih =>
    intro m B q h hk hl hn hj
    rcases hk with hk | hk
    · exact fin m B q h hk (by omega) hn hj
    · by_cases hk0 : B.length = 20 * q
      · exact fin m B q h hk0 (by omega) hn hj
      have h0 := h
      obtain ⟨h1, h2, h3, h4, h5, h6, h7, h8⟩ := h
      refine qL_at km176 k176_1 ?_
      iterate 2 refine qB_one rfl rfl ?_
      refine q_ialV (i := 5) hS (by omega) (by omega) h3 ?_
      refine qB_ifF (fun z => ?_) ?_
      · have := (n32_le (a := B.length - 20 * q) (b := 0) (by omega) (by omega)).mp z
        omega
      refine qB_gow (qL_at km176 k176_2 ?_)
      show qB K (d + 5) 176 1 _ [(0, .ref 0), (1, .ref mm), (2, .int x)] [] _ _
      iterate 3 refine qB_one rfl rfl ?_
      refine qB_is km174 (Nat.le_of_ble_eq_true rfl) rfl (Nat.le_of_ble_eq_true rfl) (Nat.le_of_ble_eq_true rfl) (qc174 (c := 32) hmm hS hT h0 (by omega) (by omega)) ?_
      rintro v1 σ1 ⟨rfl, m1, q1, rfl, g1, g2⟩
      refine ⟨Or.inl rfl, ?_⟩
      have hlen : (B ++ [32]).length = B.length + 1 := by rw [List.length_append]; rfl
      have g1a := g1.1
      have g1b := g1.2.1
      rw [hlen] at g1a g1b
      refine qB_go (qL_ls km176 k176_1 (qL_mono (?_ : qL K (d + 5) 176 1 [(0, .ref 0), (1, .ref mm), (2, .int x)] [] (S0 ++ T, e, w, m1) (fun r σ' => r = some (.int x) ∧ ∃ m' L, σ' = (S0 ++ T, e, w, m') ∧ m' 2 1 = n32 L ∧ n0 ≤ L ∧ L ≤ 700 ∧ (∀ j, j < n0 → m' 3 j = n32 (B0.getD j 0)) ∧ qPF m1 m' mm)) ?_) rfl)
      · have hj2 : ∀ j, j < n0 → (B ++ [32]).getD j 0 = B0.getD j 0 := fun j hj' => by rw [getD_app (by omega)]; exact hj j hj'
        by_cases hq : (B ++ [32]).length = 20 * q1
        · exact fin m1 (B ++ [32]) q1 g1 hq (by omega) (by omega) hj2
        · exact ih m1 (B ++ [32]) q1 g1 (Or.inr (by omega)) (by omega) (by omega) hj2
      · rintro v1 σ1 ⟨rfl, m', L, rfl, z1, z2, z3, z4, z5⟩
        exact ⟨rfl, m', L, rfl, z1, z2, z3, z4, qPF.tr g2 z5⟩
theorem qc176 {mm q : Nat} {B : List Nat} (hmm : 283 ≤ mm) (hS : (S0 ++ T)[mm]? = some (20, 7, [])) (hT : 283 + T.length ≤ 1000000) (h : qPK m mm B q) (hl : 20 * q + 20 ≤ 700) :
    qM K (d + 5) 176 [.ref 0, .ref mm] (S0 ++ T, e, w, m) (fun r σ' => r = some (.int (n32 B.length)) ∧ ∃ m' L, σ' = (S0 ++ T, e, w, m') ∧ m' 2 1 = n32 L ∧ B.length ≤ L ∧ L ≤ 700 ∧ (∀ j, j < B.length → m' 3 j = n32 (B.getD j 0)) ∧ qPF m m' mm) := by
  refine qL_at km176 k176_0 ?_
  iterate 2 refine qB_one rfl rfl ?_
  refine q_ialV (i := 6) hS (by omega) (by omega) h.2.2.2.1 ?_
  iterate 1 refine qB_one rfl rfl ?_
  have h1 := h.1
  have h2 := h.2.1
  by_cases hk : B.length = 20 * q
  · exact qB_gow (qL_ls km176 k176_1 (qw176 (d := d) hmm hS hT rfl 0 m B q h (Or.inl hk) hl (Nat.le_refl _) (fun _ _ => rfl)) rfl)
  · exact qB_gow (qL_ls km176 k176_1 (qw176 (d := d) hmm hS hT rfl (20 * q + 20 - B.length) m B q h (Or.inr (by omega)) hl (Nat.le_refl _) (fun _ _ => rfl)) rfl)
end ZC3
