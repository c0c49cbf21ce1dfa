/-! Numbers and texts are appended; builders and texts are made. -/
/-- the digits of a number below 100 -/
def qdg (k : Nat) : List Int32 := if k < 10 then [n32 (48 + k)] else [n32 (48 + k / 10), n32 (48 + k % 10)]
theorem qdg_A {k : Nat} (h : k < 100) : qA (qdg k) := by
  have H : ∀ k, k < 100 → ((qdg k).all fun x => decide (0 ≤ x) && decide (x ≤ 127)) = true := by decide +kernel
  intro x hx
  have := List.all_eq_true.mp (H k h) x hx
  simpa using this
theorem qdg_len {k : Nat} : (qdg k).length = if k < 10 then 1 else 2 := by
  unfold qdg
  by_cases h : k < 10
  · rw [if_pos h, if_pos h]; rfl
  · rw [if_neg h, if_neg h]; rfl
theorem qones {k : Nat} (h : k < 100) : (xstr.getD 19 []).getD k 0 = n32 (48 + k % 10) := by
  have H : ∀ k, k < 100 → (xstr.getD 19 []).getD k 0 = n32 (48 + k % 10) := by decide +kernel
  exact H k h
theorem qtens {k : Nat} (h : k < 100) : (xstr.getD 18 []).getD k 0 = n32 (48 + k / 10) := by
  have H : ∀ k, k < 100 → (xstr.getD 18 []).getD k 0 = n32 (48 + k / 10) := by decide +kernel
  exact H k h
theorem n32_neg_toInt {k : Nat} (h : k < 1000) : (-(n32 k)).toInt = -(k : Int) := by
  rw [Int32.toInt_neg, n32_toInt (by omega), Int.bmod_def]
  omega
section QD
variable {K : XK} {d : Nat} {S : List XC} {e : Nat} {w : Nat → Value} {m : XM}
theorem qc213 {k : Nat} {σ : XS} (hk : k < 100) : qM K d 213 [.int (n32 k)] σ (qE (some (.int (n32 (qdg k).length))) σ) := by
  refine qL_at km213 k213_0 ?_
  iterate 3 refine qB_one rfl rfl ?_
  refine qB_ifF (fun q => ?_) ?_
  · have := (n32_lt (a := k) (b := 0) (by omega) (by omega)).mp q
    omega
  refine qB_gow (qL_at km213 k213_1 ?_)
  iterate 5 refine qB_one rfl rfl ?_
  refine qB_gow (qL_at km213 k213_2 ?_)
  iterate 4 refine qB_one rfl rfl ?_
  refine qB_gow (qL_at km213 k213_3 ?_)
  iterate 2 refine qB_one rfl rfl ?_
  refine qB_icF (by unfold xct; decide) ?_
  refine qB_gow (qL_at km213 k213_4 ?_)
  iterate 2 refine qB_one rfl rfl ?_
  by_cases h10 : k < 10
  · refine qB_icF (fun q => ?_) ?_
    · have q1 : -(n32 k) ≤ Int32.ofInt (-10) := q
      rw [Int32.le_iff_toInt_le, n32_neg_toInt (by omega)] at q1
      have : (Int32.ofInt (-10)).toInt = -10 := by decide
      omega
    refine qB_gow (qL_at km213 k213_5 ?_)
    repeat refine qB_one rfl rfl ?_
    refine qB_iret rfl ⟨?_, rfl⟩
    rw [qdg_len, if_pos h10]; rfl
  · refine qB_icT ?_ ?_
    · show -(n32 k) ≤ Int32.ofInt (-10)
      rw [Int32.le_iff_toInt_le, n32_neg_toInt (by omega)]
      have : (Int32.ofInt (-10)).toInt = -10 := by decide
      omega
    refine qL_at km213 k213_6 ?_
    iterate 5 refine qB_one rfl rfl ?_
    refine qB_go (qL_at km213 k213_3 ?_)
    iterate 2 refine qB_one rfl rfl ?_
    refine qB_icF (by unfold xct; decide) ?_
    refine qB_gow (qL_at km213 k213_4 ?_)
    iterate 2 refine qB_one rfl rfl ?_
    refine qB_icF (fun q => ?_) ?_
    · have q1 : -(n32 k) ≤ Int32.ofInt 10 * Int32.ofInt (-10) := q
      rw [Int32.le_iff_toInt_le, n32_neg_toInt (by omega)] at q1
      have : (Int32.ofInt 10 * Int32.ofInt (-10)).toInt = -100 := by decide
      omega
    refine qB_gow (qL_at km213 k213_5 ?_)
    repeat refine qB_one rfl rfl ?_
    refine qB_iret rfl ⟨?_, rfl⟩
    rw [qdg_len, if_neg h10]; rfl
/-- the digits are put into the bytes b, up to the place p -/
theorem qc212 {k p b n : Nat} (hk : k < 100) (hb : S[b]? = some (21, n, [])) (hn : n ≤ 1000) (hp : (qdg k).length ≤ p) (hpn : p ≤ n) (hN : S.length ≤ 1000000) : qM K d 212 [.int (n32 k), .int (n32 p), .ref b] (S, e, w, m) (fun r σ' => (∃ x, r = some (.int x)) ∧ ∃ m', σ' = (S, e, w, m') ∧ (∀ a, a ≠ b → m' a = m a) ∧ (∀ i, (i < p - (qdg k).length ∨ p ≤ i) → m' b i = m b i) ∧ (∀ i, i < (qdg k).length → m' b (p - (qdg k).length + i) = (qdg k).getD i 0)) := by
  have hlen := qdg_len (k := k)
  have hp1 : 1 ≤ p := by
    rw [hlen] at hp
    split at hp <;> omega
  refine qL_at km212 k212_0 ?_
  iterate 3 refine qB_one rfl rfl ?_
  refine qB_ifT ((n32_le (a := 0) (b := k) (by omega) (by omega)).mpr (Nat.zero_le _)) ?_
  refine qL_at km212 k212_2 ?_
  iterate 1 refine qB_one rfl rfl ?_
  refine qB_gow (qL_at km212 k212_3 ?_)
  iterate 2 refine qB_one rfl rfl ?_
  refine qB_ifF (by unfold xct; decide) ?_
  refine qB_gow (qL_at km212 k212_4 ?_)
  iterate 3 refine qB_one rfl rfl ?_
  refine qB_gow (qL_at km212 k212_5 ?_)
  iterate 2 refine qB_one rfl rfl ?_
  refine qB_icT ?_ ?_
  · show Int32.ofInt (-100) < -(n32 k)
    rw [Int32.lt_iff_toInt_lt, n32_neg_toInt (by omega)]
    have : (Int32.ofInt (-100)).toInt = -100 := by decide
    omega
  refine qL_at km212 k212_7 ?_
  show qB K d 212 1 _ [(0, .int (-(n32 k))), (2, .ref b), (5, .int (n32 p)), (6, .int 0)] [] _ _
  iterate 1 refine qB_one rfl rfl ?_
  refine q_dec (p := p) rfl hp1 ?_
  iterate 3 refine qB_one rfl rfl ?_
  refine qB_one (ls' := [(5, .int (n32 (p - 1))), (0, .int (-(n32 k))), (2, .ref b), (6, .int 0)]) (st' := [.int (n32 k), .ref 1000059, .int (n32 (p - 1)), .ref b]) (σ1 := (S, e, w, m)) rfl ?_ ?_
  · show some (_, [Value.int (- -(n32 k)), _, _, _], _) = _
    rw [Int32.neg_neg]
    rfl
  refine q_balK (n := 100) (f := fun j => (xstr.getD 19 []).getD j 0) (qfar hN (by decide)) rfl (xin_n (by omega) (by omega)) ?_
  rw [show (n32 k).toNatClampNeg = k from ix_n32 (by omega), qones hk]
  have hA := qdg_A hk
  have v1 : (n32 (48 + k % 10)).toInt8.toInt32 = n32 (48 + k % 10) := i8_ok ⟨(n32_le (a := 0) (by omega) (by omega)).mpr (Nat.zero_le _), (n32_le (b := 127) (by omega) (by omega)).mpr (by omega)⟩
  refine q_bastV (i := p - 1) hb (by omega) (by omega) v1 ?_
  iterate 2 refine qB_one rfl rfl ?_
  by_cases h10 : k < 10
  · refine qB_icT ?_ ?_
    · show Int32.ofInt (-9) ≤ -(n32 k)
      rw [Int32.le_iff_toInt_le, n32_neg_toInt (by omega)]
      have : (Int32.ofInt (-9)).toInt = -9 := by decide
      omega
    refine qL_at km212 k212_9 ?_
    iterate 1 refine qB_one rfl rfl ?_
    refine qB_ifT (by unfold xct; decide) ?_
    refine qL_at km212 k212_11 ?_
    iterate 1 refine qB_one rfl rfl ?_
    have hd : qdg k = [n32 (48 + k)] := by unfold qdg; rw [if_pos h10]
    refine qB_iret rfl ⟨⟨_, rfl⟩, _, rfl, fun a ha => um_f ha, fun i hi => ?_, fun i hi => ?_⟩
    · rw [hd] at hi
      simp only [List.length_singleton] at hi
      rw [um_k (by omega)]
    · rw [hd] at hi ⊢
      simp only [List.length_singleton] at hi ⊢
      have : i = 0 := by omega
      subst this
      rw [Nat.add_zero, um_eq, show k % 10 = k by omega]; rfl
  · refine qB_icF (fun q => ?_) ?_
    · have q1 : Int32.ofInt (-9) ≤ -(n32 k) := q
      rw [Int32.le_iff_toInt_le, n32_neg_toInt (by omega)] at q1
      have : (Int32.ofInt (-9)).toInt = -9 := by decide
      omega
    rw [hlen, if_neg h10] at hp
    refine qB_gow (qL_at km212 k212_8 ?_)
    show qB K d 212 1 _ [(0, .int (-(n32 k))), (2, .ref b), (5, .int (n32 (p - 1))), (6, .int 0)] [] _ _
    iterate 1 refine qB_one rfl rfl ?_
    refine q_dec (p := p - 1) rfl (by omega) ?_
    iterate 3 refine qB_one rfl rfl ?_
    refine qB_one (ls' := [(5, .int (n32 (p - 1 - 1))), (0, .int (-(n32 k))), (2, .ref b), (6, .int 0)]) (st' := [.int (n32 k), .ref 1000058, .int (n32 (p - 1 - 1)), .ref b]) (σ1 := (S, e, w, um m b (p - 1) (n32 (48 + k % 10)))) rfl ?_ ?_
    · show some (_, [Value.int (- -(n32 k)), _, _, _], _) = _
      rw [Int32.neg_neg]
      rfl
    refine q_balK (n := 100) (f := fun j => (xstr.getD 18 []).getD j 0) (qfar hN (by decide)) rfl (xin_n (by omega) (by omega)) ?_
    rw [show (n32 k).toNatClampNeg = k from ix_n32 (by omega), qtens hk]
    have v2 : (n32 (48 + k / 10)).toInt8.toInt32 = n32 (48 + k / 10) := i8_ok ⟨(n32_le (a := 0) (by omega) (by omega)).mpr (Nat.zero_le _), (n32_le (b := 127) (by omega) (by omega)).mpr (by omega)⟩
    refine q_bastV (i := p - 1 - 1) hb (by omega) (by omega) v2 ?_
    refine qB_gow (qL_at km212 k212_9 ?_)
    show qB K d 212 1 _ [(2, .ref b), (5, .int (n32 (p - 1 - 1))), (6, .int 0)] [] _ _
    iterate 1 refine qB_one rfl rfl ?_
    refine qB_ifT (by unfold xct; decide) ?_
    refine qL_at km212 k212_11 ?_
    iterate 1 refine qB_one rfl rfl ?_
    have hd : qdg k = [n32 (48 + k / 10), n32 (48 + k % 10)] := by unfold qdg; rw [if_neg h10]
    refine qB_iret rfl ⟨⟨_, rfl⟩, _, rfl, fun a ha => by rw [um_f ha, um_f ha], fun i hi => ?_, fun i hi => ?_⟩
    · rw [hd] at hi
      simp only [List.length_cons, List.length_nil] at hi
      rw [um_k (by omega), um_k (by omega)]
    · rw [hd] at hi ⊢
      simp only [List.length_cons, List.length_nil] at hi ⊢
      have : i = 0 ∨ i = 1 := by omega
      rcases this with rfl | rfl
      · rw [show p - (0 + 1 + 1) + 0 = p - 1 - 1 by omega, um_eq]; rfl
      · rw [show p - (0 + 1 + 1) + 1 = p - 1 by omega, um_k (by omega), um_eq]; rfl
theorem qc196 {a v cap k : Nat} {l : List Int32} (h : qSB S m a v cap l) (hG : qG S) (hN : S.length + 1 < 1000000) (hn : l.length + 2 ≤ 400) (hk : k < 100) : qM K (d + 4) 196 [.ref a, .int (n32 k)] (S, e, w, m) (qAP S m e w a v (l ++ qdg k) 1) := by
  have hal := ap_lt h.1
  have hlen := qdg_len (k := k)
  have hl2 : 1 ≤ (qdg k).length ∧ (qdg k).length ≤ 2 := by
    rw [hlen]; split <;> omega
  refine qL_at km196 k196_0 ?_
  iterate 1 refine qB_one rfl rfl ?_
  refine q_getV h.1 h.2.2.2.1 rfl ?_
  iterate 3 refine qB_one rfl rfl ?_
  refine qB_is km213 (Nat.le_of_ble_eq_true rfl) rfl (Nat.le_of_ble_eq_true rfl) (Nat.le_of_ble_eq_true rfl) (qc213 hk) ?_
  rintro v1 σ1 ⟨rfl, rfl⟩
  refine ⟨Or.inl rfl, ?_⟩
  refine q_add (a := l.length) (b := (qdg k).length) ?_
  iterate 3 refine qB_one rfl rfl ?_
  refine qB_iv km198 (Nat.le_of_ble_eq_true rfl) (qrecv h.1 (by decide)) (Nat.le_of_ble_eq_true rfl) (Nat.le_of_ble_eq_true rfl) (qc198 h hG (by omega) (n := l.length + (qdg k).length) (by omega)) ?_
  rintro v1 σ1 ⟨rfl, S', m', v', cap', rfl, h2, hcap, hq, hv'⟩
  refine ⟨Or.inr ⟨by show (true && (true && (xok S.length (Value.ref a) && (true && true)))) = true; rw [xokR hal]; rfl, rfl⟩, ?_⟩
  iterate 1 refine qB_one rfl rfl ?_
  refine qB_iv km202 (Nat.le_of_ble_eq_true rfl) (qrecv h2.1 (by decide)) (Nat.le_of_ble_eq_true rfl) (Nat.le_of_ble_eq_true rfl) (qc202 h2) ?_
  rintro v1 σ1 ⟨rfl, rfl⟩
  refine ⟨Or.inl rfl, ?_⟩
  refine qB_ifF (by unfold xct; decide) ?_
  refine qB_gow (qL_at km196 k196_1 ?_)
  iterate 3 refine qB_one rfl rfl ?_
  refine q_getR h2.1 rfl rfl ?_
  have hne : v' ≠ a := fun q => by
    have z1 := h2.1
    have z2 := h2.2.1
    rw [q, z1] at z2; cases z2
  refine qB_is km212 (Nat.le_of_ble_eq_true rfl) rfl (Nat.le_of_ble_eq_true rfl) (Nat.le_of_ble_eq_true rfl) (qc212 hk (p := l.length + (qdg k).length) h2.2.1 h2.2.2.2.2.2.1 (by omega) hcap (by have := hq.2.1; omega)) ?_
  rintro v1 σ1 ⟨⟨x, rfl⟩, m2, rfl, g1, g2, g3⟩
  refine ⟨Or.inl rfl, ?_⟩
  iterate 1 refine qB_one rfl rfl ?_
  refine qB_go (qL_at km196 k196_3 ?_)
  iterate 2 refine qB_one rfl rfl ?_
  refine q_putI h2.1 rfl (Or.inl rfl) ?_
  iterate 1 refine qB_one rfl rfl ?_
  refine qB_aret ⟨rfl, S', _, v', cap', rfl, qSB_put (l2 := qdg k) h2 hcap (qdg_A hk) ?_ ?_ ?_ ?_, ?_, hv'⟩
  · rw [um_k (by decide), g1 a (Ne.symm hne)]; exact h2.2.2.1
  · exact um_eq _ _ _ _
  · intro i hi
    rw [um_a hne]
    exact g2 i (by omega)
  · intro i hi
    rw [um_a hne]
    have := g3 i hi
    rw [show l.length + (qdg k).length - (qdg k).length + i = l.length + i by omega] at this
    exact this
  · refine hq.tr ((qS_m (E := fun b => b = v') (m' := m2) (fun b hb => g1 b hb)).tr (E2 := fun b => b = a) (E := fun b => b = a ∨ b = v') (c2 := 0) (c := 0) qS_um (fun _ _ q => Or.inr q) (fun _ _ q => Or.inl q) (Nat.le_refl _)) (fun _ _ q => Or.inl q) (fun b hb q => ?_) (Nat.le_refl _)
    rcases q with q | q
    · exact Or.inl q
    · rcases hv' with z | z
      · exact Or.inr (q.trans z)
      · omega
theorem qc192 {a v cap k : Nat} {l : List Int32} (h : qSB S m a v cap l) (hG : qG S) (hN : S.length + 1 < 1000000) (hn : l.length + 2 ≤ 400) (hk : k < 100) : qM K (d + 5) 192 [.ref a, .int (n32 k)] (S, e, w, m) (qAP S m e w a v (l ++ qdg k) 1) := by
  have hal := ap_lt h.1
  refine qL_at km192 k192_0 ?_
  iterate 2 refine qB_one rfl rfl ?_
  refine qB_ip km196 (Nat.le_of_ble_eq_true rfl) (qrecv h.1 (by decide)) (Nat.le_of_ble_eq_true rfl) (Nat.le_of_ble_eq_true rfl) (qc196 h hG hN hn hk) ?_
  rintro v1 σ1 ⟨rfl, S', m', v', cap', rfl, h2, hq, hv'⟩
  refine ⟨Or.inr ⟨by show (xok S.length (Value.ref a) && (true && true)) = true; rw [xokR hal]; rfl, rfl⟩, ?_⟩
  iterate 2 refine qB_one rfl rfl ?_
  exact qB_aret ⟨rfl, S', m', v', cap', rfl, h2, hq, hv'⟩
end QD
