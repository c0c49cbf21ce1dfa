/-! The law's put and flush: bytes come into the class's buffer by twenties. -/
/-- the bytes B were said: q twenties of them lie in the buffer, the others in the pack mm -/
def qPK (m : XM) (mm : Nat) (B : List Nat) (q : Nat) : Prop := 20 * q ≤ B.length ∧ B.length < 20 * q + 20 ∧ m mm 5 = n32 (B.length - 20 * q) ∧ m mm 6 = n32 B.length ∧ m 2 1 = n32 (20 * q) ∧ (∀ i, i < 20 * q → m 3 i = n32 (B.getD i 0)) ∧ (∀ j, j < B.length - 20 * q → xby (m mm (j / 4)) (min 4 (B.length - 20 * q - 4 * (j / 4)) - 1 - j % 4) = B.getD (20 * q + j) 0) ∧ ∀ x ∈ B, x < 256
theorem q_div4 {K : XK} {d y rt : Nat} {is : List Instr} {ls : XL} {r : List Value} {σ : XS} {Q : Option Value → XS → Prop} {k : Nat} (hk : k < 20) (h : qB K d y rt is ls (.int (n32 (k / 4)) :: r) σ Q) : qB K d y rt (.idiv :: is) ls (.int (Int32.ofInt 4) :: .int (n32 k) :: r) σ Q := by
  refine qB_one rfl ?_ h
  have H : ∀ k, k < 20 → n32 k / Int32.ofInt 4 = n32 (k / 4) := by decide +kernel
  show (if Int32.ofInt 4 = 0 then none else some (ls, Value.int (n32 k / Int32.ofInt 4) :: r, σ)) = _
  rw [if_neg (by decide), H k hk]
theorem getD_app {B : List Nat} {c i : Nat} (h : i < B.length) : (B ++ [c]).getD i 0 = B.getD i 0 := by
  rw [List.getD_eq_getElem?_getD, List.getD_eq_getElem?_getD, List.getElem?_append_left h]
theorem getD_last {B : List Nat} {c : Nat} : (B ++ [c]).getD B.length 0 = c := by
  rw [List.getD_eq_getElem?_getD, List.getElem?_append_right (Nat.le_refl _), Nat.sub_self]; rfl
section ZC2
variable {K : XK} {d : Nat} {T : List XC} {e : Nat} {w : Nat → Value} {m : XM}
/-- what the pack is behind a byte more, ahead of any flush -/
theorem qPK_step {mm q c k n : Nat} {B : List Nat} (hmm : 283 ≤ mm) (h : qPK m mm B q) (hc : c < 256) (hk : k = B.length - 20 * q) (hn : n = B.length) {M : XM} (hM : M = um (um (um m mm (k / 4) (qpk (m mm (k / 4)) c)) mm 5 (n32 (k + 1))) mm 6 (n32 (n + 1))) :
    M mm 5 = n32 (k + 1) ∧ M mm 6 = n32 (n + 1) ∧ (∀ j, j < k + 1 → xby (M mm (j / 4)) (min 4 (k + 1 - 4 * (j / 4)) - 1 - j % 4) = (B ++ [c]).getD (20 * q + j) 0) ∧ (∀ b i, b ≠ mm → M b i = m b i) := by
  obtain ⟨h1, h2, h3, h4, h5, h6, h7, h8⟩ := h
  have hw : ∀ t, t < 5 → M mm t = if t = k / 4 then qpk (m mm (k / 4)) c else m mm t := fun t ht => by
    rw [hM, um_k (by omega), um_k (by omega)]
    by_cases q1 : t = k / 4
    · rw [if_pos q1, q1, um_eq]
    · rw [if_neg q1, um_k q1]
  refine ⟨by rw [hM, um_k (by decide), um_eq], by rw [hM, um_eq], fun j hj => ?_, fun b i hb => by rw [hM, um_a hb, um_a hb, um_a hb]⟩
  rw [hw (j / 4) (by omega)]
  by_cases q1 : j / 4 = k / 4
  · rw [if_pos q1]
    by_cases q2 : j = k
    · subst q2
      rw [show min 4 (j + 1 - 4 * (j / 4)) - 1 - j % 4 = 0 by omega, xby_pk0 _ hc, show 20 * q + j = B.length by omega, getD_last]
    · have h9 := h7 j (by omega)
      rw [← hk] at h9
      rw [show min 4 (k + 1 - 4 * (j / 4)) - 1 - j % 4 = (min 4 (k - 4 * (j / 4)) - 1 - j % 4) + 1 by omega, xby_pk hc (by omega), ← q1, h9, getD_app (by omega)]
  · rw [if_neg q1]
    have h9 := h7 j (by omega)
    rw [← hk] at h9
    rw [show min 4 (k + 1 - 4 * (j / 4)) - 1 - j % 4 = min 4 (k - 4 * (j / 4)) - 1 - j % 4 by omega, h9, getD_app (by omega)]
/-- a full pack is flushed -/
theorem qc175 {mm q : Nat} {B : List Nat} (hmm : 283 ≤ mm) (hS : (S0 ++ T)[mm]? = some (20, 7, [])) (hT : 283 + T.length ≤ 1000000) (hB : B.length = 20 * q + 20) (hl : 20 * q + 20 ≤ 700) (h6 : m mm 6 = n32 B.length) (hf : m 2 1 = n32 (20 * q)) (hb : ∀ i, i < 20 * q → m 3 i = n32 (B.getD i 0)) (hp : ∀ j, j < 20 → xby (m mm (j / 4)) (3 - j % 4) = B.getD (20 * q + j) 0) (h8 : ∀ x ∈ B, x < 256) :
    qM K (d + 3) 175 [.ref 0, .ref mm] (S0 ++ T, e, w, m) (fun r σ' => r = none ∧ ∃ m', σ' = (S0 ++ T, e, w, m') ∧ qPK m' mm B (q + 1) ∧ ∀ b k, b ≠ mm → ¬ (b = 2 ∧ k = 1) → b ≠ 3 → m' b k = m b k) := by
  refine qL_at km175 k175_0 ?_
  iterate 3 refine qB_one rfl rfl ?_
  refine q_ialV (i := 0) hS (by omega) (by omega) rfl ?_
  iterate 2 refine qB_one rfl rfl ?_
  refine q_ialV (i := 1) hS (by omega) (by omega) rfl ?_
  iterate 2 refine qB_one rfl rfl ?_
  refine q_ialV (i := 2) hS (by omega) (by omega) rfl ?_
  iterate 2 refine qB_one rfl rfl ?_
  refine q_ialV (i := 3) hS (by omega) (by omega) rfl ?_
  iterate 2 refine qB_one rfl rfl ?_
  refine q_ialV (i := 4) hS (by omega) (by omega) rfl ?_
  have h0 : (S0 ++ T)[0]? = some (10, xnf.getD 10 0, (S0.getD 0 (0, 0, [])).2.2) := ap_in (by decide +kernel)
  refine qB_iv km91 (Nat.le_of_ble_eq_true rfl) (qrecv h0 (by decide)) (Nat.le_of_ble_eq_true rfl) (Nat.le_of_ble_eq_true rfl) (qc91 hl hf hT) ?_
  rintro v1 σ1 ⟨⟨x, rfl⟩, m1, rfl, g1, g2, g3, g4⟩
  refine ⟨Or.inl rfl, ?_⟩
  iterate 4 refine qB_one rfl rfl ?_
  refine q_iastV (i := 5) hS (by omega) (by omega) ?_
  refine qB_ret ⟨rfl, _, rfl, ⟨by omega, by omega, ?_, ?_, ?_, fun i hi => ?_, fun j hj => by omega, h8⟩, fun b k c1 c2 c3 => ?_⟩
  · rw [um_eq, show B.length - 20 * (q + 1) = 0 by omega]; rfl
  · rw [um_k (by decide), g4 mm 6 (by omega) (by omega)]; exact h6
  · rw [um_a (by omega), g1, show 20 * (q + 1) = 20 * q + 20 by omega]
  · rw [um_a (by omega)]
    by_cases q1 : i < 20 * q
    · rw [g2 i q1]; exact hb i q1
    · obtain ⟨j, rfl⟩ := Nat.exists_eq_add_of_le (Nat.le_of_not_lt q1)
      rw [g3 j (by omega), wb_xby _ (Nat.mod_lt _ (by decide)), ← hp j (by omega)]
      congr 2
      have hj5 : j / 4 < 5 := by omega
      generalize j / 4 = t at hj5
      match t, hj5 with
      | 0, _ => rfl
      | 1, _ => rfl
      | 2, _ => rfl
      | 3, _ => rfl
      | 4, _ => rfl
      | t + 5, h => exact absurd h (by omega)
  · rw [um_a c1]; exact g4 b k c2 c3
theorem qc174 {mm q c : Nat} {B : List Nat} (hmm : 283 ≤ mm) (hS : (S0 ++ T)[mm]? = some (20, 7, [])) (hT : 283 + T.length ≤ 1000000) (h : qPK m mm B q) (hl : B.length + 1 ≤ 700) (hc : c < 256) :
    qM K (d + 4) 174 [.ref 0, .ref mm, .int (n32 c)] (S0 ++ T, e, w, m) (fun r σ' => r = none ∧ ∃ m' q', σ' = (S0 ++ T, e, w, m') ∧ qPK m' mm (B ++ [c]) q' ∧ ∀ b k, b ≠ mm → ¬ (b = 2 ∧ k = 1) → b ≠ 3 → m' b k = m b k) := by
  have h0 := h
  obtain ⟨h1, h2, h3, h4, h5, h6, h7, h8⟩ := h
  generalize hk : B.length - 20 * q = k at h3 h7
  refine qL_at km174 k174_0 ?_
  iterate 2 refine qB_one rfl rfl ?_
  refine q_ialV (i := 5) hS (by omega) (by omega) h3 ?_
  iterate 4 refine qB_one rfl rfl ?_
  refine q_div4 (k := k) (by omega) ?_
  iterate 3 refine qB_one rfl rfl ?_
  refine q_div4 (k := k) (by omega) ?_
  refine q_ialV (i := k / 4) hS (by omega) (by omega) rfl ?_
  iterate 4 refine qB_one rfl rfl ?_
  refine q_iastV (i := k / 4) hS (by omega) (by omega) ?_
  iterate 3 refine qB_one rfl rfl ?_
  refine q_ialV (i := 5) hS (by omega) (by omega) (v := n32 k) (by rw [um_k (by omega)]; exact h3) ?_
  iterate 1 refine qB_one rfl rfl ?_
  refine q_add (a := k) (b := 1) ?_
  refine q_iastV (i := 5) hS (by omega) (by omega) ?_
  iterate 3 refine qB_one rfl rfl ?_
  refine q_ialV (i := 6) hS (by omega) (by omega) (v := n32 B.length) (by rw [um_k (by decide), um_k (by omega)]; exact h4) ?_
  iterate 1 refine qB_one rfl rfl ?_
  refine q_add (a := B.length) (b := 1) ?_
  refine q_iastV (i := 6) hS (by omega) (by omega) ?_
  have st := qPK_step hmm h0 hc hk.symm (n := B.length) rfl (M := _) rfl
  show qB K (d + 4) 174 0 _ _ _ (S0 ++ T, e, w, um (um (um m mm (k / 4) (qpk (m mm (k / 4)) c)) mm 5 (n32 (k + 1))) mm 6 (n32 (B.length + 1))) _
  generalize hM : um (um (um m mm (k / 4) (qpk (m mm (k / 4)) c)) mm 5 (n32 (k + 1))) mm 6 (n32 (B.length + 1)) = M at st ⊢
  obtain ⟨s1, s2, s3, s4⟩ := st
  have hlen : (B ++ [c]).length = B.length + 1 := by rw [List.length_append]; rfl
  have hbytes : ∀ i, i < 20 * q → M 3 i = n32 ((B ++ [c]).getD i 0) := fun i hi => by
    rw [s4 3 i (by omega), getD_app (by omega)]; exact h6 i hi
  have hall : ∀ x ∈ B ++ [c], x < 256 := fun x hx => by
    rcases List.mem_append.mp hx with hx | hx
    · exact h8 x hx
    · rw [List.mem_singleton] at hx; omega
  iterate 2 refine qB_one rfl rfl ?_
  refine q_ialV (i := 5) hS (by omega) (by omega) s1 ?_
  iterate 1 refine qB_one rfl rfl ?_
  by_cases h20 : k + 1 = 20
  · refine qB_icF (fun z => z ?_) ?_
    · rw [h20]; rfl
    refine qB_gow (qL_at km174 k174_1 ?_)
    iterate 2 refine qB_one rfl rfl ?_
    refine qB_is km175 (Nat.le_of_ble_eq_true rfl) rfl (Nat.le_of_ble_eq_true rfl) (Nat.le_of_ble_eq_true rfl) (qc175 (B := B ++ [c]) hmm hS hT (by omega) (by omega) (by rw [hlen]; exact s2) (by rw [s4 2 1 (by omega)]; exact h5) hbytes (fun j hj => by have := s3 j (by omega); rw [show min 4 (k + 1 - 4 * (j / 4)) - 1 - j % 4 = 3 - j % 4 by omega] at this; exact this) hall) ?_
    rintro v1 σ1 ⟨rfl, m', rfl, g1, g2⟩
    refine ⟨Or.inl rfl, ?_⟩
    refine qB_gow (qL_at km174 k174_2 ?_)
    exact qB_ret ⟨rfl, m', q + 1, rfl, g1, fun b i c1 c2 c3 => by rw [g2 b i c1 c2 c3]; exact s4 b i c1⟩
  · refine qB_icT (fun z => h20 (n32_inj (a := k + 1) (b := 20) (by omega) (by omega) z)) ?_
    refine qL_at km174 k174_2 ?_
    refine qB_ret ⟨rfl, M, q, rfl, ⟨by omega, by omega, ?_, ?_, ?_, hbytes, fun j hj => ?_, hall⟩, fun b i c1 _ _ => s4 b i c1⟩
    · rw [s1, hlen, show B.length + 1 - 20 * q = k + 1 by omega]
    · rw [s2, hlen]
    · rw [s4 2 1 (by omega)]; exact h5
    · rw [hlen, show B.length + 1 - 20 * q = k + 1 by omega]
      exact s3 j (by omega)
end ZC2
