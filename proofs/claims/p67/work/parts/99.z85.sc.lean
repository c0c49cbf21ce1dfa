/-! The JDK's builder: it grows, bytes are appended. -/
theorem xsrc_at {S : List XC} {m : XM} {a n ci : Nat} {rs : List (Option Nat)} (h : S[a]? = some (ci, n, rs)) (hc : ci = 20 ∨ ci = 21) : xsrc S m a = some (ci, n, m a) := by
  unfold xsrc
  rw [h]
  dsimp only
  rw [if_pos hc]
theorem ap_end {S : List XC} {x : XC} : (S ++ [x])[S.length]? = some x := by
  rw [List.getElem?_append_right (Nat.le_refl _), Nat.sub_self]; rfl
section QC
variable {K : XK} {d y rt : Nat} {is : List Instr} {ls : XL} {r : List Value} {S : List XC} {e : Nat} {w : Nat → Value} {m : XM} {Q : Option Value → XS → Prop}
theorem q_copyN {a b ca na nb n i j : Nat} {f : Nat → Int32} {rb : List (Option Nat)} (hs : xsrc S m a = some (ca, na, f)) (hB : S[b]? = some (ca, nb, rb)) (hc : ca = 20 ∨ (ca = 21 ∧ xft f i n = true)) (hab : a ≠ b) (h1 : i + n ≤ na) (h2 : j + n ≤ nb) (hna : na ≤ 100000) (hnb : nb ≤ 100000) (h8 : xcat r ≤ 8)
    (h : qB K d y rt is ls r (S, e, w, ucp m b j n f i) Q) : qB K d y rt (.lrem :: is) ls (.int (n32 n) :: .int (n32 j) :: .ref b :: .int (n32 i) :: .ref a :: r) (S, e, w, m) Q := by
  have en : (n32 n).toNatClampNeg = n := ix_n32 (by omega)
  have ei : (n32 i).toNatClampNeg = i := ix_n32 (by omega)
  have ej : (n32 j).toNatClampNeg = j := ix_n32 (by omega)
  have z : ∀ k : Nat, k ≤ 100000 → (0 : Int32) ≤ n32 k := fun k hk => (n32_le (a := 0) (b := k) (by omega) (by omega)).mpr (Nat.zero_le _)
  refine q_copy hs hB ⟨rfl, ?_, hab, z _ (by omega), z _ (by omega), z _ (by omega), by rw [ei, en]; exact h1, by rw [ej, en]; exact h2, h8⟩ ?_
  · rw [ei, en]; exact hc
  · rw [en, ei, ej]; exact h
theorem q_dec {k p : Nat} {σ : XS} (hk : xk ls k = some (.int (n32 p))) (hp : 1 ≤ p) (h : qB K d y rt is (xst ls k (.int (n32 (p - 1)))) r σ Q) : qB K d y rt (.iinc k (-1) :: is) ls r σ Q := by
  refine qB_one rfl ?_ h
  unfold xone
  dsimp only
  rw [hk]
  dsimp only
  rw [show n32 p + Int32.ofInt (-1) = n32 (p - 1) from n32_dec hp]
end QC
section QSC
variable {K : XK} {d : Nat} {S : List XC} {e : Nat} {w : Nat → Value} {m : XM}
/-- a longer copy -/
theorem qc208 {v cap k : Nat} (hv : S[v]? = some (21, cap, [])) (hk : cap < k) (hk1 : k ≤ 1000) (hx : xft (m v) 0 cap = true) (hG : qG S) (hN : S.length < 1000000) : qM K (d + 1) 208 [.ref v, .int (n32 k)] (S, e, w, m) (fun r σ' => r = some (.ref S.length) ∧ ∃ m', σ' = (S ++ [(21, k, [])], e, w, m') ∧ (∀ b, b < S.length → m' b = m b) ∧ (∀ i, i < cap → m' S.length i = m v i) ∧ xft (m' S.length) 0 k = true) := by
  have hvl := ap_lt hv
  refine qL_at km208 k208_0 ?_
  iterate 2 refine qB_one rfl rfl ?_
  refine q_alen hv (Or.inr (Or.inl rfl)) ?_
  refine qB_icT ?_ ?_
  · intro q
    have := n32_inj (a := k) (b := cap) (by omega) (by omega) q
    omega
  refine qL_at km208 k208_2 ?_
  iterate 1 refine qB_one rfl rfl ?_
  refine q_narrV (t := .byte) (Or.inr (Or.inl rfl)) (by omega) (qfresh hG hN rfl (by show (xok S.length (Value.ref v) && (true && true)) = true; rw [xokR hvl]; rfl)) ?_
  iterate 6 refine qB_one rfl rfl ?_
  refine q_alen (ap_in hv) (Or.inr (Or.inl rfl)) ?_
  iterate 1 refine qB_one rfl rfl ?_
  refine qB_is km386 (Nat.le_of_ble_eq_true rfl) rfl (Nat.le_of_ble_eq_true rfl) (Nat.le_of_ble_eq_true rfl) (qc386 (a := cap) (b := k) (by omega) (by omega)) ?_
  rintro v1 σ1 ⟨rfl, rfl⟩
  refine ⟨Or.inl rfl, ?_⟩
  rw [show min cap k = cap by omega]
  refine q_copyN (i := 0) (j := 0) (xsrc_at (ap_in hv) (Or.inr rfl)) ap_end (Or.inr ⟨rfl, ?_⟩) (by omega) (by omega) (by omega) (by omega) (by omega) (Nat.le_of_ble_eq_true rfl) ?_
  · rw [uz_ne (by omega)]; exact hx
  iterate 1 refine qB_one rfl rfl ?_
  refine qB_aret ⟨rfl, _, rfl, fun b hb => ?_, fun i hi => ?_, ?_⟩
  · rw [ucp_ne (by omega), uz_ne (by omega)]
  · rw [ucp_at, if_pos (by omega), uz_ne (by omega)]; rfl
  · refine xft_of fun i hi => ?_
    rw [ucp_at]
    by_cases q : 0 ≤ 0 + i ∧ 0 + i < 0 + cap
    · rw [if_pos q, uz_ne (by omega), show 0 + i - 0 + 0 = 0 + i by omega]
      exact xft_to hx (by omega)
    · rw [if_neg q, uz_at]; exact ⟨by decide, by decide⟩
theorem n32_sub_le {n k : Nat} (h : n ≤ k) (hk : k ≤ 100000) : n32 n - n32 k ≤ 0 := by
  rw [Int32.le_iff_toInt_le, Int32.toInt_sub, n32_toInt (by omega), n32_toInt (by omega)]
  have : ((n : Int) - k).bmod (2 ^ 32) = (n : Int) - k := by
    rw [Int.bmod_def]
    omega
  rw [this]
  have e : (0 : Int32).toInt = 0 := rfl
  omega
theorem qc198 {a v cap n : Nat} {l : List Int32} (h : qSB S m a v cap l) (hG : qG S) (hN : S.length < 1000000) (hn : n ≤ 400) : qM K (d + 3) 198 [.ref a, .int (n32 n)] (S, e, w, m) (fun r σ' => r = none ∧ ∃ S' m' v' cap', σ' = (S', e, w, m') ∧ qSB S' m' a v' cap' l ∧ n ≤ cap' ∧ qS S m S' m' (fun b => b = a) 1 ∧ (v' = v ∨ S.length ≤ v')) := by
  have h0 := h
  obtain ⟨hS, hv, hc, hl, hcap, hcap1, hby, hA, hx⟩ := h
  have hal := ap_lt hS
  have hvl := ap_lt hv
  refine qL_at km198 k198_0 ?_
  iterate 1 refine qB_one rfl rfl ?_
  refine q_getR hS rfl rfl (q_alen hv (Or.inr (Or.inl rfl)) ?_)
  iterate 1 refine qB_one rfl rfl ?_
  refine q_getV hS hc rfl (q_shr0 ?_)
  iterate 3 refine qB_one rfl rfl ?_
  by_cases hle : n ≤ cap
  · iterate 1 refine qB_one rfl rfl ?_
    refine qB_ifT (n32_sub_le hle (by omega)) ?_
    refine qL_at km198 k198_2 ?_
    exact qB_ret ⟨rfl, S, m, v, cap, rfl, h0, hle, qS.rf, Or.inl rfl⟩
  · refine q_sub (a := n) (b := cap) (by omega) ?_
    refine qB_ifF (fun q => ?_) ?_
    · have := (n32_le (a := n - cap) (b := 0) (by omega) (by omega)).mp q
      omega
    refine qB_gow (qL_at km198 k198_1 ?_)
    iterate 2 refine qB_one rfl rfl ?_
    refine q_getR hS rfl rfl ?_
    iterate 2 refine qB_one rfl rfl ?_
    refine qB_iv km199 (Nat.le_of_ble_eq_true rfl) (qrecv hS (by decide)) (Nat.le_of_ble_eq_true rfl) (Nat.le_of_ble_eq_true rfl) (qc199 h0 (by omega) hn) ?_
    rintro v1 σ1 ⟨rfl, rfl⟩
    refine ⟨Or.inl rfl, ?_⟩
    iterate 1 refine qB_one rfl rfl ?_
    refine q_getV hS hc rfl (q_shl0 ?_)
    refine qB_is km208 (Nat.le_of_ble_eq_true rfl) rfl (Nat.le_of_ble_eq_true rfl) (Nat.le_of_ble_eq_true rfl) (qc208 hv (k := cap + max (n - cap) (cap + 2)) (by omega) (by omega) hx hG hN) ?_
    rintro v1 σ1 ⟨rfl, m', rfl, k1, k2, k3⟩
    refine ⟨Or.inr ⟨by show (xok S.length (Value.ref a) && (true && true)) = true; rw [xokR hal]; rfl, by show (xok S.length (Value.ref a) && true) = true; rw [xokR hal]; rfl⟩, ?_⟩
    refine q_putR (ap_in hS) rfl (Or.inl (by rw [List.length_append]; exact Nat.lt_succ_self _)) rfl ?_
    refine qB_gow (qL_at km198 k198_2 ?_)
    have hne : a ≠ S.length := by omega
    refine qB_ret ⟨rfl, _, m', S.length, cap + max (n - cap) (cap + 2), rfl, ⟨?_, ?_, by rw [k1 a hal]; exact hc, by rw [k1 a hal]; exact hl, by omega, by omega, fun i hi => by rw [k2 i (by omega)]; exact hby i hi, hA, k3⟩, by omega, ?_, Or.inr (Nat.le_refl _)⟩
    · rw [List.getElem?_set_self (by rw [List.length_append]; omega)]; rfl
    · rw [List.getElem?_set_ne hne]; exact ap_end
    · refine qS.tr (S1 := S ++ [(21, cap + max (n - cap) (cap + 2), [])]) (m1 := m') (qS_push (by omega) (fun q hq => by cases hq) k1) (qS_set (ap_in hS) (Or.inl (by rw [List.length_append]; exact Nat.lt_succ_self _))) (fun _ _ q => q.elim) (fun b _ q => q) (Nat.le_refl _)
theorem i8_ok {c : Int32} (h : 0 ≤ c ∧ c ≤ 127) : c.toInt8.toInt32 = c := by
  obtain ⟨k, hk, rfl⟩ := n32_of (k := 127) h.1 h.2 (by decide)
  have H : ∀ k, k < 128 → (n32 k).toInt8.toInt32 = n32 k := by decide +kernel
  exact H k (by omega)
/-- what an append leaves -/
def qAP (S : List XC) (m : XM) (e : Nat) (w : Nat → Value) (a v : Nat) (l' : List Int32) (c : Nat) : Option Value → XS → Prop := fun r σ' => r = some (.ref a) ∧ ∃ S' m' v' cap', σ' = (S', e, w, m') ∧ qSB S' m' a v' cap' l' ∧ qS S m S' m' (fun b => b = a ∨ b = v) c ∧ (v' = v ∨ S.length ≤ v')
/-- bytes put behind the builder's, the count raised -/
theorem qSB_put {S : List XC} {m m' : XM} {a v cap : Nat} {l l2 : List Int32} (h : qSB S m a v cap l) (hc : l.length + l2.length ≤ cap) (hA : qA l2) (h1 : m' a 1 = 0) (h3 : m' a 3 = n32 (l.length + l2.length)) (hold : ∀ i, (i < l.length ∨ l.length + l2.length ≤ i) → m' v i = m v i) (hnew : ∀ i, i < l2.length → m' v (l.length + i) = l2.getD i 0) : qSB S m' a v cap (l ++ l2) := by
  obtain ⟨hS, hv, -, -, -, hcap1, hby, hA0, hx⟩ := h
  have key : ∀ i, i < (l ++ l2).length → m' v i = (l ++ l2).getD i 0 := by
    intro i hi
    rw [List.length_append] at hi
    by_cases q : i < l.length
    · rw [hold i (Or.inl q), hby i q, List.getD_eq_getElem?_getD, List.getD_eq_getElem?_getD, List.getElem?_append_left q]
    · obtain ⟨j, rfl⟩ := Nat.exists_eq_add_of_le (Nat.le_of_not_lt q)
      rw [hnew j (by omega), List.getD_eq_getElem?_getD, List.getD_eq_getElem?_getD, List.getElem?_append_right (by omega), Nat.add_sub_cancel_left]
  have hA1 : qA (l ++ l2) := fun x hx => by
    rcases List.mem_append.mp hx with q | q
    · exact hA0 x q
    · exact hA x q
  refine ⟨hS, hv, h1, by rw [List.length_append]; exact h3, by rw [List.length_append]; exact hc, hcap1, key, hA1, xft_of fun i hi => ?_⟩
  rw [Nat.zero_add]
  by_cases q : i < (l ++ l2).length
  · rw [key i q]
    have := hA1 ((l ++ l2).getD i 0) (by rw [List.getD_eq_getElem?_getD, List.getElem?_eq_getElem q]; exact List.getElem_mem q)
    exact ⟨Int32.le_trans (by decide) this.1, this.2⟩
  · rw [List.length_append] at q
    rw [hold i (Or.inr (by omega))]
    have := xft_to hx (k := i) hi
    rw [Nat.zero_add] at this
    exact this
theorem qc195 {a v cap : Nat} {l : List Int32} {c : Int32} (h : qSB S m a v cap l) (hG : qG S) (hN : S.length < 1000000) (hn : l.length + 1 ≤ 400) (hc : 0 ≤ c ∧ c ≤ 127) : qM K (d + 4) 195 [.ref a, .int c] (S, e, w, m) (qAP S m e w a v (l ++ [c]) 1) := by
  have hal := ap_lt h.1
  refine qL_at km195 k195_0 ?_
  iterate 2 refine qB_one rfl rfl ?_
  refine q_getV h.1 h.2.2.2.1 rfl ?_
  iterate 1 refine qB_one rfl rfl ?_
  refine q_add (a := l.length) (b := 1) ?_
  refine qB_iv km198 (Nat.le_of_ble_eq_true rfl) (qrecv h.1 (by decide)) (Nat.le_of_ble_eq_true rfl) (Nat.le_of_ble_eq_true rfl) (qc198 h hG hN hn) ?_
  rintro v1 σ1 ⟨rfl, S', m', v', cap', rfl, h2, hcap, hq, hv'⟩
  refine ⟨Or.inr ⟨by show (xok S.length (Value.ref a) && (true && true)) = true; rw [xokR hal]; rfl, rfl⟩, ?_⟩
  iterate 1 refine qB_one rfl rfl ?_
  refine qB_iv km202 (Nat.le_of_ble_eq_true rfl) (qrecv h2.1 (by decide)) (Nat.le_of_ble_eq_true rfl) (Nat.le_of_ble_eq_true rfl) (qc202 h2) ?_
  rintro v1 σ1 ⟨rfl, rfl⟩
  refine ⟨Or.inl rfl, ?_⟩
  refine qB_ifF (by unfold xct; decide) ?_
  refine qB_gow (qL_at km195 k195_1 ?_)
  iterate 1 refine qB_one rfl rfl ?_
  refine qB_is km215 (Nat.le_of_ble_eq_true rfl) rfl (Nat.le_of_ble_eq_true rfl) (Nat.le_of_ble_eq_true rfl) (qc215 hc.2) ?_
  rintro v1 σ1 ⟨rfl, rfl⟩
  refine ⟨Or.inl rfl, ?_⟩
  refine qB_ifF (by unfold xct; decide) ?_
  refine qB_gow (qL_at km195 k195_2 ?_)
  iterate 1 refine qB_one rfl rfl ?_
  refine q_getR h2.1 rfl rfl ?_
  iterate 2 refine qB_one rfl rfl ?_
  refine q_getV h2.1 h2.2.2.2.1 rfl ?_
  iterate 2 refine qB_one rfl rfl ?_
  refine q_add (a := l.length) (b := 1) ?_
  refine q_putI h2.1 rfl (Or.inl rfl) ?_
  iterate 2 refine qB_one rfl rfl ?_
  have hne : v' ≠ a := fun q => by
    have z1 := h2.1
    have z2 := h2.2.1
    rw [q, z1] at z2; cases z2
  refine q_bastV (i := l.length) (u := c) h2.2.1 (by omega) (by have := h2.2.2.2.2.2.1; omega) (by rw [i8_ok hc, i8_ok hc]) ?_
  refine qB_go (qL_at km195 k195_6 ?_)
  iterate 1 refine qB_one rfl rfl ?_
  refine qB_aret ⟨rfl, S', _, v', cap', rfl, qSB_put (l2 := [c]) h2 (by simpa using hcap) (fun x hx => by rw [List.mem_singleton] at hx; subst hx; exact hc) ?_ ?_ ?_ ?_, ?_, hv'⟩
  · rw [um_a (Ne.symm hne), um_k (by decide)]; exact h2.2.2.1
  · rw [um_a (Ne.symm hne)]; exact um_eq _ _ _ _
  · intro i hi
    rw [um_k (by simp only [List.length_singleton] at hi; omega), um_a hne]
  · intro i hi
    have : i = 0 := by simp only [List.length_singleton] at hi; omega
    subst this
    exact um_eq _ _ _ _
  · refine hq.tr (qS_um.tr (E2 := fun b => b = v') (E := fun b => b = a ∨ b = v') (c2 := 0) (c := 0) qS_um (fun _ _ q => Or.inl q) (fun _ _ q => Or.inr q) (Nat.le_refl _)) (fun _ _ q => Or.inl q) (fun b hb q => ?_) (Nat.le_refl _)
    rcases q with q | q
    · exact Or.inl q
    · rcases hv' with z | z
      · exact Or.inr (q.trans z)
      · omega
theorem qc191 {a v cap : Nat} {l : List Int32} {c : Int32} (h : qSB S m a v cap l) (hG : qG S) (hN : S.length < 1000000) (hn : l.length + 1 ≤ 400) (hc : 0 ≤ c ∧ c ≤ 127) : qM K (d + 5) 191 [.ref a, .int c] (S, e, w, m) (qAP S m e w a v (l ++ [c]) 1) := by
  have hal := ap_lt h.1
  refine qL_at km191 k191_0 ?_
  iterate 2 refine qB_one rfl rfl ?_
  refine qB_ip km195 (Nat.le_of_ble_eq_true rfl) (qrecv h.1 (by decide)) (Nat.le_of_ble_eq_true rfl) (Nat.le_of_ble_eq_true rfl) (qc195 h hG hN hn hc) ?_
  rintro v1 σ1 ⟨rfl, S', m', v', cap', rfl, h2, hq, hv'⟩
  refine ⟨Or.inr ⟨by show (xok S.length (Value.ref a) && (true && true)) = true; rw [xokR hal]; rfl, rfl⟩, ?_⟩
  iterate 2 refine qB_one rfl rfl ?_
  exact qB_aret ⟨rfl, S', m', v', cap', rfl, h2, hq, hv'⟩
end QSC
