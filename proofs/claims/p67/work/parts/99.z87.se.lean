/-! Texts are appended; builders and texts are made. -/
/-- the text t, its bytes in the cell vt -/
def qTv (S : List XC) (m : XM) (t vt : Nat) (l : List Int32) : Prop := qTm S m t vt l ∨ (qTc t l ∧ vt = t + 30)
theorem qTv.to {S : List XC} {m : XM} {t vt : Nat} {l : List Int32} (h : qTv S m t vt l) : qT S m t l := by
  rcases h with h | h
  · exact Or.inl ⟨vt, h⟩
  · exact Or.inr h.1
theorem qTm.mv {S S' : List XC} {m m' : XM} {t vt c : Nat} {l : List Int32} {E : Nat → Prop} (h : qTm S m t vt l) (hq : qS S m S' m' E c) (h1 : ¬ E t) (h2 : ¬ E vt) : qTm S' m' t vt l := by
  obtain ⟨a1, a2, a3, a4, a5, a6⟩ := h
  obtain ⟨b1, b2⟩ := hq.2.2.2.2 t (ap_lt a1) h1
  obtain ⟨c1, c2⟩ := hq.2.2.2.2 vt (ap_lt a2) h2
  exact ⟨b1.trans a1, c1.trans a2, by rw [b2]; exact a3, fun i hi => by rw [c2]; exact a4 i hi, a5, a6⟩
theorem qTv.mv {S S' : List XC} {m m' : XM} {t vt c : Nat} {l : List Int32} {E : Nat → Prop} (h : qTv S m t vt l) (hq : qS S m S' m' E c) (h1 : ¬ E t) (h2 : ¬ E vt) : qTv S' m' t vt l := by
  rcases h with h | h
  · exact Or.inl (h.mv hq h1 h2)
  · exact Or.inr h
theorem qSB.mv {S S' : List XC} {m m' : XM} {a v cap c : Nat} {l : List Int32} {E : Nat → Prop} (h : qSB S m a v cap l) (hq : qS S m S' m' E c) (h1 : ¬ E a) (h2 : ¬ E v) : qSB S' m' a v cap l := by
  obtain ⟨a1, a2, a3, a4, a5, a6, a7, a8, a9⟩ := h
  obtain ⟨b1, b2⟩ := hq.2.2.2.2 a (ap_lt a1) h1
  obtain ⟨c1, c2⟩ := hq.2.2.2.2 v (ap_lt a2) h2
  exact ⟨b1.trans a1, c1.trans a2, by rw [b2]; exact a3, by rw [b2]; exact a4, a5, a6, fun i hi => by rw [c2]; exact a7 i hi, a8, by rw [c2]; exact a9⟩
theorem qSB.ne {S : List XC} {m : XM} {a v cap : Nat} {l : List Int32} (h : qSB S m a v cap l) : v ≠ a := fun q => by
  have z1 := h.1
  have z2 := h.2.1
  rw [q, z1] at z2; cases z2
section QEE
variable {K : XK} {d : Nat} {S : List XC} {e : Nat} {w : Nat → Value} {m : XM}
theorem qc205 {t vt b p cap : Nat} {l : List Int32} (h : qTv S m t vt l) (hN : S.length ≤ 1000000) (hb : S[b]? = some (21, cap, [])) (hvb : vt ≠ b) (hp : p + l.length ≤ cap) (hc : cap ≤ 1000) : qM K (d + 1) 205 [.ref t, .ref b, .int (n32 p), .int 0] (S, e, w, m) (fun r σ' => r = none ∧ ∃ m', σ' = (S, e, w, m') ∧ (∀ a, a ≠ b → m' a = m a) ∧ (∀ i, (i < p ∨ p + l.length ≤ i) → m' b i = m b i) ∧ (∀ i, i < l.length → m' b (p + i) = l.getD i 0)) := by
  have hA := (qT_ok h.to).1
  have hbd : ∀ i, i < l.length → -128 ≤ l.getD i 0 ∧ l.getD i 0 ≤ 127 := fun i hi => by
    have := hA (l.getD i 0) (by rw [List.getD_eq_getElem?_getD, List.getElem?_eq_getElem hi]; exact List.getElem_mem hi)
    exact ⟨Int32.le_trans (by decide) this.1, this.2⟩
  refine qL_at km205 k205_0 ?_
  iterate 1 refine qB_one rfl rfl ?_
  refine qB_iv km393 (Nat.le_of_ble_eq_true rfl) (qrecvT h.to hN) (Nat.le_of_ble_eq_true rfl) (Nat.le_of_ble_eq_true rfl) (qc393 h.to hN) ?_
  rintro v1 σ1 ⟨rfl, rfl⟩
  refine ⟨Or.inl rfl, ?_⟩
  iterate 1 refine qB_one rfl rfl ?_
  refine qB_icF (by unfold xct; decide) ?_
  refine qB_gow (qL_at km205 k205_1 ?_)
  iterate 1 refine qB_one rfl rfl ?_
  have fin : ∀ f : Nat → Int32, xsrc S m vt = some (21, l.length, f) → (∀ i, i < l.length → f i = l.getD i 0) → qB K (d + 1) 205 0 [.lrem, .goto 3] (xnorm [0, 1, 2, 3] (xnorm [0, 1, 2, 3] (lv_args 0 [.ref t, .ref b, .int (n32 p), .int 0]))) [.int (n32 l.length), .int (n32 p), .ref b, .int (n32 0), .ref vt] (S, e, w, m) (fun r σ' => r = none ∧ ∃ m', σ' = (S, e, w, m') ∧ (∀ a, a ≠ b → m' a = m a) ∧ (∀ i, (i < p ∨ p + l.length ≤ i) → m' b i = m b i) ∧ (∀ i, i < l.length → m' b (p + i) = l.getD i 0)) := by
    intro f hs hf
    refine q_copyN (i := 0) (j := p) hs hb (Or.inr ⟨rfl, xft_of fun i hi => by rw [Nat.zero_add, hf i hi]; exact hbd i hi⟩) hvb (by omega) hp (by omega) (by omega) (Nat.le_of_ble_eq_true rfl) ?_
    refine qB_go (qL_at km205 k205_3 ?_)
    refine qB_ret ⟨rfl, _, rfl, fun a ha => ucp_ne ha, fun i hi => ?_, fun i hi => ?_⟩
    · rw [ucp_at, if_neg (by omega)]
    · rw [ucp_at, if_pos (by omega), show p + i - p + 0 = i by omega]; exact hf i hi
  rcases h with h | ⟨h, rfl⟩
  · refine q_getSR h.1 rfl ?_
    iterate 4 refine qB_one rfl rfl ?_
    refine q_shl0 ?_
    iterate 1 refine qB_one rfl rfl ?_
    refine q_getSR h.1 rfl (q_alen h.2.1 (Or.inr (Or.inl rfl)) ?_)
    exact fin (m vt) (xsrc_at h.2.1 (Or.inr rfl)) h.2.2.2.1
  · have hf := qfar hN (a := t) (by have := h.1; omega)
    refine q_getCR hf ⟨h.1, h.2.1⟩ ?_
    iterate 4 refine qB_one rfl rfl ?_
    refine q_shl0 ?_
    iterate 1 refine qB_one rfl rfl ?_
    refine q_getCR hf ⟨h.1, h.2.1⟩ ?_
    refine q_alenB (qfar hN (by have := h.1; omega)) (xci_no (by have := h.1; omega)) (qTc_b h) ?_
    refine fin (fun j => l.getD j 0) ?_ (fun _ _ => rfl)
    unfold xsrc
    rw [qfar hN (by have := h.1; omega), qTc_b h]
theorem qc201 {a v cap t : Nat} {l l2 : List Int32} (h : qSB S m a v cap l) (ht : qT S m t l2) (hN : S.length ≤ 1000000) : qM K (d + 1) 201 [.ref a, .ref t] (S, e, w, m) (qE none (S, e, w, m)) := by
  refine qL_at km201 k201_0 ?_
  iterate 1 refine qB_one rfl rfl ?_
  refine qB_ifF (by unfold xct; decide) ?_
  refine qB_gow (qL_at km201 k201_1 ?_)
  iterate 1 refine qB_one rfl rfl ?_
  refine q_getV h.1 h.2.2.1 rfl ?_
  iterate 1 refine qB_one rfl rfl ?_
  refine qB_iv km393 (Nat.le_of_ble_eq_true rfl) (qrecvT ht hN) (Nat.le_of_ble_eq_true rfl) (Nat.le_of_ble_eq_true rfl) (qc393 ht hN) ?_
  rintro v1 σ1 ⟨rfl, rfl⟩
  refine ⟨Or.inl rfl, ?_⟩
  refine qB_icT (by unfold xct; decide) ?_
  refine qL_at km201 k201_3 ?_
  exact qB_ret ⟨rfl, rfl⟩
theorem qc200 {a v cap t vt : Nat} {l l2 : List Int32} (h : qSB S m a v cap l) (ht : qTv S m t vt l2) (hN : S.length ≤ 1000000) (hvb : vt ≠ v) (hp : l.length + l2.length ≤ cap) : qM K (d + 2) 200 [.ref a, .int (n32 l.length), .ref t] (S, e, w, m) (fun r σ' => r = none ∧ ∃ m', σ' = (S, e, w, m') ∧ (∀ b, b ≠ v → m' b = m b) ∧ (∀ i, (i < l.length ∨ l.length + l2.length ≤ i) → m' v i = m v i) ∧ (∀ i, i < l2.length → m' v (l.length + i) = l2.getD i 0)) := by
  refine qL_at km200 k200_0 ?_
  iterate 2 refine qB_one rfl rfl ?_
  refine qB_iv km201 (Nat.le_of_ble_eq_true rfl) (qrecv h.1 (by decide)) (Nat.le_of_ble_eq_true rfl) (Nat.le_of_ble_eq_true rfl) (qc201 h ht.to hN) ?_
  rintro v1 σ1 ⟨rfl, rfl⟩
  refine ⟨Or.inl rfl, ?_⟩
  iterate 2 refine qB_one rfl rfl ?_
  refine q_getR h.1 rfl rfl ?_
  iterate 2 refine qB_one rfl rfl ?_
  refine q_getV h.1 h.2.2.1 rfl ?_
  refine qB_iv km205 (Nat.le_of_ble_eq_true rfl) (qrecvT ht.to hN) (Nat.le_of_ble_eq_true rfl) (Nat.le_of_ble_eq_true rfl) (qc205 ht hN h.2.1 hvb hp h.2.2.2.2.2.1) ?_
  rintro v1 σ1 ⟨rfl, m', rfl, g⟩
  refine ⟨Or.inl rfl, ?_⟩
  exact qB_ret ⟨rfl, m', rfl, g⟩
theorem qc197 {a v cap t vt : Nat} {l l2 : List Int32} (h : qSB S m a v cap l) (ht : qTv S m t vt l2) (hG : qG S) (hN : S.length + 1 < 1000000) (hvb : vt ≠ v) (hva : vt ≠ a) (hvl : vt < S.length ∨ 1000000 ≤ vt) (hn : l.length + l2.length ≤ 400) : qM K (d + 4) 197 [.ref a, .ref t] (S, e, w, m) (qAP S m e w a v (l ++ l2) 1) := by
  have hal := ap_lt h.1
  have htf : t < S.length ∨ 1000000 ≤ t := by
    rcases ht with q | q
    · exact Or.inl (ap_lt q.1)
    · exact Or.inr (by have := q.1.1; omega)
  have hta : t ≠ a := fun q => by
    rcases ht with z | z
    · have z1 := z.1
      rw [q, h.1] at z1; cases z1
    · have := z.1.1; omega
  have hN1 : S.length ≤ 1000000 := by omega
  have hxt : xok S.length (Value.ref t) = true := by
    rcases htf with q | q
    · exact xokR q
    · exact xokF q
  refine qL_at km197 k197_0 ?_
  iterate 1 refine qB_one rfl rfl ?_
  refine qB_nn ?_
  refine qL_at km197 k197_2 ?_
  iterate 1 refine qB_one rfl rfl ?_
  refine qB_iv km391 (Nat.le_of_ble_eq_true rfl) (qrecvT ht.to hN1) (Nat.le_of_ble_eq_true rfl) (Nat.le_of_ble_eq_true rfl) (qc391 ht.to hN1) ?_
  rintro v1 σ1 ⟨rfl, rfl⟩
  refine ⟨Or.inl rfl, ?_⟩
  iterate 3 refine qB_one rfl rfl ?_
  refine q_getV h.1 h.2.2.2.1 rfl ?_
  iterate 1 refine qB_one rfl rfl ?_
  refine q_add (a := l.length) (b := l2.length) ?_
  refine qB_iv km198 (Nat.le_of_ble_eq_true rfl) (qrecv h.1 (by decide)) (Nat.le_of_ble_eq_true rfl) (Nat.le_of_ble_eq_true rfl) (qc198 h hG (by omega) hn) ?_
  rintro v1 σ1 ⟨rfl, S', m', v', cap', rfl, h2, hcap, hq, hv'⟩
  refine ⟨Or.inr ⟨by show (true && (xok S.length (Value.ref a) && (xok S.length (Value.ref t) && true))) = true; rw [xokR hal, hxt]; rfl, rfl⟩, ?_⟩
  have ht2 := ht.mv hq hta hva
  have hN2 : S'.length ≤ 1000000 := by have := hq.2.1; omega
  have hvb2 : vt ≠ v' := by
    rcases hv' with z | z
    · rw [z]; exact hvb
    · have := ap_lt h2.2.1; omega
  iterate 2 refine qB_one rfl rfl ?_
  refine q_getV h2.1 h2.2.2.2.1 rfl ?_
  iterate 1 refine qB_one rfl rfl ?_
  refine qB_iv km200 (Nat.le_of_ble_eq_true rfl) (qrecv h2.1 (by decide)) (Nat.le_of_ble_eq_true rfl) (Nat.le_of_ble_eq_true rfl) (qc200 h2 ht2 hN2 hvb2 hcap) ?_
  rintro v1 σ1 ⟨rfl, m2, rfl, g1, g2, g3⟩
  refine ⟨Or.inl rfl, ?_⟩
  have hne := h2.ne
  iterate 2 refine qB_one rfl rfl ?_
  refine q_getV h2.1 (v := n32 l.length) (by rw [g1 a (Ne.symm hne)]; exact h2.2.2.2.1) rfl ?_
  iterate 1 refine qB_one rfl rfl ?_
  refine q_add (a := l.length) (b := l2.length) ?_
  refine q_putI h2.1 rfl (Or.inl rfl) ?_
  iterate 1 refine qB_one rfl rfl ?_
  refine qB_aret ⟨rfl, S', _, v', cap', rfl, qSB_put (l2 := l2) h2 hcap (qT_ok ht.to).1 ?_ ?_ ?_ ?_, ?_, hv'⟩
  · rw [um_k (by decide), g1 a (Ne.symm hne)]; exact h2.2.2.1
  · exact um_eq _ _ _ _
  · intro i hi
    rw [um_a hne]
    exact g2 i hi
  · intro i hi
    rw [um_a hne]
    exact g3 i hi
  · refine hq.tr ((qS_m (E := fun b => b = v') (m' := m2) (fun b hb => g1 b hb)).tr (E2 := fun b => b = a) (E := fun b => b = a ∨ b = v') (c2 := 0) (c := 0) qS_um (fun _ _ q => Or.inr q) (fun _ _ q => Or.inl q) (Nat.le_refl _)) (fun _ _ q => Or.inl q) (fun b hb q => ?_) (Nat.le_refl _)
    rcases q with q | q
    · exact Or.inl q
    · rcases hv' with z | z
      · exact Or.inr (q.trans z)
      · omega
theorem qc193 {a v cap t vt : Nat} {l l2 : List Int32} (h : qSB S m a v cap l) (ht : qTv S m t vt l2) (hG : qG S) (hN : S.length + 1 < 1000000) (hvb : vt ≠ v) (hva : vt ≠ a) (hvl : vt < S.length ∨ 1000000 ≤ vt) (hn : l.length + l2.length ≤ 400) : qM K (d + 5) 193 [.ref a, .ref t] (S, e, w, m) (qAP S m e w a v (l ++ l2) 1) := by
  have hal := ap_lt h.1
  have hxt : xok S.length (Value.ref t) = true := by
    rcases ht with q | q
    · exact xokR (ap_lt q.1)
    · exact xokF (by have := q.1.1; omega)
  refine qL_at km193 k193_0 ?_
  iterate 2 refine qB_one rfl rfl ?_
  refine qB_ip km197 (Nat.le_of_ble_eq_true rfl) (qrecv h.1 (by decide)) (Nat.le_of_ble_eq_true rfl) (Nat.le_of_ble_eq_true rfl) (qc197 h ht hG hN hvb hva hvl hn) ?_
  rintro v1 σ1 ⟨rfl, S', m', v', cap', rfl, h2, hq, hv'⟩
  refine ⟨Or.inr ⟨by show (xok S.length (Value.ref a) && (xok S.length (Value.ref t) && true)) = true; rw [xokR hal, hxt]; rfl, rfl⟩, ?_⟩
  iterate 2 refine qB_one rfl rfl ?_
  exact qB_aret ⟨rfl, S', m', v', cap', rfl, h2, hq, hv'⟩
theorem qc220 {a v cap t vt : Nat} {l l2 : List Int32} (h : qSB S m a v cap l) (ht : qTv S m t vt l2) (hG : qG S) (hN : S.length + 1 < 1000000) (hvb : vt ≠ v) (hva : vt ≠ a) (hvl : vt < S.length ∨ 1000000 ≤ vt) (hn : l.length + l2.length ≤ 400) : qM K (d + 6) 220 [.ref a, .ref t] (S, e, w, m) (qAP S m e w a v (l ++ l2) 1) := by
  have hal := ap_lt h.1
  have hxt : xok S.length (Value.ref t) = true := by
    rcases ht with q | q
    · exact xokR (ap_lt q.1)
    · exact xokF (by have := q.1.1; omega)
  refine qL_at km220 k220_0 ?_
  iterate 2 refine qB_one rfl rfl ?_
  refine qB_iv km193 (Nat.le_of_ble_eq_true rfl) (qrecv h.1 (by decide)) (Nat.le_of_ble_eq_true rfl) (Nat.le_of_ble_eq_true rfl) (qc193 h ht hG hN hvb hva hvl hn) ?_
  rintro v1 σ1 ⟨rfl, S', m', v', cap', rfl, h2, hq, hv'⟩
  refine ⟨Or.inr ⟨by show (xok S.length (Value.ref a) && (xok S.length (Value.ref t) && true)) = true; rw [xokR hal, hxt]; rfl, rfl⟩, ?_⟩
  exact qB_aret ⟨rfl, S', m', v', cap', rfl, h2, hq, hv'⟩
/-- a builder that is new -/
def qNB (S : List XC) (m : XM) (a : Nat) : Prop := S[a]? = some (12, 4, [none, none, none, none]) ∧ m a 1 = 0 ∧ m a 3 = 0
theorem qc189 {a n : Nat} (h : qNB S m a) (hG : qG S) (hN : S.length < 1000000) (hn : n ≤ 1000) : qM K d 189 [.ref a, .int (n32 n)] (S, e, w, m) (fun r σ' => r = none ∧ ∃ S' m', σ' = (S', e, w, m') ∧ qSB S' m' a S.length n [] ∧ qS S m S' m' (fun b => b = a) 1) := by
  have hal := ap_lt h.1
  refine qL_at km189 k189_0 ?_
  iterate 3 refine qB_one rfl rfl ?_
  refine qB_ifF (by unfold xct; decide) ?_
  refine qB_gow (qL_at km189 k189_1 ?_)
  iterate 2 refine qB_one rfl rfl ?_
  refine q_narrV (t := .byte) (Or.inr (Or.inl rfl)) (by omega) (qfresh hG hN (by show (xok S.length (Value.ref a) && true) = true; rw [xokR hal]; rfl) (by show (xok S.length (Value.ref a) && (true && true)) = true; rw [xokR hal]; rfl)) ?_
  refine q_putR (ap_in h.1) rfl (Or.inl (by rw [List.length_append]; exact Nat.lt_succ_self _)) rfl ?_
  iterate 2 refine qB_one rfl rfl ?_
  have hS1 : ((S ++ [(xkind .byte, n, [])]).set a (12, 4, [none, none, none, none].set (384 % 32) (some S.length)))[a]? = some (12, 4, [some S.length, none, none, none]) := by
    rw [List.getElem?_set_self (by rw [List.length_append]; omega)]; rfl
  refine q_putI hS1 rfl (Or.inr (Or.inl rfl)) ?_
  refine qB_go (qL_at km189 k189_3 ?_)
  have hne : S.length ≠ a := by omega
  refine qB_ret ⟨rfl, _, _, rfl, ⟨hS1, ?_, um_eq _ _ _ _, ?_, Nat.zero_le _, hn, (fun i hi => absurd hi (Nat.not_lt_zero _)), (fun x hx => by cases hx), ?_⟩, ?_⟩
  · rw [List.getElem?_set_ne (Ne.symm hne)]; exact ap_end
  · rw [um_k (by decide), uz_ne (by omega)]; exact h.2.2
  · rw [um_f hne]
    refine xft_of fun i hi => ?_
    rw [uz_at]; exact ⟨by decide, by decide⟩
  · exact (qS_push (m' := uz m S.length) hn (fun q hq => by cases hq) (fun b hb => uz_ne (by omega))).tr ((qS_set (k := 384 % 32) (ap_in h.1) (Or.inl (by rw [List.length_append]; exact Nat.lt_succ_self _))).tr (E := fun b => b = a) (c := 0) qS_um (fun _ _ q => q) (fun _ _ q => q) (Nat.le_refl _)) (fun _ _ q => q.elim) (fun _ _ q => q) (Nat.le_refl _)
theorem qc187 {a : Nat} (h : qNB S m a) (hG : qG S) (hN : S.length < 1000000) : qM K (d + 1) 187 [.ref a] (S, e, w, m) (fun r σ' => r = none ∧ ∃ S' m', σ' = (S', e, w, m') ∧ qSB S' m' a S.length 16 [] ∧ qS S m S' m' (fun b => b = a) 1) := by
  have hal := ap_lt h.1
  refine qL_at km187 k187_0 ?_
  iterate 2 refine qB_one rfl rfl ?_
  refine qB_ip km189 (Nat.le_of_ble_eq_true rfl) (qrecv h.1 (by decide)) (Nat.le_of_ble_eq_true rfl) (Nat.le_of_ble_eq_true rfl) (qc189 h hG hN (n := 16) (by omega)) ?_
  rintro v1 σ1 ⟨rfl, S', m', rfl, h2, hq⟩
  refine ⟨Or.inr ⟨by show (xok S.length (Value.ref a) && true) = true; rw [xokR hal]; rfl, rfl⟩, ?_⟩
  exact qB_ret ⟨rfl, S', m', rfl, h2, hq⟩
end QEE
