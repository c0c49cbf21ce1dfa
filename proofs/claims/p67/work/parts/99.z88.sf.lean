/-! A builder out of a text; a builder's text; a text's bytes. -/
theorem qTv.len {S : List XC} {m : XM} {t vt : Nat} {l : List Int32} (h : qTv S m t vt l) : xok S.length (Value.ref t) = true ∧ (vt < S.length ∨ 1000000 ≤ vt) := by
  rcases h with q | q
  · exact ⟨xokR (ap_lt q.1), Or.inl (ap_lt q.2.1)⟩
  · exact ⟨xokF (by have := q.1.1; omega), Or.inr (by have := q.1.1; omega)⟩
section QFF
variable {K : XK} {d : Nat} {S : List XC} {e : Nat} {w : Nat → Value} {m : XM}
theorem qc190 {a t vt : Nat} {l : List Int32} (h : qNB S m a) (ht : qTv S m t vt l) (hG : qG S) (hN : S.length + 2 < 1000000) (hva : vt ≠ a) (hl : l.length ≤ 380) : qM K (d + 7) 190 [.ref a, .ref t] (S, e, w, m) (fun r σ' => r = none ∧ ∃ S' m' v' cap', σ' = (S', e, w, m') ∧ qSB S' m' a v' cap' l ∧ S.length ≤ v' ∧ qS S m S' m' (fun b => b = a) 2) := by
  have hal := ap_lt h.1
  have hN1 : S.length ≤ 1000000 := by omega
  obtain ⟨hxt, hvl⟩ := ht.len
  have hta : t ≠ a := fun q => by
    rcases ht with z | z
    · have z1 := z.1
      rw [q, h.1] at z1; cases z1
    · have := z.1.1; omega
  refine qL_at km190 k190_0 ?_
  iterate 3 refine qB_one rfl rfl ?_
  refine qB_iv km391 (Nat.le_of_ble_eq_true rfl) (qrecvT ht.to hN1) (Nat.le_of_ble_eq_true rfl) (Nat.le_of_ble_eq_true rfl) (qc391 ht.to hN1) ?_
  rintro v1 σ1 ⟨rfl, rfl⟩
  refine ⟨Or.inl rfl, ?_⟩
  iterate 3 refine qB_one rfl rfl ?_
  refine qB_icF (fun q => ?_) ?_
  · have := (n32_le (a := 2147483631) (b := l.length) (by omega) (by omega)).mp q
    omega
  refine qB_gow (qL_at km190 k190_1 ?_)
  iterate 2 refine qB_one rfl rfl ?_
  refine q_add (a := l.length) (b := 16) ?_
  refine qB_go (qL_at km190 k190_3 ?_)
  iterate 2 refine qB_one rfl rfl ?_
  refine qB_iv km393 (Nat.le_of_ble_eq_true rfl) (qrecvT ht.to hN1) (Nat.le_of_ble_eq_true rfl) (Nat.le_of_ble_eq_true rfl) (qc393 ht.to hN1) ?_
  rintro v1 σ1 ⟨rfl, rfl⟩
  refine ⟨Or.inl rfl, ?_⟩
  iterate 3 refine qB_one rfl rfl ?_
  refine q_putI h.1 rfl (Or.inr (Or.inl rfl)) ?_
  iterate 2 refine qB_one rfl rfl ?_
  refine qB_ifF (by unfold xct; decide) ?_
  refine qB_gow (qL_at km190 k190_4 ?_)
  iterate 1 refine qB_one rfl rfl ?_
  refine q_narrV (t := .byte) (Or.inr (Or.inl rfl)) (by omega) (qfresh hG (by omega) (by show (xok S.length (Value.ref a) && true) = true; rw [xokR hal]; rfl) (by show (xok S.length (Value.ref a) && (xok S.length (Value.ref t) && (true && true))) = true; rw [xokR hal, hxt]; rfl)) ?_
  refine qB_go (qL_at km190 k190_6 ?_)
  refine q_putR (ap_in h.1) rfl (Or.inl (by rw [List.length_append]; exact Nat.lt_succ_self _)) rfl ?_
  have hS1 : ((S ++ [(xkind .byte, l.length + 16, [])]).set a (12, 4, [none, none, none, none].set (384 % 32) (some S.length)))[a]? = some (12, 4, [some S.length, none, none, none]) := by
    rw [List.getElem?_set_self (by rw [List.length_append]; omega)]; rfl
  have hne : S.length ≠ a := by omega
  have hq1 : qS S m ((S ++ [(xkind .byte, l.length + 16, [])]).set a (12, 4, [none, none, none, none].set (384 % 32) (some S.length))) (uz (um m a (385 % 32) 0) S.length) (fun b => b = a) 1 :=
    (qS_um (S := S) (m := m) (a := a) (k := 385 % 32) (v := 0)).tr ((qS_push (S := S) (m := um m a (385 % 32) 0) (m' := uz (um m a (385 % 32) 0) S.length) (c := xkind .byte) (n := l.length + 16) (rs := []) (by omega) (fun q hq => by cases hq) (fun b hb => uz_ne (by omega))).tr (E := fun b => b = a) (c := 1) (qS_set (k := 384 % 32) (ap_in h.1) (Or.inl (by rw [List.length_append]; exact Nat.lt_succ_self _))) (fun _ _ q => q.elim) (fun _ _ q => q) (Nat.le_refl _)) (fun _ _ q => q) (fun _ _ q => q) (Nat.le_refl _)
  have hB1 : qSB ((S ++ [(xkind .byte, l.length + 16, [])]).set a (12, 4, [none, none, none, none].set (384 % 32) (some S.length))) (uz (um m a (385 % 32) 0) S.length) a S.length (l.length + 16) [] := by
    refine ⟨hS1, ?_, ?_, ?_, Nat.zero_le _, by omega, (fun i hi => absurd hi (Nat.not_lt_zero _)), (fun x hx => by cases hx), ?_⟩
    · rw [List.getElem?_set_ne (Ne.symm hne)]; exact ap_end
    · rw [uz_ne (Ne.symm hne)]; exact um_eq _ _ _ _
    · rw [uz_ne (Ne.symm hne), um_k (by decide)]; exact h.2.2
    · refine xft_of fun i hi => ?_
      rw [uz_at]; exact ⟨by decide, by decide⟩
  have ht1 := ht.mv hq1 hta hva
  have hl1 : ((S ++ [(xkind .byte, l.length + 16, [])]).set a (12, 4, [none, none, none, none].set (384 % 32) (some S.length))).length = S.length + 1 := by
    rw [List.length_set, List.length_append]; rfl
  iterate 2 refine qB_one rfl rfl ?_
  refine qB_iv km220 (Nat.le_of_ble_eq_true rfl) (qrecv hS1 (by decide)) (Nat.le_of_ble_eq_true rfl) (Nat.le_of_ble_eq_true rfl) (qc220 hB1 ht1 (hq1.2.2.2.1 hG) (by rw [hl1]; omega) (by omega) hva (by rw [hl1]; omega) (by show 0 + l.length ≤ 400; omega)) ?_
  rintro v1 σ1 ⟨rfl, S', m', v', cap', rfl, h2, hq, hv'⟩
  refine ⟨Or.inr ⟨by show (xok _ (Value.ref a) && (xok _ (Value.ref t) && true)) = true; rw [xokR (by show a < List.length _; rw [hl1]; omega), show xok _ (Value.ref t) = true from (ht1.len).1]; rfl, rfl⟩, ?_⟩
  iterate 1 refine qB_one rfl rfl ?_
  refine qB_ret ⟨rfl, S', m', v', cap', rfl, h2, ?_, ?_⟩
  · rcases hv' with z | z
    · omega
    · rw [hl1] at z; omega
  · exact hq1.tr hq (fun _ _ q => q) (fun b hb q => by rcases q with q | q; exact q; omega) (Nat.le_refl _)
theorem qc188 {a t vt : Nat} {l : List Int32} (h : qNB S m a) (ht : qTv S m t vt l) (hG : qG S) (hN : S.length + 2 < 1000000) (hva : vt ≠ a) (hl : l.length ≤ 380) : qM K (d + 8) 188 [.ref a, .ref t] (S, e, w, m) (fun r σ' => r = none ∧ ∃ S' m' v' cap', σ' = (S', e, w, m') ∧ qSB S' m' a v' cap' l ∧ S.length ≤ v' ∧ qS S m S' m' (fun b => b = a) 2) := by
  have hal := ap_lt h.1
  refine qL_at km188 k188_0 ?_
  iterate 2 refine qB_one rfl rfl ?_
  refine qB_ip km190 (Nat.le_of_ble_eq_true rfl) (qrecv h.1 (by decide)) (Nat.le_of_ble_eq_true rfl) (Nat.le_of_ble_eq_true rfl) (qc190 h ht hG hN hva hl) ?_
  rintro v1 σ1 ⟨rfl, S', m', v', cap', rfl, h2, hv', hq⟩
  refine ⟨Or.inr ⟨by show (xok S.length (Value.ref a) && (xok S.length (Value.ref t) && true)) = true; rw [xokR hal, ht.len.1]; rfl, rfl⟩, ?_⟩
  exact qB_ret ⟨rfl, S', m', v', cap', rfl, h2, hv', hq⟩
/-- the first k bytes, copied -/
theorem qc210 {v cap k : Nat} (hv : S[v]? = some (21, cap, [])) (hk : k ≤ cap) (hk1 : cap ≤ 1000) (hx : xft (m v) 0 cap = true) (hG : qG S) (hN : S.length < 1000000) : qM K (d + 1) 210 [.ref v, .int 0, .int (n32 k)] (S, e, w, m) (fun r σ' => r = some (.ref S.length) ∧ ∃ m', σ' = (S ++ [(21, k, [])], e, w, m') ∧ (∀ b, b < S.length → m' b = m b) ∧ (∀ i, i < k → m' S.length i = m v i)) := by
  have hvl := ap_lt hv
  refine qL_at km210 k210_0 ?_
  iterate 2 refine qB_one rfl rfl ?_
  refine qB_is km211 (Nat.le_of_ble_eq_true rfl) rfl (Nat.le_of_ble_eq_true rfl) (Nat.le_of_ble_eq_true rfl) (qc211 (i := 0) (j := k) (Nat.zero_le _) (by omega)) ?_
  rintro v1 σ1 ⟨rfl, rfl⟩
  refine ⟨Or.inl rfl, ?_⟩
  iterate 2 refine qB_one rfl rfl ?_
  refine q_sub (a := k) (b := 0) (Nat.zero_le _) ?_
  iterate 2 refine qB_one rfl rfl ?_
  refine q_narrV (t := .byte) (n := k) (Or.inr (Or.inl rfl)) (by omega) (qfresh hG hN rfl (by show (true && (xok S.length (Value.ref v) && (true && (true && true)))) = true; rw [xokR hvl]; rfl)) ?_
  iterate 6 refine qB_one rfl rfl ?_
  refine q_alen (ap_in hv) (Or.inr (Or.inl rfl)) ?_
  iterate 1 refine qB_one rfl rfl ?_
  refine q_sub (a := cap) (b := 0) (Nat.zero_le _) ?_
  iterate 1 refine qB_one rfl rfl ?_
  refine qB_is km386 (Nat.le_of_ble_eq_true rfl) rfl (Nat.le_of_ble_eq_true rfl) (Nat.le_of_ble_eq_true rfl) (qc386 (a := cap - 0) (b := k) (by omega) (by omega)) ?_
  rintro v1 σ1 ⟨rfl, rfl⟩
  refine ⟨Or.inl rfl, ?_⟩
  rw [show min (cap - 0) k = k by omega]
  refine q_copyN (i := 0) (j := 0) (xsrc_at (ap_in hv) (Or.inr rfl)) ap_end (Or.inr ⟨rfl, ?_⟩) (by omega) (by omega) (by omega) (by omega) (by omega) (Nat.le_of_ble_eq_true rfl) ?_
  · rw [uz_ne (by omega)]
    exact xft_of fun i hi => xft_to hx (by omega)
  iterate 1 refine qB_one rfl rfl ?_
  refine qB_aret ⟨rfl, _, rfl, fun b hb => ?_, fun i hi => ?_⟩
  · rw [ucp_ne (by omega), uz_ne (by omega)]
  · rw [ucp_at, if_pos (by omega), uz_ne (by omega)]; rfl
theorem qc209 {v cap k : Nat} (hv : S[v]? = some (21, cap, [])) (hk : k ≤ cap) (hk1 : cap ≤ 1000) (hx : xft (m v) 0 cap = true) (hG : qG S) (hN : S.length < 1000000) : qM K (d + 2) 209 [.ref v, .int 0, .int (n32 k)] (S, e, w, m) (fun r σ' => r = some (.ref S.length) ∧ ∃ m', σ' = (S ++ [(21, k, [])], e, w, m') ∧ (∀ b, b < S.length → m' b = m b) ∧ (∀ i, i < k → m' S.length i = m v i)) := by
  have hvl := ap_lt hv
  refine qL_at km209 k209_0 ?_
  iterate 1 refine qB_one rfl rfl ?_
  refine qB_ifF (by unfold xct; decide) ?_
  refine qB_gow (qL_at km209 k209_1 ?_)
  iterate 2 refine qB_one rfl rfl ?_
  refine q_alen hv (Or.inr (Or.inl rfl)) ?_
  by_cases hkc : k = cap
  · subst hkc
    refine qB_icT rfl ?_
    refine qL_at km209 k209_3 ?_
    iterate 1 refine qB_one rfl rfl ?_
    refine q_clone hv (by omega) hx (qfresh hG hN rfl (by show (xok S.length (Value.ref v) && true) = true; rw [xokR hvl]; rfl)) (Nat.le_of_ble_eq_true rfl) ?_
    refine q_cast ap_end ?_
    refine qB_aret ⟨rfl, _, rfl, fun b hb => ?_, fun i hi => ?_⟩
    · funext j; unfold ucl; rw [if_neg (by omega)]
    · unfold ucl; rw [if_pos rfl]
  · refine qB_icF (fun q => hkc (n32_inj (by omega) (by omega) q)) ?_
    refine qB_gow (qL_at km209 k209_2 ?_)
    iterate 3 refine qB_one rfl rfl ?_
    refine qB_is km210 (Nat.le_of_ble_eq_true rfl) rfl (Nat.le_of_ble_eq_true rfl) (Nat.le_of_ble_eq_true rfl) (qc210 hv hk hk1 hx hG hN) ?_
    rintro v1 σ1 ⟨rfl, m', rfl, k1, k2⟩
    refine ⟨Or.inr ⟨by show (xok S.length (Value.ref v) && (true && (true && true))) = true; rw [xokR hvl]; rfl, rfl⟩, ?_⟩
    exact qB_aret ⟨rfl, m', rfl, k1, k2⟩
theorem qrecv14 {S : List XC} {a : Nat} {rs : List (Option Nat)} {vs : List Value} (h : S[a]? = some (14, 4, rs)) : xrecv 30 S (.ref a :: vs) = true := by
  unfold xrecv
  dsimp only
  rw [if_neg (by decide), h]
  rfl
theorem qc207 {t a v cap : Nat} {l : List Int32} (ht : S[t]? = some (14, 4, [none, none, none, none])) (h : qSB S m a v cap l) (hG : qG S) (hN : S.length < 1000000) : qM K (d + 3) 207 [.ref t, .ref a, .null] (S, e, w, m) (fun r σ' => r = none ∧ ∃ S' m', σ' = (S', e, w, m') ∧ qTm S' m' t S.length l ∧ qS S m S' m' (fun b => b = t) 1) := by
  have hal := ap_lt h.1
  have htl := ap_lt ht
  have hta : a ≠ t := fun q => by
    have z := h.1
    rw [q, ht] at z; cases z
  have htv : v ≠ t := fun q => by
    have z := h.2.1
    rw [q, ht] at z; cases z
  refine qL_at km207 k207_0 ?_
  iterate 3 refine qB_one rfl rfl ?_
  refine qB_iv km204 (Nat.le_of_ble_eq_true rfl) (qrecv h.1 (by decide)) (Nat.le_of_ble_eq_true rfl) (Nat.le_of_ble_eq_true rfl) (qc204 h) ?_
  rintro v1 σ1 ⟨rfl, rfl⟩
  refine ⟨Or.inl rfl, ?_⟩
  iterate 2 refine qB_one rfl rfl ?_
  refine qB_iv km221 (Nat.le_of_ble_eq_true rfl) (qrecv h.1 (by decide)) (Nat.le_of_ble_eq_true rfl) (Nat.le_of_ble_eq_true rfl) (qc221 h) ?_
  rintro v1 σ1 ⟨rfl, rfl⟩
  refine ⟨Or.inl rfl, ?_⟩
  iterate 2 refine qB_one rfl rfl ?_
  refine qB_iv km202 (Nat.le_of_ble_eq_true rfl) (qrecv h.1 (by decide)) (Nat.le_of_ble_eq_true rfl) (Nat.le_of_ble_eq_true rfl) (qc202 h) ?_
  rintro v1 σ1 ⟨rfl, rfl⟩
  refine ⟨Or.inl rfl, ?_⟩
  refine qB_ifF (by unfold xct; decide) ?_
  refine qB_gow (qL_at km207 k207_1 ?_)
  iterate 2 refine qB_one rfl rfl ?_
  refine q_putSI ht ?_
  iterate 4 refine qB_one rfl rfl ?_
  have hx1 : xft (um m t 1 0 v) 0 cap = true := by rw [um_f htv]; exact h.2.2.2.2.2.2.2.2
  refine qB_is km209 (Nat.le_of_ble_eq_true rfl) rfl (Nat.le_of_ble_eq_true rfl) (Nat.le_of_ble_eq_true rfl) (qc209 h.2.1 h.2.2.2.2.1 h.2.2.2.2.2.1 hx1 hG hN) ?_
  rintro v1 σ1 ⟨rfl, m', rfl, k1, k2⟩
  refine ⟨Or.inr ⟨by show (xok S.length (Value.ref t) && (xok S.length (Value.ref v) && (true && true))) = true; rw [xokR htl, xokR (ap_lt h.2.1)]; rfl, by show (xok S.length (Value.ref t) && true) = true; rw [xokR htl]; rfl⟩, ?_⟩
  refine q_putSR (ap_in ht) rfl (by rw [List.length_append]; exact Nat.lt_succ_self _) ?_
  refine qB_go (qL_at km207 k207_6 ?_)
  have hne : S.length ≠ t := by omega
  refine qB_ret ⟨rfl, _, m', rfl, ⟨?_, ?_, ?_, fun i hi => ?_, h.2.2.2.2.2.2.2.1, by have := h.2.2.2.2.1; have := h.2.2.2.2.2.1; omega⟩, ?_⟩
  · rw [List.getElem?_set_self (by rw [List.length_append]; omega)]; rfl
  · rw [List.getElem?_set_ne (Ne.symm hne)]; exact ap_end
  · rw [k1 t htl]; exact um_eq _ _ _ _
  · rw [k2 i hi, um_f htv]; exact h.2.2.2.2.2.2.1 i hi
  · exact (qS_um (S := S) (m := m) (a := t) (k := 1) (v := 0)).tr ((qS_push (by have := h.2.2.2.2.1; have := h.2.2.2.2.2.1; omega) (fun q hq => by cases hq) k1).tr (E := fun b => b = t) (c := 1) (qS_set (k := 0) (ap_in ht) (Or.inl (by rw [List.length_append]; exact Nat.lt_succ_self _))) (fun _ _ q => q.elim) (fun _ _ q => q) (Nat.le_refl _)) (fun _ _ q => q) (fun _ _ q => q) (Nat.le_refl _)
theorem qc206 {t a v cap : Nat} {l : List Int32} (ht : S[t]? = some (14, 4, [none, none, none, none])) (h : qSB S m a v cap l) (hG : qG S) (hN : S.length < 1000000) : qM K (d + 4) 206 [.ref t, .ref a] (S, e, w, m) (fun r σ' => r = none ∧ ∃ S' m', σ' = (S', e, w, m') ∧ qTm S' m' t S.length l ∧ qS S m S' m' (fun b => b = t) 1) := by
  have hal := ap_lt h.1
  have htl := ap_lt ht
  refine qL_at km206 k206_0 ?_
  iterate 3 refine qB_one rfl rfl ?_
  refine qB_ip km207 (Nat.le_of_ble_eq_true rfl) (qrecv14 ht) (Nat.le_of_ble_eq_true rfl) (Nat.le_of_ble_eq_true rfl) (qc207 ht h hG hN) ?_
  rintro v1 σ1 ⟨rfl, S', m', rfl, h2, hq⟩
  refine ⟨Or.inr ⟨by show (xok S.length (Value.ref t) && (xok S.length (Value.ref a) && true)) = true; rw [xokR htl, xokR hal]; rfl, rfl⟩, ?_⟩
  exact qB_ret ⟨rfl, S', m', rfl, h2, hq⟩
theorem qc194 {a v cap : Nat} {l : List Int32} (h : qSB S m a v cap l) (hG : qG S) (hN : S.length + 1 < 1000000) : qM K (d + 5) 194 [.ref a] (S, e, w, m) (fun r σ' => r = some (.ref S.length) ∧ ∃ S' m', σ' = (S', e, w, m') ∧ qTm S' m' S.length (S.length + 1) l ∧ qS S m S' m' (fun _ => False) 2) := by
  have hal := ap_lt h.1
  have hvl := ap_lt h.2.1
  refine qL_at km194 k194_0 ?_
  refine q_new (c := 14) (by decide) (qfresh hG (by omega) rfl (by show (xok S.length (Value.ref a) && true) = true; rw [xokR hal]; rfl)) ?_
  iterate 2 refine qB_one rfl rfl ?_
  have hq1 : qS S m (S ++ [(14, 4, [none, none, none, none])]) (uz m S.length) (fun _ => False) 1 := qS_push (by omega) (fun q hq => by simp at hq; exact hq) (fun b hb => uz_ne (by omega))
  have h1 := h.mv hq1 (fun q => q) (fun q => q)
  refine qB_ip km206 (Nat.le_of_ble_eq_true rfl) (qrecv14 (ap_end (x := (14, 4, [none, none, none, none])))) (Nat.le_of_ble_eq_true rfl) (Nat.le_of_ble_eq_true rfl) (qc206 (ap_end (x := (14, 4, [none, none, none, none]))) h1 (hq1.2.2.2.1 hG) (by rw [List.length_append]; exact hN)) ?_
  rintro v1 σ1 ⟨rfl, S', m', rfl, h2, hq⟩
  have hl1 : (S ++ [((14, 4, [none, none, none, none]) : XC)]).length = S.length + 1 := by rw [List.length_append]; rfl
  refine ⟨Or.inr ⟨by show (xok _ (Value.ref a) && true) = true; rw [xokR (show a < List.length _ by rw [List.length_append]; omega)]; rfl, by show (xok _ (Value.ref S.length) && true) = true; rw [xokR (show S.length < List.length _ by rw [List.length_append]; exact Nat.lt_succ_self _)]; rfl⟩, ?_⟩
  replace h2 : qTm S' m' S.length (S ++ [((14, 4, [none, none, none, none]) : XC)]).length l := h2
  rw [hl1] at h2
  exact qB_aret ⟨rfl, S', m', rfl, h2, hq1.tr hq (fun _ _ q => q) (fun b hb q => by omega) (Nat.le_refl _)⟩
theorem qc397 {i n : Nat} {v : Value} {σ : XS} (hi : i < n) (hn : n < 2147483648) (hv : v.category = 1) : qM K d 397 [.int (n32 i), .int (n32 n), v] σ (qE (some (.int (n32 i))) σ) := by
  refine qL_at km397 k397_0 ?_
  iterate 1 refine qB_one rfl rfl ?_
  refine qB_ifF (fun q => ?_) ?_
  · have := (n32_lt (a := i) (b := 0) (by omega) (by omega)).mp q
    omega
  refine qB_gow (qL_at km397 k397_1 ?_)
  iterate 2 refine qB_one rfl rfl ?_
  refine qB_icT ((n32_lt (by omega) hn).mpr hi) ?_
  refine qL_at km397 k397_3 ?_
  iterate 1 refine qB_one rfl rfl ?_
  exact qB_iret rfl ⟨rfl, rfl⟩
theorem qc395 {i n : Nat} {σ : XS} (hi : i < n) (hn : n < 2147483648) : qM K (d + 1) 395 [.int (n32 i), .int (n32 n)] σ (qE none σ) := by
  refine qL_at km395 k395_0 ?_
  iterate 3 refine qB_one rfl rfl ?_
  refine qB_is km397 (Nat.le_of_ble_eq_true rfl) rfl (Nat.le_of_ble_eq_true rfl) (Nat.le_of_ble_eq_true rfl) (qc397 hi hn rfl) ?_
  rintro v1 σ1 ⟨rfl, rfl⟩
  refine ⟨Or.inl rfl, ?_⟩
  iterate 1 refine qB_one rfl rfl ?_
  exact qB_ret ⟨rfl, rfl⟩
theorem i2c_ok {c : Int32} (h : 0 ≤ c ∧ c ≤ 127) : ((c &&& 255).toUInt32 % 65536).toInt32 = c := by
  obtain ⟨k, hk, rfl⟩ := n32_of (k := 127) h.1 h.2 (by decide)
  have H : ∀ k, k < 128 → ((n32 k &&& 255).toUInt32 % 65536).toInt32 = n32 k := by decide +kernel
  exact H k (by omega)
theorem i2c_ok2 {c : Int32} (h : 0 ≤ c ∧ c ≤ 127) : (c.toUInt32 % 65536).toInt32 = c := by
  obtain ⟨k, hk, rfl⟩ := n32_of (k := 127) h.1 h.2 (by decide)
  have H : ∀ k, k < 128 → ((n32 k).toUInt32 % 65536).toInt32 = n32 k := by decide +kernel
  exact H k (by omega)
theorem qc392 {t vt i : Nat} {l : List Int32} (h : qTv S m t vt l) (hN : S.length ≤ 1000000) (hi : i < l.length) : qM K (d + 3) 392 [.ref t, .int (n32 i)] (S, e, w, m) (qE (some (.int (l.getD i 0))) (S, e, w, m)) := by
  have hl := (qT_ok h.to).2
  have hc := (qT_ok h.to).1 (l.getD i 0) (by rw [List.getD_eq_getElem?_getD, List.getElem?_eq_getElem hi]; exact List.getElem_mem hi)
  refine qL_at km392 k392_0 ?_
  iterate 1 refine qB_one rfl rfl ?_
  refine qB_iv km394 (Nat.le_of_ble_eq_true rfl) (qrecvT h.to hN) (Nat.le_of_ble_eq_true rfl) (Nat.le_of_ble_eq_true rfl) (qc394 h.to hN) ?_
  rintro v1 σ1 ⟨rfl, rfl⟩
  refine ⟨Or.inl rfl, ?_⟩
  refine qB_ifF (by unfold xct; decide) ?_
  refine qB_gow (qL_at km392 k392_1 ?_)
  iterate 1 refine qB_one rfl rfl ?_
  have key : ∀ f : Nat → Int32, (∀ (is : List Instr) (ls : XL) (r : List Value) (Q : Option Value → XS → Prop) (rt y d' : Nat), qB K d' y rt is ls (.int (n32 l.length) :: r) (S, e, w, m) Q → qB K d' y rt (.arraylength :: is) ls (.ref vt :: r) (S, e, w, m) Q) →
      (∀ (is : List Instr) (ls : XL) (r : List Value) (Q : Option Value → XS → Prop) (rt y d' : Nat), qB K d' y rt is ls (.int (l.getD i 0) :: r) (S, e, w, m) Q → qB K d' y rt (.baload :: is) ls (.int (n32 i) :: .ref vt :: r) (S, e, w, m) Q) →
      qM K (d + 2) 396 [.ref vt, .int (n32 i)] (S, e, w, m) (qE (some (.int (l.getD i 0))) (S, e, w, m)) := by
    intro f k1 k2
    refine qL_at km396 k396_0 ?_
    iterate 2 refine qB_one rfl rfl ?_
    refine k1 _ _ _ _ _ _ _ ?_
    refine qB_is km395 (Nat.le_of_ble_eq_true rfl) rfl (Nat.le_of_ble_eq_true rfl) (Nat.le_of_ble_eq_true rfl) (qc395 hi (by omega)) ?_
    rintro v1 σ1 ⟨rfl, rfl⟩
    refine ⟨Or.inl rfl, ?_⟩
    iterate 2 refine qB_one rfl rfl ?_
    refine k2 _ _ _ _ _ _ _ ?_
    iterate 3 refine qB_one rfl rfl ?_
    refine qB_iret (v := ((l.getD i 0 &&& 255).toUInt32 % 65536).toInt32) ?_ ⟨?_, rfl⟩
    · rw [i2c_ok hc]
      show ((l.getD i 0).toUInt32 % 65536).toInt32 == l.getD i 0
      rw [i2c_ok2 hc]; exact beq_self_eq_true _
    · rw [i2c_ok hc]
  have fin : qM K (d + 2) 396 [.ref vt, .int (n32 i)] (S, e, w, m) (qE (some (.int (l.getD i 0))) (S, e, w, m)) → qB K (d + 3) 392 4 [.iload 1, .invokestatic 396, .ireturn] (xnorm [0, 1] (xnorm [0, 1] (lv_args 0 [.ref t, .int (n32 i)]))) [.ref vt] (S, e, w, m) (qE (some (.int (l.getD i 0))) (S, e, w, m)) := by
    intro hM
    iterate 1 refine qB_one rfl rfl ?_
    refine qB_is km396 (Nat.le_of_ble_eq_true rfl) rfl (Nat.le_of_ble_eq_true rfl) (Nat.le_of_ble_eq_true rfl) (hM) ?_
    rintro v1 σ1 ⟨rfl, rfl⟩
    refine ⟨Or.inl rfl, ?_⟩
    refine qB_iret ?_ ⟨rfl, rfl⟩
    show ((l.getD i 0).toUInt32 % 65536).toInt32 == l.getD i 0
    rw [i2c_ok2 hc]; exact beq_self_eq_true _
  rcases h with h | ⟨h, rfl⟩
  · refine q_getSR h.1 rfl (fin (key (m vt) (fun is ls r Q rt y d' z => q_alen h.2.1 (Or.inr (Or.inl rfl)) z) (fun is ls r Q rt y d' z => q_balV h.2.1 hi (by omega) (h.2.2.2.1 i hi) z)))
  · have hf := qfar hN (a := t) (by have := h.1; omega)
    have hf2 := qfar hN (a := t + 30) (by have := h.1; omega)
    refine q_getCR hf ⟨h.1, h.2.1⟩ (fin (key (fun j => l.getD j 0) (fun is ls r Q rt y d' z => q_alenB hf2 (xci_no (by have := h.1; omega)) (qTc_b h) z) (fun is ls r Q rt y d' z => ?_)))
    refine q_balK hf2 (qTc_b h) (xin_n hi (by omega)) ?_
    rw [show (n32 i).toNatClampNeg = i from ix_n32 (by omega)]; exact z
end QFF
