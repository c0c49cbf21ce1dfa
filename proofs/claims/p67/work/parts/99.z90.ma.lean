/-! The script's numbers; a new March. -/
def qcl (K : XK) (k : Nat) : Int32 := if k < K.1 - 1 then K.2 k else 0
def qmn : List Nat := [6, 12, 12, 12, 12, 12, 12, 12, 6, 6, 6, 12, 12, 12]
/-- the first k fields of the March a are its arrays, from b on -/
def qMF (S : List XC) (a b k : Nat) : Prop := S[a]? = some (11, 24, (List.range k).map (fun i => some (b + i)) ++ List.replicate (24 - k) none) ∧ S.length = b + k ∧ qG S ∧ (∀ i, i < k → S[b + i]? = some (20, qmn.getD i 0, [])) ∧ a < b
theorem qset_k {b k : Nat} {c : Nat} (hk : k < c) : ((List.range k).map (fun i => some (b + i)) ++ List.replicate (c - k) none).set k (some (b + k)) = (List.range (k + 1)).map (fun i => some (b + i)) ++ List.replicate (c - (k + 1)) none := by
  have h1 : ((List.range k).map (fun i => some (b + i))).length = k := by simp
  rw [List.set_append_right _ _ (by rw [h1]; exact Nat.le_refl _), h1, Nat.sub_self, List.range_succ, List.map_append, List.append_assoc]
  congr 1
  obtain ⟨q, hq⟩ := Nat.exists_eq_add_of_lt hk
  rw [show c - k = q + 1 by omega, show c - (k + 1) = q by omega, List.replicate_succ]
  rfl
section QMA
variable {K : XK} {d : Nat} {S : List XC} {e : Nat} {w : Nat → Value} {m : XM}
theorem qc177 {k : Nat} (h1 : 1 ≤ K.1) (h2 : K.1 ≤ 100000) (hN : S.length ≤ 1000000) (hk : k ≤ 100000) : qM K d 177 [.ref 1000000, .int (n32 k)] (S, e, w, m) (qE (some (.int (qcl K k))) (S, e, w, m)) := by
  have hK : xci K 1000000 = some (K.1 - 1, K.2) := by
    unfold xci
    rw [if_pos rfl, if_neg (by omega)]
  have hf := qfar hN (a := 1000000) (Nat.le_refl _)
  refine qL_at km177 k177_0 ?_
  iterate 2 refine qB_one rfl rfl ?_
  refine q_alenK hf hK ?_
  by_cases hlt : k < K.1 - 1
  · refine qB_icF (fun q => ?_) ?_
    · have := (n32_le (a := K.1 - 1) (b := k) (by omega) (by omega)).mp q
      omega
    refine qB_gow (qL_at km177 k177_1 ?_)
    iterate 2 refine qB_one rfl rfl ?_
    refine q_ialK hf hK (xin_n hlt (by omega)) ?_
    rw [show (n32 k).toNatClampNeg = k from ix_n32 (by omega)]
    refine qB_go (qL_at km177 k177_3 ?_)
    refine qB_iret rfl ⟨?_, rfl⟩
    unfold qcl; rw [if_pos hlt]
  · refine qB_icT ((n32_le (a := K.1 - 1) (b := k) (by omega) (by omega)).mpr (by omega)) ?_
    refine qL_at km177 k177_2 ?_
    iterate 1 refine qB_one rfl rfl ?_
    refine qB_gow (qL_at km177 k177_3 ?_)
    refine qB_iret rfl ⟨?_, rfl⟩
    unfold qcl; rw [if_neg hlt]; rfl
theorem qc186 {a : Nat} (h : S[a]? = some (13, 3, [none, none, none])) : qM K d 186 [.ref a] (S, e, w, m) (qE none (S, e, w, m)) := by
  refine qL_at km186 k186_0 ?_
  iterate 2 refine qB_one rfl rfl ?_
  exact qB_ret ⟨rfl, rfl⟩
theorem qc185 {a : Nat} (h : S[a]? = some (13, 3, [none, none, none])) : qM K (d + 1) 185 [.ref a] (S, e, w, m) (qE none (S, e, w, um m a 0 0)) := by
  refine qL_at km185 k185_0 ?_
  iterate 1 refine qB_one rfl rfl ?_
  refine qB_ip km186 (Nat.le_of_ble_eq_true rfl) (qrecv h (by decide)) (Nat.le_of_ble_eq_true rfl) (Nat.le_of_ble_eq_true rfl) (qc186 h) ?_
  rintro v1 σ1 ⟨rfl, rfl⟩
  refine ⟨Or.inl rfl, ?_⟩
  iterate 2 refine qB_one rfl rfl ?_
  refine q_putI h rfl (Or.inl rfl) ?_
  exact qB_ret ⟨rfl, rfl⟩
theorem qc184 {a : Nat} (h : S[a]? = some (13, 3, [none, none, none])) : qM K (d + 2) 184 [.ref a] (S, e, w, m) (qE none (S.set a (13, 3, [none, some 1000003, none]), e, w, um m a 0 0)) := by
  refine qL_at km184 k184_0 ?_
  iterate 1 refine qB_one rfl rfl ?_
  refine qB_ip km185 (Nat.le_of_ble_eq_true rfl) (qrecv h (by decide)) (Nat.le_of_ble_eq_true rfl) (Nat.le_of_ble_eq_true rfl) (qc185 h) ?_
  rintro v1 σ1 ⟨rfl, rfl⟩
  refine ⟨Or.inl rfl, ?_⟩
  iterate 2 refine qB_one rfl rfl ?_
  refine q_putR h rfl (Or.inr ⟨rfl, rfl⟩) rfl ?_
  exact qB_ret ⟨rfl, rfl⟩
/-- one field of the March gets its array -/
theorem q173s {a b k f : Nat} {nn : Int} {is : List Instr} {Q : Option Value → XS → Prop} (hk : k < 14) (h : qMF S a b k) (hN : b + k < 999999) (hn : Int32.ofInt nn = n32 (qmn.getD k 0)) (hf : f = 352 + k)
    (hc : ∀ S1 m1, qMF S1 a b (k + 1) → qS S m S1 m1 (fun x => x = a) 1 → qB K d 173 0 is [(0, .ref a)] [] (S1, e, w, m1) Q) : qB K d 173 0 (.aload 0 :: .iconst nn :: .newarray .int :: .putfield f :: is) [(0, .ref a)] [] (S, e, w, m) Q := by
  obtain ⟨h1, h2, h3, h4, h5⟩ := h
  have hal := ap_lt h1
  have hn12 : qmn.getD k 0 ≤ 12 := by
    have H : ∀ k, k < 14 → qmn.getD k 0 ≤ 12 := by decide +kernel
    exact H k hk
  have hk32 : f % 32 = k ∧ f / 32 = 11 := by omega
  refine qB_one rfl rfl ?_
  refine qB_one (st' := [.int (n32 (qmn.getD k 0)), .ref a]) (ls' := [(0, .ref a)]) (σ1 := (S, e, w, m)) rfl (by rw [← hn]; rfl) ?_
  refine q_narrV (t := .int) (Or.inl rfl) (by omega) (qfresh h3 (by omega) (by show (xok S.length (Value.ref a) && true) = true; rw [xokR hal]; rfl) (by show (xok S.length (Value.ref a) && true) = true; rw [xokR hal]; rfl)) ?_
  have hl : ((List.range k).map (fun i => some (b + i)) ++ List.replicate (24 - k) none).length = 24 := by
    rw [List.length_append, List.length_map, List.length_range, List.length_replicate]; omega
  refine q_putR (ap_in h1) hl (Or.inl (by rw [List.length_append]; exact Nat.lt_succ_self _)) ?_ ?_
  · rw [hk32.1, hk32.2]
    have H : ∀ k, k < 14 → (Nat.beq 11 11 && Nat.blt k 24 && Nat.blt 11 15 && xref 11 k) = true := by decide +kernel
    exact H k hk
  rw [hk32.1, h2, qset_k (by omega)]
  refine hc _ _ ⟨?_, ?_, ?_, ?_, h5⟩ ?_
  · rw [List.getElem?_set_self (by rw [List.length_append]; omega)]
  · rw [List.length_set, List.length_append, h2]; rfl
  · have := qG_set (k := k) (v := b + k) (qG_push (c := xkind .int) (n := qmn.getD k 0) (rs := []) h3 (fun q hq => by cases hq)) (ap_in h1) (Or.inl (by rw [List.length_append, h2]; exact Nat.lt_succ_self _))
    rw [qset_k (by omega)] at this
    exact this
  · intro i hi
    rw [List.getElem?_set_ne (by omega)]
    by_cases q : i = k
    · subst q
      rw [← h2]; exact ap_end
    · exact ap_in (h4 i (by omega))
  · have q1 : qS S m (S ++ [(xkind .int, qmn.getD k 0, [])]) (uz m (b + k)) (fun _ => False) 1 := qS_push (by omega) (fun q hq => by cases hq) (fun x hx => uz_ne (by omega))
    have q2 := qS_set (m := uz m (b + k)) (k := k) (v := b + k) (ap_in (T := [(xkind .int, qmn.getD k 0, [])]) h1) (Or.inl (by rw [List.length_append, h2]; exact Nat.lt_succ_self _))
    rw [qset_k (by omega)] at q2
    exact q1.tr q2 (fun _ _ q => q.elim) (fun _ _ q => q) (Nat.le_refl _)
/-- a March with all its cells -/
def qMS (S : List XC) (a b : Nat) (ws : List (Option Nat)) : Prop := S[a]? = some (11, 24, (List.range 16).map (fun i => some (b + i)) ++ List.replicate 8 none) ∧ (∀ i, i < 14 → S[b + i]? = some (20, qmn.getD i 0, [])) ∧ S[b + 14]? = some (26, 6, ws) ∧ ws.length = 6 ∧ b + 16 ≤ S.length ∧ a < b
theorem qc173 {a b : Nat} (h : S[a]? = some (11, 24, List.replicate 24 none)) (hb : S.length = b) (hG : qG S) (hN : b + 16 < 999999) : qM K (d + 3) 173 [.ref a] (S, e, w, m) (fun r σ' => r = none ∧ ∃ S' m', σ' = (S', e, w, m') ∧ qMS S' a b (List.replicate 6 none) ∧ S'.length = b + 16 ∧ qS S m S' m' (fun x => x = a) 16) := by
  have hal := ap_lt h
  have h0 : qMF S a b 0 := ⟨h, hb, hG, fun i hi => absurd hi (Nat.not_lt_zero _), by omega⟩
  refine qL_at km173 k173_0 ?_
  iterate 2 refine qB_one rfl rfl ?_
  show qB K (d + 3) 173 0 _ [(0, .ref a)] [] _ _
  refine q173s (k := 0) (by omega) h0 (by omega) rfl rfl (fun S1 m1 h1 q1 => ?_)
  refine q173s (k := 1) (by omega) h1 (by omega) rfl rfl (fun S2 m2 h2 q2 => ?_)
  refine q173s (k := 2) (by omega) h2 (by omega) rfl rfl (fun S3 m3 h3 q3 => ?_)
  refine q173s (k := 3) (by omega) h3 (by omega) rfl rfl (fun S4 m4 h4 q4 => ?_)
  refine q173s (k := 4) (by omega) h4 (by omega) rfl rfl (fun S5 m5 h5 q5 => ?_)
  refine q173s (k := 5) (by omega) h5 (by omega) rfl rfl (fun S6 m6 h6 q6 => ?_)
  refine q173s (k := 6) (by omega) h6 (by omega) rfl rfl (fun S7 m7 h7 q7 => ?_)
  refine q173s (k := 7) (by omega) h7 (by omega) rfl rfl (fun S8 m8 h8 q8 => ?_)
  refine q173s (k := 8) (by omega) h8 (by omega) rfl rfl (fun S9 m9 h9 q9 => ?_)
  refine q173s (k := 9) (by omega) h9 (by omega) rfl rfl (fun S10 m10 h10 q10 => ?_)
  refine q173s (k := 10) (by omega) h10 (by omega) rfl rfl (fun S11 m11 h11 q11 => ?_)
  refine q173s (k := 11) (by omega) h11 (by omega) rfl rfl (fun S12 m12 h12 q12 => ?_)
  refine q173s (k := 12) (by omega) h12 (by omega) rfl rfl (fun S13 m13 h13 q13 => ?_)
  refine q173s (k := 13) (by omega) h13 (by omega) rfl rfl (fun S14 m14 h14 q14 => ?_)
  obtain ⟨g1, g2, g3, g4, g5⟩ := h14
  have hal14 : a < S14.length := by omega
  iterate 2 refine qB_one rfl rfl ?_
  refine q_anewS (n := n32 6) ⟨by decide, by decide⟩ (qfresh g3 (by omega) (by show (xok S14.length (Value.ref a) && true) = true; rw [xokR hal14]; rfl) (by show (xok S14.length (Value.ref a) && true) = true; rw [xokR hal14]; rfl)) ?_
  rw [show (n32 6).toNatClampNeg = 6 from ix_n32 (by omega)]
  refine q_putR (ap_in g1) rfl (Or.inl (by rw [List.length_append]; exact Nat.lt_succ_self _)) rfl ?_
  have e15 : ((List.range 14).map (fun i => some (b + i)) ++ List.replicate (24 - 14) none).set (366 % 32) (some S14.length) = (List.range 15).map (fun i => some (b + i)) ++ List.replicate (24 - 15) none := by
    rw [g2]; exact qset_k (k := 14) (c := 24) (by omega)
  rw [e15]
  have q15 : qS S14 m14 ((S14 ++ [(26, 6, List.replicate 6 none)]).set a (11, 24, (List.range 15).map (fun i => some (b + i)) ++ List.replicate (24 - 15) none)) (uz m14 S14.length) (fun x => x = a) 1 := by
    have q1 : qS S14 m14 (S14 ++ [(26, 6, List.replicate 6 none)]) (uz m14 S14.length) (fun _ => False) 1 := qS_push (by omega) (fun q hq => (List.mem_replicate.mp hq).2) (fun x hx => uz_ne (by omega))
    have q2 := qS_set (m := uz m14 S14.length) (k := 366 % 32) (v := S14.length) (ap_in (T := [(26, 6, List.replicate 6 none)]) g1) (Or.inl (by rw [List.length_append]; exact Nat.lt_succ_self _))
    rw [e15] at q2
    exact q1.tr q2 (fun _ _ q => q.elim) (fun _ _ q => q) (Nat.le_refl _)
  generalize hS15 : (S14 ++ [(26, 6, List.replicate 6 none)]).set a (11, 24, (List.range 15).map (fun i => some (b + i)) ++ List.replicate (24 - 15) none) = S15
  rw [hS15] at q15
  have l15 : S15.length = b + 15 := by rw [← hS15, List.length_set, List.length_append, g2]; rfl
  have a15 : S15[a]? = some (11, 24, (List.range 15).map (fun i => some (b + i)) ++ List.replicate (24 - 15) none) := by
    rw [← hS15, List.getElem?_set_self (by rw [List.length_append]; omega)]
  have w15 : S15[b + 14]? = some (26, 6, List.replicate 6 none) := by
    rw [← hS15, List.getElem?_set_ne (by omega), ← g2]; exact ap_end
  have f15 : ∀ i, i < 14 → S15[b + i]? = some (20, qmn.getD i 0, []) := fun i hi => by
    rw [← hS15, List.getElem?_set_ne (by omega)]; exact ap_in (g4 i hi)
  have G15 : qG S15 := q15.2.2.2.1 g3
  have hal15 : a < S15.length := by omega
  iterate 1 refine qB_one rfl rfl ?_
  refine q_new (c := 13) (by decide) (qfresh G15 (by omega) (by show (xok S15.length (Value.ref a) && true) = true; rw [xokR hal15]; rfl) (by show (xok S15.length (Value.ref a) && true) = true; rw [xokR hal15]; rfl)) ?_
  show qB K (d + 3) 173 0 _ _ _ (S15 ++ [((13, 3, [none, none, none]) : XC)], e, w, _) _
  iterate 1 refine qB_one rfl rfl ?_
  refine qB_ip km184 (Nat.le_of_ble_eq_true rfl) (qrecv (ap_end (x := (13, 3, [none, none, none]))) (by decide)) (Nat.le_of_ble_eq_true rfl) (Nat.le_of_ble_eq_true rfl) (qc184 (ap_end (x := (13, 3, [none, none, none])))) ?_
  rintro v1 σ1 ⟨rfl, rfl⟩
  refine ⟨Or.inl (by rw [List.length_set]), ?_⟩
  have l16 : ((S15 ++ [((13, 3, [none, none, none]) : XC)]).set S15.length (13, 3, [none, some 1000003, none])).length = b + 16 := by rw [List.length_set, List.length_append, l15]; rfl
  have a16 : ((S15 ++ [((13, 3, [none, none, none]) : XC)]).set S15.length (13, 3, [none, some 1000003, none]))[a]? = some (11, 24, (List.range 15).map (fun i => some (b + i)) ++ List.replicate (24 - 15) none) := by
    rw [List.getElem?_set_ne (by omega)]; exact ap_in a15
  have q16 : qS S15 (uz m14 S14.length) ((S15 ++ [((13, 3, [none, none, none]) : XC)]).set S15.length (13, 3, [none, some 1000003, none])) (um (uz (uz m14 S14.length) S15.length) S15.length 0 0) (fun _ => False) 1 := by
    have q1 : qS S15 (uz m14 S14.length) (S15 ++ [((13, 3, [none, none, none]) : XC)]) (uz (uz m14 S14.length) S15.length) (fun _ => False) 1 := qS_push (by omega) (fun q hq => by simp at hq; exact hq) (fun x hx => uz_ne (by omega))
    have q2 := qS_set (m := uz (uz m14 S14.length) S15.length) (k := 1) (v := 1000003) (ap_end (S := S15) (x := (13, 3, [none, none, none]))) (Or.inr (by omega))
    exact q1.tr (q2.tr (E := fun x => x = S15.length) (c := 0) (qS_um (a := S15.length) (k := 0) (v := 0)) (fun _ _ q => q) (fun _ _ q => q) (Nat.le_refl _)) (fun _ _ q => q) (fun x hx q => by omega) (Nat.le_refl _)
  have e16 : ((List.range 15).map (fun i => some (b + i)) ++ List.replicate (24 - 15) none).set (367 % 32) (some S15.length) = (List.range 16).map (fun i => some (b + i)) ++ List.replicate (24 - 16) none := by
    rw [l15]; exact qset_k (k := 15) (c := 24) (by omega)
  refine q_putR a16 rfl (Or.inl (by rw [l16]; omega)) rfl ?_
  rw [e16]
  have q17 := qS_set (m := um (uz (uz m14 S14.length) S15.length) S15.length 0 0) (k := 367 % 32) (v := S15.length) a16 (Or.inl (by rw [l16]; omega))
  rw [e16] at q17
  refine qB_ret ⟨rfl, _, _, rfl, ⟨?_, fun i hi => ?_, ?_, rfl, by rw [List.length_set, l16]; exact Nat.le_refl _, g5⟩, by rw [List.length_set]; exact l16, ?_⟩
  · rw [List.getElem?_set_self (by rw [l16]; omega)]
  · rw [List.getElem?_set_ne (by omega), List.getElem?_set_ne (by omega)]; exact ap_in (f15 i hi)
  · rw [List.getElem?_set_ne (by omega), List.getElem?_set_ne (by omega)]; exact ap_in w15
  · have c1 := (((((((((((((q1.tr q2 (E := fun x => x = a) (c := 2) (fun _ _ q => q) (fun _ _ q => q) (Nat.le_refl _)).tr q3 (E := fun x => x = a) (c := 3) (fun _ _ q => q) (fun _ _ q => q) (Nat.le_refl _)).tr q4 (E := fun x => x = a) (c := 4) (fun _ _ q => q) (fun _ _ q => q) (Nat.le_refl _)).tr q5 (E := fun x => x = a) (c := 5) (fun _ _ q => q) (fun _ _ q => q) (Nat.le_refl _)).tr q6 (E := fun x => x = a) (c := 6) (fun _ _ q => q) (fun _ _ q => q) (Nat.le_refl _)).tr q7 (E := fun x => x = a) (c := 7) (fun _ _ q => q) (fun _ _ q => q) (Nat.le_refl _)).tr q8 (E := fun x => x = a) (c := 8) (fun _ _ q => q) (fun _ _ q => q) (Nat.le_refl _)).tr q9 (E := fun x => x = a) (c := 9) (fun _ _ q => q) (fun _ _ q => q) (Nat.le_refl _)).tr q10 (E := fun x => x = a) (c := 10) (fun _ _ q => q) (fun _ _ q => q) (Nat.le_refl _)).tr q11 (E := fun x => x = a) (c := 11) (fun _ _ q => q) (fun _ _ q => q) (Nat.le_refl _)).tr q12 (E := fun x => x = a) (c := 12) (fun _ _ q => q) (fun _ _ q => q) (Nat.le_refl _)).tr q13 (E := fun x => x = a) (c := 13) (fun _ _ q => q) (fun _ _ q => q) (Nat.le_refl _)).tr q14 (E := fun x => x = a) (c := 14) (fun _ _ q => q) (fun _ _ q => q) (Nat.le_refl _))
    exact ((c1.tr q15 (E := fun x => x = a) (c := 15) (fun _ _ q => q) (fun _ _ q => q) (Nat.le_refl _)).tr q16 (E := fun x => x = a) (c := 16) (fun _ _ q => q) (fun _ _ q => q.elim) (Nat.le_refl _)).tr q17 (fun _ _ q => q) (fun _ _ q => q) (Nat.le_refl _)
end QMA
