/-! The class's load beside other cells; the law's says. -/
/-- the class, just loaded with g -/
def qCL (m : XM) (g : PG) : Prop := RS m 29 g ∧ RA m 29 g ∧ RT m 69 g ∧ m 0 7 = n32 1 ∧ m 74 0 = n32 0 ∧ m 74 1 = n32 0 ∧ m 77 0 = n32 0 ∧ m 77 1 = n32 0
theorem qc92 {K : XK} {d : Nat} {T : List XC} {e : Nat} {w : Nat → Value} {m : XM} {bf : BF} {n l : Nat} {g0 : PG} {q : PG × TK} (h0 : PS0 g0 0) (l7 : l ≤ 700) (e1 : m 2 1 = n32 l) (hn : n ≤ l) (hb : ∀ i, i < n → bf i < 256 ∧ m 3 i = n32 (bf i)) (hp : parF bf n g0 = Sum.inr q) (hT : 283 + T.length ≤ 1000000) :
    qM K (d + 9) 92 [.ref 0, .int (n32 n)] (S0 ++ T, e, w, m) (fun r σ' => r = some (.int (q.1 6)) ∧ ∃ m0' m', σ' = (S0 ++ T, e, w, m') ∧ (∀ a, a < 283 → m' a = m0' a) ∧ (∀ a, 283 ≤ a → m' a = m a) ∧ qCL m0' q.1) := by
  have hc : VI (d + 9) 92 [vR 10 0, vI (n32 n)] m (fun x m' => x = q.1 6 ∧ qCL m' q.1) (fun _ _ => False) := by
    refine cload (bf := bf) (g0 := g0) h0 l7 e1 hn hb (fun e he => ?_) (fun q' hq' m' r1 r2 r3 _ _ _ r4 r5 r6 r7 r8 _ => ?_)
    · rw [hp] at he; cases he
    · rw [hp] at hq'
      cases hq'
      exact ⟨rfl, r1, r2, r3, r4, r5, r6, r7, r8⟩
  have hV := qV (K := K) (e := e) (w := w) (m := m) (T := T) hc (wtS_cons (v := vR 10 0) (wtS_cons (v := vI (n32 n)) (fun q hq => by cases hq) trivial) ⟨by decide +kernel, by decide⟩) hT (fun _ _ => rfl)
  refine qL_mono hV ?_
  rintro r σ' ⟨hr, m0', m', ⟨p1, p2⟩, rfl, g1, g2⟩
  obtain ⟨x, rfl⟩ : ∃ x, r = some (.int x) := hr
  exact ⟨by rw [← p1]; rfl, m0', m', rfl, g1, g2, p2⟩
section ZC4
variable {K : XK} {d : Nat} {e : Nat} {w : Nat → Value} {Q : Option Value → XS → Prop}
theorem n32_ix {x : Int32} (h : 0 ≤ x ∧ x ≤ 127) : ix x < 128 ∧ n32 (ix x) = x := by
  obtain ⟨k, hk, rfl⟩ := n32_of (k := 127) h.1 h.2 (by decide)
  rw [ix_n32 (by omega)]
  exact ⟨by omega, rfl⟩
theorem qw180 {T : List XC} {mm t vt : Nat} {l : List Int32} (hmm : 283 ≤ mm) (hS : (S0 ++ T)[mm]? = some (20, 7, [])) (hT : 283 + T.length ≤ 1000000) (ht : 283 ≤ t ∧ t ≠ mm) (hv : 283 ≤ vt ∧ vt ≠ mm) (hl : l.length + 1 ≤ 700) : ∀ (i j : Nat) (m : XM) (B : List Nat) (q : Nat), j + i = l.length → B.length = j → (∀ k, k < j → l.getD k 0 = n32 (B.getD k 0)) → qPK m mm B q → qTm (S0 ++ T) m t vt l →
    (∀ (m' : XM) (B' : List Nat) (q' : Nat), B'.length = l.length → (∀ k, k < l.length → l.getD k 0 = n32 (B'.getD k 0)) → qPK m' mm B' q' → qPF m m' mm → qL K (d + 10) 180 3 [(0, .ref 0), (1, .ref mm)] [] (S0 ++ T, e, w, m') Q) →
    qL K (d + 10) 180 1 [(0, .ref 0), (1, .ref mm), (3, .ref t), (4, .int (n32 j))] [] (S0 ++ T, e, w, m) Q := by
  intro i
  have hSN : (S0 ++ T).length ≤ 1000000 := by rw [List.length_append, S0_len]; exact hT
  induction i with
  | zero =>
    intro j m B q hj hB hk hp htx cont
    have hqt : qT (S0 ++ T) m t l := Or.inl ⟨vt, htx⟩
    refine qL_at km180 k180_1 ?_
    iterate 2 refine qB_one rfl rfl ?_
    refine qB_iv km391 (Nat.le_of_ble_eq_true rfl) (qrecvT hqt hSN) (Nat.le_of_ble_eq_true rfl) (Nat.le_of_ble_eq_true rfl) (qc391 hqt hSN) ?_
    rintro v1 σ1 ⟨rfl, rfl⟩
    refine ⟨Or.inl rfl, ?_⟩
    refine qB_icT ((n32_le (a := l.length) (b := j) (by omega) (by omega)).mpr (by omega)) ?_
    exact qL_ls km180 k180_3 (cont m B q (by omega) (fun k hk' => hk k (by omega)) hp (fun _ _ _ _ _ => rfl)) rfl
  | succ i ih =>
    intro j m B q hj hB hk hp htx cont
    have hqt : qT (S0 ++ T) m t l := Or.inl ⟨vt, htx⟩
    have hA : 0 ≤ l.getD j 0 ∧ l.getD j 0 ≤ 127 := (qT_ok hqt).1 (l.getD j 0) (by rw [List.getD_eq_getElem?_getD, List.getElem?_eq_getElem (show j < l.length by omega)]; exact List.getElem_mem _)
    obtain ⟨c1, c2⟩ := n32_ix hA
    refine qL_at km180 k180_1 ?_
    iterate 2 refine qB_one rfl rfl ?_
    refine qB_iv km391 (Nat.le_of_ble_eq_true rfl) (qrecvT hqt hSN) (Nat.le_of_ble_eq_true rfl) (Nat.le_of_ble_eq_true rfl) (qc391 hqt hSN) ?_
    rintro v1 σ1 ⟨rfl, rfl⟩
    refine ⟨Or.inl rfl, ?_⟩
    refine qB_icF (fun z => ?_) ?_
    · have := (n32_le (a := l.length) (b := j) (by omega) (by omega)).mp z
      omega
    refine qB_gow (qL_at km180 k180_2 ?_)
    show qB K (d + 10) 180 1 _ [(0, .ref 0), (1, .ref mm), (3, .ref t), (4, .int (n32 j))] [] _ _
    iterate 4 refine qB_one rfl rfl ?_
    refine qB_iv km392 (Nat.le_of_ble_eq_true rfl) (qrecvT hqt hSN) (Nat.le_of_ble_eq_true rfl) (Nat.le_of_ble_eq_true rfl) (qc392 (Or.inl htx) hSN (i := j) (by omega)) ?_
    rintro v1 σ1 ⟨rfl, rfl⟩
    refine ⟨Or.inl rfl, ?_⟩
    have h174 := qc174 (K := K) (d := d + 5) (e := e) (w := w) (m := m) (c := ix (l.getD j 0)) hmm hS hT hp (by omega) (by omega)
    rw [c2] at h174
    refine qB_is km174 (Nat.le_of_ble_eq_true rfl) rfl (Nat.le_of_ble_eq_true rfl) (Nat.le_of_ble_eq_true rfl) (h174) ?_
    rintro v1 σ1 ⟨rfl, m1, q1, rfl, g1, g2⟩
    refine ⟨Or.inl rfl, ?_⟩
    refine qB_one (ls' := [(4, .int (n32 (j + 1))), (0, .ref 0), (1, .ref mm), (3, .ref t)]) (st' := []) rfl (by rw [← n32_add]; rfl) ?_
    have htx1 : qTm (S0 ++ T) m1 t vt l := htx.mv (qS_m (E := fun b => b = mm ∨ b = 2 ∨ b = 3) (m' := m1) (fun b hb => funext fun k => g2 b k (fun q => hb (Or.inl q)) (fun q => hb (Or.inr (Or.inl q.1))) (fun q => hb (Or.inr (Or.inr q))))) (by omega) (by omega)
    have hlen : (B ++ [ix (l.getD j 0)]).length = j + 1 := by rw [List.length_append, hB]; rfl
    refine qB_go (qL_ls km180 k180_1 (ih (j + 1) m1 (B ++ [ix (l.getD j 0)]) q1 (by omega) hlen (fun k hk' => ?_) g1 htx1 (fun m' B' q' z1 z2 z3 z4 => cont m' B' q' z1 z2 z3 (qPF.tr g2 z4))) rfl)
    by_cases hkj : k < j
    · rw [getD_app (by omega)]; exact hk k hkj
    · have : k = B.length := by omega
      rw [this, getD_last, hB, c2]
/-- says: the march's text comes to load -/
theorem qc180 {T : List XC} {m : XM} {a b L nb ns np mm : Nat} {ws : List (Option Nat)} {wd : Nat → List Int32} {q : PG × TK} {g0 : PG} (hV : qMV (S0 ++ T) m a b L nb ns np nb ns np ws) (hW : qWd (S0 ++ T) m b L ws ns wd) (hG : qG (S0 ++ T)) (hN : (S0 ++ T).length + 100 < 800000) (hmm : 283 ≤ mm) (hS : (S0 ++ T)[mm]? = some (20, 7, []))
    (h0 : PS0 g0 0) (hP0 : qPK m mm [] 0) (hlen : (qtext m b nb np ns wd).length ≤ 600) (hp : parF (fun i => ix ((qtext m b nb np ns wd).getD i 0)) (qtext m b nb np ns wd).length g0 = Sum.inr q) :
    qM K (d + 10) 180 [.ref 0, .ref mm, .ref a] (S0 ++ T, e, w, m) (fun r σ' => r = some (.int (q.1 6)) ∧ ∃ T' m0' m', σ' = (S0 ++ (T ++ T'), e, w, m') ∧ (∀ x, x < 283 → m' x = m0' x) ∧ (∀ x, 283 ≤ x → x < (S0 ++ T).length → x ≠ mm → m' x = m x) ∧ qCL m0' q.1 ∧ qG (S0 ++ (T ++ T')) ∧ T'.length ≤ 90 ∧ qsum (S0 ++ (T ++ T')) ≤ qsum (S0 ++ T) + 90000) := by
  have hms := hV.1
  have hal := ap_lt hms.1
  have hml := ap_lt hS
  have hbl : (S0 ++ T).length = 283 + T.length := by rw [List.length_append, S0_len]
  have hxl : ∀ x, x = 0 ∨ x = mm ∨ x = a → xok (S0 ++ T).length (Value.ref x) = true := fun x hx => xokR (by omega)
  refine qL_at km180 k180_0 ?_
  iterate 1 refine qB_one rfl rfl ?_
  refine qB_is km179 (Nat.le_of_ble_eq_true rfl) rfl (Nat.le_of_ble_eq_true rfl) (Nat.le_of_ble_eq_true rfl) (qc179 hV hW hG hN) ?_
  rintro v1 σ1 ⟨t, vt, S', m1, rfl, rfl, htx, ht1, ht2, hq, hG1⟩
  refine ⟨Or.inr ⟨by show (xok (S0 ++ T).length (Value.ref 0) && (xok (S0 ++ T).length (Value.ref mm) && (xok (S0 ++ T).length (Value.ref a) && true))) = true; rw [hxl 0 (Or.inl rfl), hxl mm (Or.inr (Or.inl rfl)), hxl a (Or.inr (Or.inr rfl))]; rfl, rfl⟩, ?_⟩
  obtain ⟨T', rfl⟩ := qS_split hq
  have hTl : T'.length ≤ 90 := by have := hq.2.1; rw [List.length_append] at this; omega
  have hmS : ∀ x, x < (S0 ++ T).length → m1 x = m x := fun x hx => (hq.2.2.2.2 x hx (fun q => q)).2
  rw [List.append_assoc] at *
  have hS1 : (S0 ++ (T ++ T'))[mm]? = some (20, 7, []) := by rw [← List.append_assoc]; exact ap_in hS
  have hT1 : 283 + (T ++ T').length ≤ 1000000 := by rw [List.length_append]; omega
  have hP1 : qPK m1 mm [] 0 := by
    obtain ⟨z1, z2, z3, z4, z5, z6, z7, z8⟩ := hP0
    exact ⟨z1, z2, by rw [hmS mm hml]; exact z3, by rw [hmS mm hml]; exact z4, by rw [hmS 2 (by omega)]; exact z5, fun i hi => absurd hi (by omega), fun j hj => absurd hj (Nat.not_lt_zero _), z8⟩
  have hSN : (S0 ++ (T ++ T')).length ≤ 1000000 := by rw [List.length_append, S0_len]; exact hT1
  iterate 3 refine qB_one rfl rfl ?_
  refine qB_gow (qL_ls km180 k180_1 (qw180 (d := d) (l := qtext m b nb np ns wd) hmm hS1 hT1 ⟨by omega, by omega⟩ ⟨by omega, by omega⟩ (by omega) _ 0 m1 [] 0 (Nat.zero_add _) rfl (fun k hk => absurd hk (Nat.not_lt_zero _)) hP1 htx ?_) rfl)
  intro m2 B q2 y1 y2 y3 y4
  refine qL_at km180 k180_3 ?_
  iterate 3 refine qB_one rfl rfl ?_
  refine qB_is km176 (Nat.le_of_ble_eq_true rfl) rfl (Nat.le_of_ble_eq_true rfl) (Nat.le_of_ble_eq_true rfl) (qc176 (d := d + 4) hmm hS1 hT1 y3 (by have := y3.1; omega)) ?_
  rintro v1 σ1 ⟨rfl, m3, L3, rfl, u1, u2, u3, u4, u5⟩
  refine ⟨Or.inl rfl, ?_⟩
  have hc0 : (S0 ++ (T ++ T'))[0]? = some (10, xnf.getD 10 0, (S0.getD 0 (0, 0, [])).2.2) := ap_in (by decide +kernel)
  have hb : ∀ i, i < B.length → (fun i => ix ((qtext m b nb np ns wd).getD i 0)) i < 256 ∧ m3 3 i = n32 ((fun i => ix ((qtext m b nb np ns wd).getD i 0)) i) := fun i hi => by
    have hA := (qT_ok (Or.inl ⟨vt, htx⟩ : qT _ _ t _)).1 ((qtext m b nb np ns wd).getD i 0) (by rw [List.getD_eq_getElem?_getD, List.getElem?_eq_getElem (show i < (qtext m b nb np ns wd).length by omega)]; exact List.getElem_mem _)
    obtain ⟨c1, c2⟩ := n32_ix hA
    refine ⟨by show ix _ < 256; omega, ?_⟩
    show m3 3 i = n32 (ix _)
    rw [c2, u4 i hi, y2 i (by omega)]
  refine qB_iv km92 (Nat.le_of_ble_eq_true rfl) (qrecv hc0 (by decide)) (Nat.le_of_ble_eq_true rfl) (Nat.le_of_ble_eq_true rfl) (qc92 (d := d) (n := B.length) h0 u3 u1 u2 hb (by rw [y1]; exact hp) hT1) ?_
  rintro v1 σ1 ⟨rfl, m0', m4, rfl, w1, w2, w3⟩
  refine ⟨Or.inl rfl, ?_⟩
  refine qB_iret rfl ⟨rfl, T', m0', m4, rfl, w1, fun x hx1 hx2 hx3 => ?_, w3, hG1, hTl, ?_⟩
  · rw [w2 x hx1]
    funext k
    rw [u5 x k hx3 (by omega) (by omega), y4 x k hx3 (by omega) (by omega), hmS x hx2]
  · have := hq.2.2.1
    omega
end ZC4
