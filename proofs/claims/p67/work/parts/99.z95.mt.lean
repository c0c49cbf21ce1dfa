/-! The march's text. -/
/-- a builder at work: since the start (T, mT) only new cells have changed, at most c of them -/
def qTB (T : List XC) (mT : XM) (S : List XC) (m : XM) (p v cap : Nat) (l : List Int32) (c : Nat) : Prop := qSB S m p v cap l ∧ qG S ∧ T.length ≤ p ∧ T.length ≤ v ∧ qS T mT S m (fun _ => False) c
theorem qTB.ap {T : List XC} {mT : XM} {S : List XC} {m : XM} {p v cap c : Nat} {l l' : List Int32} {e : Nat} {w : Nat → Value} {r : Option Value} {σ' : XS} (h : qTB T mT S m p v cap l c) (ha : qAP S m e w p v l' 1 r σ') : r = some (.ref p) ∧ ∃ S' m' v' cap', σ' = (S', e, w, m') ∧ qTB T mT S' m' p v' cap' l' (c + 1) ∧ S.length ≤ S'.length := by
  obtain ⟨h1, h2, h3, h4, h5⟩ := h
  obtain ⟨rfl, S', m', v', cap', rfl, g1, g2, g3⟩ := ha
  have hl := h5.1
  refine ⟨rfl, S', m', v', cap', rfl, ⟨g1, g2.2.2.2.1 h2, h3, ?_, h5.tr g2 (fun _ _ q => q) (fun b hb q => by omega) (Nat.le_refl _)⟩, g2.1⟩
  rcases g3 with q | q
  · rw [q]; exact h4
  · omega
section QMT
variable {K : XK} {d : Nat} {e : Nat} {w : Nat → Value} {Q : Option Value → XS → Prop} {T : List XC} {mT : XM}
theorem q_apC {S : List XC} {m : XM} {p v cap c y rt : Nat} {l : List Int32} {ch : Int32} {is : List Instr} {ls : XL} (h : qTB T mT S m p v cap l c) (hN : T.length + c < 900000) (hn : l.length + 1 ≤ 400) (hc : 0 ≤ ch ∧ ch ≤ 127) (hls : ∀ n, T.length ≤ n → p < n → (ls.all fun q => xok n q.2) = true)
    (k : ∀ S' m' v' cap', qTB T mT S' m' p v' cap' (l ++ [ch]) (c + 1) → qB K (d + 6) y rt is ls [.ref p] (S', e, w, m') Q) : qB K (d + 6) y rt (.invokevirtual 191 :: is) ls [.int ch, .ref p] (S, e, w, m) Q := by
  have h5 := h.2.2.2.2
  have hl := h5.1
  have hl2 := h5.2.1
  refine qB_iv km191 (Nat.le_of_ble_eq_true rfl) (qrecv h.1.1 (by decide)) (Nat.le_of_ble_eq_true rfl) (Nat.le_of_ble_eq_true rfl) (qc191 h.1 h.2.1 (by omega) hn hc) ?_
  intro v1 σ1 ha
  obtain ⟨rfl, S', m', v', cap', rfl, g1, g2⟩ := h.ap ha
  exact ⟨Or.inr ⟨hls _ hl (ap_lt h.1.1), rfl⟩, k S' m' v' cap' g1⟩
theorem q_apI {S : List XC} {m : XM} {p v cap c y rt n : Nat} {l : List Int32} {x : Int32} {is : List Instr} {ls : XL} (h : qTB T mT S m p v cap l c) (hN : T.length + c < 900000) (hn : l.length + 2 ≤ 400) (hx : x = n32 n) (hc : n < 100) (hls : ∀ n, T.length ≤ n → p < n → (ls.all fun q => xok n q.2) = true)
    (k : ∀ S' m' v' cap', qTB T mT S' m' p v' cap' (l ++ qdg n) (c + 1) → qB K (d + 6) y rt is ls [.ref p] (S', e, w, m') Q) : qB K (d + 6) y rt (.invokevirtual 192 :: is) ls [.int x, .ref p] (S, e, w, m) Q := by
  subst hx
  have h5 := h.2.2.2.2
  have hl := h5.1
  have hl2 := h5.2.1
  refine qB_iv km192 (Nat.le_of_ble_eq_true rfl) (qrecv h.1.1 (by decide)) (Nat.le_of_ble_eq_true rfl) (Nat.le_of_ble_eq_true rfl) (qc192 h.1 h.2.1 (by omega) hn hc) ?_
  intro v1 σ1 ha
  obtain ⟨rfl, S', m', v', cap', rfl, g1, g2⟩ := h.ap ha
  exact ⟨Or.inr ⟨hls _ hl (ap_lt h.1.1), rfl⟩, k S' m' v' cap' g1⟩
theorem q_apS {S : List XC} {m : XM} {p v cap c y rt t vt : Nat} {l l2 : List Int32} {is : List Instr} {ls : XL} (h : qTB T mT S m p v cap l c) (hN : T.length + c < 900000) (ht : qTv T mT t vt l2) (hn : l.length + l2.length ≤ 400) (hls : ∀ n, T.length ≤ n → p < n → (ls.all fun q => xok n q.2) = true)
    (k : ∀ S' m' v' cap', qTB T mT S' m' p v' cap' (l ++ l2) (c + 1) → qB K (d + 6) y rt is ls [.ref p] (S', e, w, m') Q) : qB K (d + 6) y rt (.invokevirtual 193 :: is) ls [.ref t, .ref p] (S, e, w, m) Q := by
  have h5 := h.2.2.2.2
  have hl := h5.1
  have hl2 := h5.2.1
  have ht2 := ht.mv h5 (fun q => q) (fun q => q)
  have hvl := ht.len.2
  have hpl := ap_lt h.1.1
  have hvl2 := ap_lt h.1.2.1
  have h3 := h.2.2.1
  have h4 := h.2.2.2.1
  refine qB_iv km193 (Nat.le_of_ble_eq_true rfl) (qrecv h.1.1 (by decide)) (Nat.le_of_ble_eq_true rfl) (Nat.le_of_ble_eq_true rfl) (qc193 h.1 ht2 h.2.1 (by omega) (by omega) (by omega) (by omega) hn) ?_
  intro v1 σ1 ha
  obtain ⟨rfl, S', m', v', cap', rfl, g1, g2⟩ := h.ap ha
  exact ⟨Or.inr ⟨hls _ hl hpl, rfl⟩, k S' m' v' cap' g1⟩
/-- the text's pieces -/
def qt12 : List Int32 := xstr.getD 12 []
def qt13 : List Int32 := xstr.getD 13 []
def qt14 : List Int32 := xstr.getD 14 []
def qt15 : List Int32 := xstr.getD 15 []
def qt16 : List Int32 := xstr.getD 16 []
def qt17 : List Int32 := xstr.getD 17 []
def qTset (m : XM) (b : Nat) : Nat → List Int32
  | 0 => qt12
  | i + 1 => qTset m b i ++ [n32 32] ++ qdg (ix (m b i))
def qTbea (m : XM) (b : Nat) (l0 : List Int32) : Nat → List Int32
  | 0 => l0
  | i + 1 => qTbea m b l0 i ++ qt13 ++ [n32 (96 + ix (m (b + 2) i))] ++ [n32 32] ++ qdg (ix (m (b + 4) i)) ++ [n32 32] ++ qdg (ix (m (b + 5) i))
def qTpla (m : XM) (b : Nat) (l0 : List Int32) : Nat → List Int32
  | 0 => l0
  | i + 1 => qTpla m b l0 i ++ qt14 ++ qdg (ix (m (b + 11) i)) ++ [n32 32] ++ qdg (ix (m (b + 12) i))
def qTsta (m : XM) (b : Nat) (wd : Nat → List Int32) (l0 : List Int32) : Nat → List Int32
  | 0 => l0
  | i + 1 => qTsta m b wd l0 i ++ qt15 ++ (if m (b + 8) i = 0 then qt16 else qt17) ++ qdg (ix (m (b + 9) i)) ++ [n32 32] ++ wd i
theorem qdg_le {k : Nat} : (qdg k).length ≤ 2 := by
  rw [qdg_len]; split <;> omega
theorem qTset_len (m : XM) (b : Nat) : ∀ i, (qTset m b i).length ≤ 6 + 3 * i := by
  intro i
  induction i with
  | zero => exact Nat.le_of_ble_eq_true rfl
  | succ i ih =>
    have := qdg_le (k := ix (m b i))
    show (qTset m b i ++ [n32 32] ++ qdg (ix (m b i))).length ≤ _
    simp only [List.length_append, List.length_singleton]; omega
theorem qTbea_len (m : XM) (b : Nat) (l0 : List Int32) : ∀ i, (qTbea m b l0 i).length ≤ l0.length + 15 * i := by
  intro i
  induction i with
  | zero => exact Nat.le_refl _
  | succ i ih =>
    have h1 := qdg_le (k := ix (m (b + 4) i))
    have h2 := qdg_le (k := ix (m (b + 5) i))
    have h3 : qt13.length = 8 := rfl
    show (qTbea m b l0 i ++ qt13 ++ [n32 (96 + ix (m (b + 2) i))] ++ [n32 32] ++ qdg (ix (m (b + 4) i)) ++ [n32 32] ++ qdg (ix (m (b + 5) i))).length ≤ _
    simp only [List.length_append, List.length_singleton, h3]; omega
theorem qTpla_len (m : XM) (b : Nat) (l0 : List Int32) : ∀ i, (qTpla m b l0 i).length ≤ l0.length + 11 * i := by
  intro i
  induction i with
  | zero => exact Nat.le_refl _
  | succ i ih =>
    have h1 := qdg_le (k := ix (m (b + 11) i))
    have h2 := qdg_le (k := ix (m (b + 12) i))
    have h3 : qt14.length = 6 := rfl
    show (qTpla m b l0 i ++ qt14 ++ qdg (ix (m (b + 11) i)) ++ [n32 32] ++ qdg (ix (m (b + 12) i))).length ≤ _
    simp only [List.length_append, List.length_singleton, h3]; omega
theorem qTc_at {t j : Nat} {l : List Int32} (ht : t = 1000010 + j) (hj : j < 18) (h : xstr[j]? = some l) : qTv T mT t (t + 30) l := by
  subst ht
  exact Or.inr ⟨⟨by omega, by omega, by rw [Nat.add_sub_cancel_left]; exact h⟩, rfl⟩
theorem qNum_ix {m : XM} {A i lo hi : Nat} (h : qNum m A i lo hi) (hh : hi < 2147483648) : m A i = n32 (ix (m A i)) ∧ lo ≤ ix (m A i) ∧ ix (m A i) ≤ hi := by
  obtain ⟨k, h1, h2, h3⟩ := h
  rw [h3, ix_n32 (by omega)]
  exact ⟨rfl, h1, h2⟩
/-- the settings -/
theorem qw179_1 {a b L nb ns np p : Nat} {ws : List (Option Nat)} (hV : qMV T mT a b L nb ns np nb ns np ws) (hN : T.length + 100 < 900000) : ∀ (i j : Nat) (S : List XC) (m : XM) (v cap c : Nat), j + i = 6 → c + 2 * i ≤ 20 → qTB T mT S m p v cap (qTset mT b j) c →
    (∀ (S' : List XC) (m' : XM) (v' cap' : Nat), qTB T mT S' m' p v' cap' (qTset mT b 6) (c + 2 * i) → qL K (d + 6) 179 3 [(0, .ref a), (1, .ref p)] [] (S', e, w, m') Q) →
    qL K (d + 6) 179 1 [(0, .ref a), (1, .ref p), (2, .ref b), (3, .int (n32 6)), (4, .int (n32 j))] [] (S, e, w, m) Q := by
  intro i
  induction i with
  | zero =>
    intro j S m v cap c hj hc h cont
    have hj' : j = 6 := by omega
    subst hj'
    refine qL_at km179 k179_1 ?_
    iterate 2 refine qB_one rfl rfl ?_
    refine qB_icT (Int32.le_refl _) ?_
    exact qL_ls km179 k179_3 (cont S m v cap h) rfl
  | succ i ih =>
    intro j S m v cap c hj hc h cont
    have hq := h.2.2.2.2
    have hms := hV.1
    have hbl := hms.2.2.2.2.1
    have hab := hms.2.2.2.2.2
    have hb : S[b]? = some (20, 6, []) := ((hq.2.2.2.2 b (by omega) (fun q => q)).1).trans (hms.2.1 0 (by omega))
    have hmb : m b = mT b := (hq.2.2.2.2 b (by omega) (fun q => q)).2
    obtain ⟨e1, e2, e3⟩ := qNum_ix (hV.2.1 j (by omega)) (by
      have H : ∀ j, j < 6 → qhi.getD j 0 < 64 := by decide +kernel
      have := H j (by omega)
      omega)
    have e4 : ix (mT b j) < 100 := by
      have H : ∀ j, j < 6 → qhi.getD j 0 < 64 := by decide +kernel
      have := H j (by omega)
      omega
    have hlen := qTset_len mT b j
    refine qL_at km179 k179_1 ?_
    iterate 2 refine qB_one rfl rfl ?_
    refine qB_icF (fun q => ?_) ?_
    · have := (n32_le (a := 6) (b := j) (by omega) (by omega)).mp q
      omega
    refine qB_gow (qL_at km179 k179_2 ?_)
    show qB K (d + 6) 179 8 _ [(0, .ref a), (1, .ref p), (2, .ref b), (3, .int (n32 6)), (4, .int (n32 j))] [] _ _
    iterate 2 refine qB_one rfl rfl ?_
    refine q_ialV (i := j) hb (by omega) (by omega) (v := n32 (ix (mT b j))) (by rw [hmb]; exact e1) ?_
    iterate 3 refine qB_one rfl rfl ?_
    have hls : ∀ n, T.length ≤ n → p < n → (([(5, .int (n32 (ix (mT b j)))), (0, .ref a), (1, .ref p), (2, .ref b), (3, .int (n32 6)), (4, .int (n32 j))] : XL).all fun q => xok n q.2) = true := fun n h1 h2 => by
      show (true && (xok n (Value.ref a) && (xok n (Value.ref p) && (xok n (Value.ref b) && (true && (true && true)))))) = true
      rw [xokR (show a < n by omega), xokR h2, xokR (show b < n by omega)]; rfl
    refine q_apC h (by omega) (by omega) (ch := n32 32) ⟨by decide, by decide⟩ hls (fun S1 m1 v1 cap1 h1 => ?_)
    iterate 1 refine qB_one rfl rfl ?_
    refine q_apI h1 (by omega) (by rw [List.length_append]; simp only [List.length_singleton]; omega) rfl e4 hls (fun S2 m2 v2 cap2 h2 => ?_)
    iterate 1 refine qB_one rfl rfl ?_
    refine qB_one (ls' := [(4, .int (n32 (j + 1))), (5, .int (n32 (ix (mT b j)))), (0, .ref a), (1, .ref p), (2, .ref b), (3, .int (n32 6))]) (st' := []) rfl (by rw [← n32_add]; rfl) ?_
    refine qB_go (qL_ls km179 k179_1 (ih (j + 1) S2 m2 v2 cap2 (c + 1 + 1) (by omega) (by omega) h2 (fun S' m' v' cap' h' => cont S' m' v' cap' ?_)) rfl)
    rw [show c + 2 * (i + 1) = c + 1 + 1 + 2 * i by omega]; exact h'
/-- the bearers -/
theorem qw179_4 {a b L nb ns np p : Nat} {l0 : List Int32} {ws : List (Option Nat)} (hV : qMV T mT a b L nb ns np nb ns np ws) (hN : T.length + 100 < 900000) (hl0 : l0.length ≤ 30) : ∀ (i j : Nat) (S : List XC) (m : XM) (v cap c : Nat), j + i = nb → c + 6 * i ≤ 60 → qTB T mT S m p v cap (qTbea mT b l0 j) c →
    (∀ (S' : List XC) (m' : XM) (v' cap' : Nat), qTB T mT S' m' p v' cap' (qTbea mT b l0 nb) (c + 6 * i) → qL K (d + 6) 179 6 [(0, .ref a), (1, .ref p)] [] (S', e, w, m') Q) →
    qL K (d + 6) 179 4 [(0, .ref a), (1, .ref p), (2, .int (n32 j))] [] (S, e, w, m) Q := by
  intro i
  have hnb := hV.2.2.1
  induction i with
  | zero =>
    intro j S m v cap c hj hc h cont
    have hj' : j = nb := by omega
    subst hj'
    have hq := h.2.2.2.2
    have hms := hV.1
    have hbl := hms.2.2.2.2.1
    have hab := hms.2.2.2.2.2
    have hma := hq.2.2.2.2 a (by omega) (fun q => q)
    refine qL_at km179 k179_4 ?_
    iterate 2 refine qB_one rfl rfl ?_
    refine q_getV (hma.1.trans hms.1) (v := n32 j) (by rw [hma.2]; exact hnb.1) rfl ?_
    refine qB_icT (Int32.le_refl _) ?_
    exact qL_ls km179 k179_6 (cont S m v cap h) rfl
  | succ i ih =>
    intro j S m v cap c hj hc h cont
    have hq := h.2.2.2.2
    have hms := hV.1
    have hbl := hms.2.2.2.2.1
    have hab := hms.2.2.2.2.2
    have hma := hq.2.2.2.2 a (by omega) (fun q => q)
    obtain ⟨b2, b4, b5⟩ := hV.2.2.2.2.2.1 j (by omega)
    obtain ⟨u1, u2, u3⟩ := qNum_ix b2 (by omega)
    obtain ⟨f1, f2, f3⟩ := qNum_ix b4 (by omega)
    obtain ⟨w1, w2, w3⟩ := qNum_ix b5 (by omega)
    have hlen := qTbea_len mT b l0 j
    have h13 : qt13.length = 8 := rfl
    have hd4 := qdg_le (k := ix (mT (b + 4) j))
    have arr : ∀ k, k < 14 → ∀ {S1 : List XC} {m1 : XM} {v1 cap1 c1 : Nat} {l1 : List Int32}, qTB T mT S1 m1 p v1 cap1 l1 c1 → S1[b + k]? = some (20, qmn.getD k 0, []) ∧ m1 (b + k) = mT (b + k) ∧ S1[a]? = some (11, 24, (List.range 16).map (fun i => some (b + i)) ++ List.replicate 8 none) := fun k hk S1 m1 v1 cap1 c1 l1 h1 => by
      have q1 := h1.2.2.2.2
      obtain ⟨z1, z2⟩ := q1.2.2.2.2 (b + k) (by omega) (fun q => q)
      exact ⟨z1.trans (hms.2.1 k hk), z2, ((q1.2.2.2.2 a (by omega) (fun q => q)).1).trans hms.1⟩
    have hls : ∀ n, T.length ≤ n → p < n → (([(0, .ref a), (1, .ref p), (2, .int (n32 j))] : XL).all fun q => xok n q.2) = true := fun n h1 h2 => by
      show (xok n (Value.ref a) && (xok n (Value.ref p) && (true && true))) = true
      rw [xokR (show a < n by omega), xokR h2]; rfl
    refine qL_at km179 k179_4 ?_
    iterate 2 refine qB_one rfl rfl ?_
    refine q_getV (hma.1.trans hms.1) (v := n32 nb) (by rw [hma.2]; exact hnb.1) rfl ?_
    refine qB_icF (fun q => ?_) ?_
    · have := (n32_le (a := nb) (b := j) (by omega) (by omega)).mp q
      omega
    refine qB_gow (qL_at km179 k179_5 ?_)
    show qB K (d + 6) 179 8 _ [(0, .ref a), (1, .ref p), (2, .int (n32 j))] [] _ _
    iterate 2 refine qB_one rfl rfl ?_
    refine q_apS h (by omega) (qTc_at (j := 13) (l := qt13) rfl (by omega) rfl) (by omega) hls (fun S1 m1 v1 cap1 h1 => ?_)
    iterate 2 refine qB_one rfl rfl ?_
    refine q_getR (arr 2 (by omega) h1).2.2 (qM_at hms (i := 2) (by omega)) rfl ?_
    iterate 1 refine qB_one rfl rfl ?_
    refine q_ialV (i := j) (arr 2 (by omega) h1).1 (by show j < 12; omega) (by show (12 : Nat) ≤ 100000; omega) (v := n32 (ix (mT (b + 2) j))) (by rw [(arr 2 (by omega) h1).2.1]; exact u1) ?_
    refine q_add (a := 96) (b := ix (mT (b + 2) j)) ?_
    refine qB_one (ls' := [(0, .ref a), (1, .ref p), (2, .int (n32 j))]) (st' := [.int (n32 (96 + ix (mT (b + 2) j))), .ref p]) (σ1 := (S1, e, w, m1)) rfl ?_ ?_
    · show some (_, [Value.int ((n32 (96 + ix (mT (b + 2) j))).toUInt32 % 65536).toInt32, _], _) = _
      rw [i2c_ok2 ⟨(n32_le (a := 0) (by omega) (by omega)).mpr (Nat.zero_le _), (n32_le (b := 127) (by omega) (by omega)).mpr (by omega)⟩]
    refine q_apC h1 (by omega) (by rw [List.length_append]; omega) (ch := n32 (96 + ix (mT (b + 2) j))) ⟨(n32_le (a := 0) (by omega) (by omega)).mpr (Nat.zero_le _), (n32_le (b := 127) (by omega) (by omega)).mpr (by omega)⟩ hls (fun S2 m2 v2 cap2 h2 => ?_)
    iterate 1 refine qB_one rfl rfl ?_
    refine q_apC h2 (by omega) (by simp only [List.length_append, List.length_singleton]; omega) (ch := n32 32) ⟨by decide, by decide⟩ hls (fun S3 m3 v3 cap3 h3 => ?_)
    iterate 1 refine qB_one rfl rfl ?_
    refine q_getR (arr 4 (by omega) h3).2.2 (qM_at hms (i := 4) (by omega)) rfl ?_
    iterate 1 refine qB_one rfl rfl ?_
    refine q_ialV (i := j) (arr 4 (by omega) h3).1 (by show j < 12; omega) (by show (12 : Nat) ≤ 100000; omega) (v := n32 (ix (mT (b + 4) j))) (by rw [(arr 4 (by omega) h3).2.1]; exact f1) ?_
    refine q_apI h3 (by omega) (by simp only [List.length_append, List.length_singleton]; omega) rfl (by omega) hls (fun S4 m4 v4 cap4 h4 => ?_)
    iterate 1 refine qB_one rfl rfl ?_
    refine q_apC h4 (by omega) (by simp only [List.length_append, List.length_singleton]; omega) (ch := n32 32) ⟨by decide, by decide⟩ hls (fun S5 m5 v5 cap5 h5 => ?_)
    iterate 1 refine qB_one rfl rfl ?_
    refine q_getR (arr 5 (by omega) h5).2.2 (qM_at hms (i := 5) (by omega)) rfl ?_
    iterate 1 refine qB_one rfl rfl ?_
    refine q_ialV (i := j) (arr 5 (by omega) h5).1 (by show j < 12; omega) (by show (12 : Nat) ≤ 100000; omega) (v := n32 (ix (mT (b + 5) j))) (by rw [(arr 5 (by omega) h5).2.1]; exact w1) ?_
    refine q_apI h5 (by omega) (by simp only [List.length_append, List.length_singleton]; omega) rfl (by omega) hls (fun S6 m6 v6 cap6 h6 => ?_)
    iterate 1 refine qB_one rfl rfl ?_
    refine qB_one (ls' := [(2, .int (n32 (j + 1))), (0, .ref a), (1, .ref p)]) (st' := []) rfl (by rw [← n32_add]; rfl) ?_
    refine qB_go (qL_ls km179 k179_4 (ih (j + 1) S6 m6 v6 cap6 (c + 1 + 1 + 1 + 1 + 1 + 1) (by omega) (by omega) h6 (fun S' m' v' cap' h' => cont S' m' v' cap' ?_)) rfl)
    rw [show c + 6 * (i + 1) = c + 1 + 1 + 1 + 1 + 1 + 1 + 6 * i by omega]; exact h'
/-- the plans -/
theorem qw179_7 {a b L nb ns np p : Nat} {l0 : List Int32} {ws : List (Option Nat)} (hV : qMV T mT a b L nb ns np nb ns np ws) (hN : T.length + 100 < 900000) (hl0 : l0.length ≤ 110) : ∀ (i j : Nat) (S : List XC) (m : XM) (v cap c : Nat), j + i = np → c + 4 * i ≤ 70 → qTB T mT S m p v cap (qTpla mT b l0 j) c →
    (∀ (S' : List XC) (m' : XM) (v' cap' : Nat), qTB T mT S' m' p v' cap' (qTpla mT b l0 np) (c + 4 * i) → qL K (d + 6) 179 9 [(0, .ref a), (1, .ref p)] [] (S', e, w, m') Q) →
    qL K (d + 6) 179 7 [(0, .ref a), (1, .ref p), (2, .int (n32 j))] [] (S, e, w, m) Q := by
  intro i
  have hnb := hV.2.2.1
  have hnp := hV.2.2.2.2.1
  induction i with
  | zero =>
    intro j S m v cap c hj hc h cont
    have hj' : j = np := by omega
    subst hj'
    have hq := h.2.2.2.2
    have hms := hV.1
    have hbl := hms.2.2.2.2.1
    have hab := hms.2.2.2.2.2
    have hma := hq.2.2.2.2 a (by omega) (fun q => q)
    refine qL_at km179 k179_7 ?_
    iterate 2 refine qB_one rfl rfl ?_
    refine q_getV (hma.1.trans hms.1) (v := n32 j) (by rw [hma.2]; exact hnp.1) rfl ?_
    refine qB_icT (Int32.le_refl _) ?_
    exact qL_ls km179 k179_9 (cont S m v cap h) rfl
  | succ i ih =>
    intro j S m v cap c hj hc h cont
    have hq := h.2.2.2.2
    have hms := hV.1
    have hbl := hms.2.2.2.2.1
    have hab := hms.2.2.2.2.2
    have hma := hq.2.2.2.2 a (by omega) (fun q => q)
    obtain ⟨b2, b4⟩ := hV.2.2.2.2.2.2.2 j (by omega)
    obtain ⟨u1, u2, u3⟩ := qNum_ix b2 (by omega)
    obtain ⟨f1, f2, f3⟩ := qNum_ix b4 (by omega)
    have hlen := qTpla_len mT b l0 j
    have h14 : qt14.length = 6 := rfl
    have hd4 := qdg_le (k := ix (mT (b + 11) j))
    have arr : ∀ k, k < 14 → ∀ {S1 : List XC} {m1 : XM} {v1 cap1 c1 : Nat} {l1 : List Int32}, qTB T mT S1 m1 p v1 cap1 l1 c1 → S1[b + k]? = some (20, qmn.getD k 0, []) ∧ m1 (b + k) = mT (b + k) ∧ S1[a]? = some (11, 24, (List.range 16).map (fun i => some (b + i)) ++ List.replicate 8 none) := fun k hk S1 m1 v1 cap1 c1 l1 h1 => by
      have q1 := h1.2.2.2.2
      obtain ⟨z1, z2⟩ := q1.2.2.2.2 (b + k) (by omega) (fun q => q)
      exact ⟨z1.trans (hms.2.1 k hk), z2, ((q1.2.2.2.2 a (by omega) (fun q => q)).1).trans hms.1⟩
    have hls : ∀ n, T.length ≤ n → p < n → (([(0, .ref a), (1, .ref p), (2, .int (n32 j))] : XL).all fun q => xok n q.2) = true := fun n h1 h2 => by
      show (xok n (Value.ref a) && (xok n (Value.ref p) && (true && true))) = true
      rw [xokR (show a < n by omega), xokR h2]; rfl
    refine qL_at km179 k179_7 ?_
    iterate 2 refine qB_one rfl rfl ?_
    refine q_getV (hma.1.trans hms.1) (v := n32 np) (by rw [hma.2]; exact hnp.1) rfl ?_
    refine qB_icF (fun q => ?_) ?_
    · have := (n32_le (a := np) (b := j) (by omega) (by omega)).mp q
      omega
    refine qB_gow (qL_at km179 k179_8 ?_)
    show qB K (d + 6) 179 8 _ [(0, .ref a), (1, .ref p), (2, .int (n32 j))] [] _ _
    iterate 2 refine qB_one rfl rfl ?_
    refine q_apS h (by omega) (qTc_at (j := 14) (l := qt14) rfl (by omega) rfl) (by omega) hls (fun S1 m1 v1 cap1 h1 => ?_)
    iterate 1 refine qB_one rfl rfl ?_
    refine q_getR (arr 11 (by omega) h1).2.2 (qM_at hms (i := 11) (by omega)) rfl ?_
    iterate 1 refine qB_one rfl rfl ?_
    refine q_ialV (i := j) (arr 11 (by omega) h1).1 (by show j < 12; omega) (by show (12 : Nat) ≤ 100000; omega) (v := n32 (ix (mT (b + 11) j))) (by rw [(arr 11 (by omega) h1).2.1]; exact u1) ?_
    refine q_apI h1 (by omega) (by simp only [List.length_append, List.length_singleton]; omega) rfl (by omega) hls (fun S4 m4 v4 cap4 h4 => ?_)
    iterate 1 refine qB_one rfl rfl ?_
    refine q_apC h4 (by omega) (by simp only [List.length_append, List.length_singleton]; omega) (ch := n32 32) ⟨by decide, by decide⟩ hls (fun S5 m5 v5 cap5 h5 => ?_)
    iterate 1 refine qB_one rfl rfl ?_
    refine q_getR (arr 12 (by omega) h5).2.2 (qM_at hms (i := 12) (by omega)) rfl ?_
    iterate 1 refine qB_one rfl rfl ?_
    refine q_ialV (i := j) (arr 12 (by omega) h5).1 (by show j < 12; omega) (by show (12 : Nat) ≤ 100000; omega) (v := n32 (ix (mT (b + 12) j))) (by rw [(arr 12 (by omega) h5).2.1]; exact f1) ?_
    refine q_apI h5 (by omega) (by simp only [List.length_append, List.length_singleton]; omega) rfl (by omega) hls (fun S6 m6 v6 cap6 h6 => ?_)
    iterate 1 refine qB_one rfl rfl ?_
    refine qB_one (ls' := [(2, .int (n32 (j + 1))), (0, .ref a), (1, .ref p)]) (st' := []) rfl (by rw [← n32_add]; rfl) ?_
    refine qB_go (qL_ls km179 k179_7 (ih (j + 1) S6 m6 v6 cap6 (c + 1 + 1 + 1 + 1) (by omega) (by omega) h6 (fun S' m' v' cap' h' => cont S' m' v' cap' ?_)) rfl)
    rw [show c + 4 * (i + 1) = c + 1 + 1 + 1 + 1 + 4 * i by omega]; exact h'
theorem qTsta_len (m : XM) (b : Nat) (wd : Nat → List Int32) (l0 : List Int32) (hw : ∀ i, (wd i).length ≤ 4) : ∀ i, (qTsta m b wd l0 i).length ≤ l0.length + 20 * i := by
  intro i
  induction i with
  | zero => exact Nat.le_refl _
  | succ i ih =>
    have h1 := qdg_le (k := ix (m (b + 9) i))
    have h2 := hw i
    have h3 : qt15.length = 7 := rfl
    have h4 : (if m (b + 8) i = 0 then qt16 else qt17).length ≤ 6 := by
      split
      · exact Nat.le_of_ble_eq_true rfl
      · exact Nat.le_of_ble_eq_true rfl
    show (qTsta m b wd l0 i ++ qt15 ++ (if m (b + 8) i = 0 then qt16 else qt17) ++ qdg (ix (m (b + 9) i)) ++ [n32 32] ++ wd i).length ≤ _
    simp only [List.length_append, List.length_singleton, h3]; omega
/-- the words' bytes -/
def qWd (S : List XC) (m : XM) (b L : Nat) (ws : List (Option Nat)) (ns : Nat) (wd : Nat → List Int32) : Prop := (∀ i, (wd i).length ≤ 4) ∧ ∀ i, i < ns → ∃ t v, ws[i]? = some (some t) ∧ qTm S m t v (wd i) ∧ 1 ≤ (wd i).length ∧ ∀ x ∈ wd i, x = n32 97 ∨ x = n32 98
theorem qWd_of {a b L nb ns np j1 j3 : Nat} {S : List XC} {m : XM} {ws : List (Option Nat)} (h : qMV S m a b L nb ns np j1 ns j3 ws) : ∃ wd, qWd S m b L ws ns wd := by
  have H : ∀ i, ∃ l : List Int32, l.length ≤ 4 ∧ (i < ns → ∃ t v, ws[i]? = some (some t) ∧ qTm S m t v l ∧ 1 ≤ l.length ∧ ∀ x ∈ l, x = n32 97 ∨ x = n32 98) := fun i => by
    by_cases hi : i < ns
    · obtain ⟨-, -, t, v, l, w1, w2, w3, w4, w5, w6, w7, w8, w9⟩ := h.2.2.2.2.2.2.1 i hi
      exact ⟨l, w8, fun _ => ⟨t, v, w1, w2, w7, w9⟩⟩
    · exact ⟨[], Nat.zero_le _, fun q => absurd q hi⟩
  obtain ⟨f, hf⟩ := Classical.axiomOfChoice H
  exact ⟨f, fun i => (hf i).1, fun i hi => (hf i).2 hi⟩
end QMT
