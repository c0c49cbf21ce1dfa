/-! The law's isRight. -/
def ownF (g : PG) (i v : Nat) : Int32 := n32 (cnt i fun b => decide (g (15 + 7 * b + 6) = n32 v))
def thrF (g : PG) (i j v : Nat) : Int32 := n32 (cnt i (fun b => decide (¬ g (15 + 7 * b) ≤ n32 0) && decide (g (15 + 7 * b) = n32 v)) + cnt j fun k => decide (g (207 + 3 * k) = n32 v))
/-- while the cells q1 and q2 are written: the class as it was, other cells as in m0 -/
def qHI (m0 : XM) (q1 q2 : Nat) (g : PG) (u : Option PG) (sl : Nat) (z : Option PG) (B : Nat) (i i' j : Nat) (m : XM) : Prop := CLS m g u sl z B ∧ (∀ b k, CRL b → m b k = m0 b k) ∧ (∀ a, 283 ≤ a → a ≠ q1 → a ≠ q2 → m a = m0 a) ∧ (∀ v, v < 27 → m q1 v = ownF g i v) ∧ ∀ v, v < 27 → m q2 v = thrF g i' j v
theorem qHI.call {m0 m m1 : XM} {q1 q2 : Nat} {g : PG} {u z : Option PG} {sl B i i' j : Nat} (h : qHI m0 q1 q2 g u sl z B i i' j m) (hq1 : 283 ≤ q1) (hq2 : 283 ≤ q2) (c : CLS m1 g u sl z B) (f1 : ∀ b k, CRL b → m1 b k = m b k) (f2 : ∀ a, 283 ≤ a → m1 a = m a) : qHI m0 q1 q2 g u sl z B i i' j m1 :=
  ⟨c, fun b k hb => (f1 b k hb).trans (h.2.1 b k hb), fun a h1 h2 h3 => (f2 a h1).trans (h.2.2.1 a h1 h2 h3), fun v hv => by rw [f2 q1 hq1]; exact h.2.2.2.1 v hv, fun v hv => by rw [f2 q2 hq2]; exact h.2.2.2.2 v hv⟩
theorem qHI.keep {m0 m : XM} {q1 q2 : Nat} {g : PG} {u z : Option PG} {sl B q k : Nat} {v : Int32} (h : CLS m g u sl z B ∧ (∀ b k, CRL b → m b k = m0 b k) ∧ (∀ a, 283 ≤ a → a ≠ q1 → a ≠ q2 → m a = m0 a)) (hq : 283 ≤ q) (hqq : q = q1 ∨ q = q2) : CLS (um m q k v) g u sl z B ∧ (∀ b k', CRL b → um m q k v b k' = m0 b k') ∧ (∀ a, 283 ≤ a → a ≠ q1 → a ≠ q2 → um m q k v a = m0 a) := by
  have e : ∀ b k', CRL b → um m q k v b k' = m b k' := fun b k' hb => um_a (by have := hb.2; omega)
  exact ⟨CLS_fr h.1 (Nat.le_refl _) e, fun b k' hb => (e b k' hb).trans (h.2.1 b k' hb), fun a h1 h2 h3 => (um_row (by omega)).trans (h.2.2 a h1 h2 h3)⟩
theorem ownF_s {g : PG} {i x v : Nat} (hx : g (15 + 7 * i + 6) = n32 x) (h1 : x < 27) (h2 : v < 27) : ownF g (i + 1) v = if v = x then ownF g i v + n32 1 else ownF g i v := by
  unfold ownF
  rw [cnt_succ, hx]
  by_cases e : v = x
  · rw [if_pos e, decide_eq_true (by rw [e]), if_pos rfl, n32_add]
  · rw [if_neg e, decide_eq_false (fun c => e (n32_inj (by omega) (by omega) c).symm), if_neg Bool.false_ne_true]
theorem thrF_s {g : PG} {i j x v : Nat} (hx : g (15 + 7 * i) = n32 x) (hp : ¬ g (15 + 7 * i) ≤ n32 0) (h1 : x < 27) (h2 : v < 27) : thrF g (i + 1) j v = if v = x then thrF g i j v + n32 1 else thrF g i j v := by
  unfold thrF
  rw [cnt_succ, decide_eq_true hp, Bool.true_and, hx]
  by_cases e : v = x
  · rw [if_pos e, decide_eq_true (by rw [e]), if_pos rfl, n32_add]
    congr 1; omega
  · rw [if_neg e, decide_eq_false (fun c => e (n32_inj (by omega) (by omega) c).symm), if_neg Bool.false_ne_true]
theorem thrF_0 {g : PG} {i j v : Nat} (hp : g (15 + 7 * i) ≤ n32 0) : thrF g (i + 1) j v = thrF g i j v := by
  unfold thrF
  rw [cnt_succ, decide_eq_false (fun c => c hp), Bool.false_and, if_neg Bool.false_ne_true]
theorem thrF_l {g : PG} {i j x v : Nat} (hx : g (207 + 3 * j) = n32 x) (h1 : x < 27) (h2 : v < 27) : thrF g i (j + 1) v = if v = x then thrF g i j v + n32 1 else thrF g i j v := by
  unfold thrF
  rw [cnt_succ, hx]
  by_cases e : v = x
  · rw [if_pos e, decide_eq_true (by rw [e]), if_pos rfl, n32_add]
    congr 1
  · rw [if_neg e, decide_eq_false (fun c => e (n32_inj (by omega) (by omega) c).symm), if_neg Bool.false_ne_true]
theorem um_one {m : XM} {q x v : Nat} {y : Int32} {F : Nat → Int32} (h : ∀ v, v < 27 → m q v = F v) (hv : v < 27) : um m q x y q v = if v = x then y else F v := by
  by_cases e : v = x
  · rw [if_pos e, e, um_eq]
  · rw [if_neg e, um_k e]; exact h v hv
/-- the two arrays are equal in the end -/
theorem own_thr {g : PG} (wf : WF g) (lw : LW g) {v : Nat} (hv : v < 27) : ownF g (nBr g) v = thrF g (nBr g) (nL g) v := by
  have a2 := wf.nb
  unfold ownF thrF
  congr 1
  by_cases e : v = 0
  · subst e
    have c1 : cnt (nBr g) (fun b => decide (g (15 + 7 * b + 6) = n32 0)) = cnt (nBr g) fun _ => false := cnt_congr fun b hb => by
      obtain ⟨x, x1, x2, x3⟩ := wf.b6 hb
      exact decide_eq_false (fun c => by rw [x3] at c; have := n32_inj (by omega) (by omega) c; omega)
    have c2 : cnt (nBr g) (fun b => decide (¬ g (15 + 7 * b) ≤ n32 0) && decide (g (15 + 7 * b) = n32 0)) = cnt (nBr g) fun _ => false := cnt_congr fun b hb => by
      by_cases c : g (15 + 7 * b) = n32 0
      · rw [c, decide_eq_false (fun c => c (n32_rfl 0)), Bool.false_and]
      · rw [decide_eq_false c, Bool.and_false]
    have c3 : cnt (nL g) (fun k => decide (g (207 + 3 * k) = n32 0)) = cnt (nL g) fun _ => false := cnt_congr fun k hk => by
      obtain ⟨x, x1, x2, x3⟩ := wf.l0 hk
      exact decide_eq_false (fun c => by rw [x3] at c; have := n32_inj (by omega) (by omega) c; omega)
    have c4 : ∀ n, cnt n (fun _ => false) = 0 := by
      intro n
      induction n with
      | zero => rfl
      | succ n ih => rw [cnt_succ, ih]; rfl
    rw [c1, c2, c3, c4, c4]
  · have hv0 : ¬ n32 v = n32 0 := fun c => e (n32_inj (by omega) (by omega) c)
    rw [lw.2.1 _ hv0]
    unfold tot
    congr 1
    refine cnt_congr fun b hb => ?_
    by_cases c : g (15 + 7 * b) = n32 v
    · rw [decide_eq_true c, Bool.and_true]
      exact (decide_eq_true (by rw [c, n32_le (by omega) (by omega)]; omega)).symm
    · rw [decide_eq_false c, Bool.and_false]
theorem ne10 : ¬ (1 : Int32) = 0 := by decide
theorem q384 {K : XK} {d : Nat} {T : List XC} {e : Nat} {w : Nat → Value} {m : XM} {v : Int32} (hT : 283 + T.length ≤ 1000000) : qM K d 384 [.int v] (S0 ++ T, e, w, m) (qE (some (.int (iabs v))) (S0 ++ T, e, w, m)) := by
  refine qL_mono (qV (K := K) (e := e) (w := w) (m := m) (T := T) (s384 (D := d) (E := fun _ _ => False) (v := v) (m := m) (Q := fun x m' => x = iabs v ∧ m' = m) ⟨rfl, rfl⟩) (wtS_cons (v := vI v) (fun q hq => by cases hq) trivial) hT (fun _ _ => rfl)) ?_
  rintro r σ' ⟨h1, m0', m', ⟨p1, p2⟩, rfl, g1, g2⟩
  obtain ⟨x, rfl⟩ : ∃ x, r = some (.int x) := h1
  have : m' = m := funext fun a => by
    by_cases q : a < 283
    · rw [g1 a q, p2]
    · exact g2 a (by omega)
  exact ⟨by rw [← p1]; rfl, by rw [this]⟩
section ZE1
variable {K : XK} {d : Nat} {T : List XC} {e : Nat} {w : Nat → Value} {m0 : XM} {g : PG} {u z : Option PG} {sl B q1 q2 : Nat} {Q : Option Value → XS → Prop}
/-- one bearer -/
theorem qw182_2 (wf : WF g) (lw : LW g) (hgap : ∀ b, 1 ≤ b → b < nBr g → ¬ bq g b 6 < g 0) (hQ1 : (S0 ++ T)[q1]? = some (20, 27, [])) (hQ2 : (S0 ++ T)[q2]? = some (20, 27, [])) (hq1 : 283 ≤ q1) (hq2 : 283 ≤ q2) (hne : q1 ≠ q2) (hT : 283 + T.length ≤ 1000000) {i : Nat} {m : XM} (hb : i < nBr g) (h : qHI m0 q1 q2 g u sl z B i i 0 m)
    (cont : ∀ m', qHI m0 q1 q2 g u sl z B (i + 1) (i + 1) 0 m' → qL K (d + 13) 182 1 [(0, .ref 0), (1, .ref q1), (2, .ref q2), (3, .int (n32 (i + 1)))] [] (S0 ++ T, e, w, m') Q) : qL K (d + 13) 182 2 [(0, .ref 0), (1, .ref q1), (2, .ref q2), (3, .int (n32 i))] [] (S0 ++ T, e, w, m) Q := by
  have hc0 := hcls T
  have a2 := wf.nb
  obtain ⟨s4, -, s42, s43⟩ := wf.b4 hb
  have st := stl_ok (wf.st_b hb) (wf.b4 hb)
  have b40 : ¬ bq g i 4 < n32 0 := by show ¬ g (15 + 7 * i + 4) < n32 0; rw [s43, n32_lt (by omega) (by omega)]; omega
  have b41 : ¬ n32 100 < bq g i 4 := by show ¬ n32 100 < g (15 + 7 * i + 4); rw [s43, n32_lt (by omega) (by omega)]; omega
  have b50 : ¬ bq g i 5 < n32 0 := st.1
  have b51 : bq g i 5 ≤ bq g i 2 := Int32.not_lt.mp st.2
  -- behind the comparisons
  have p10 : ∀ m, qHI m0 q1 q2 g u sl z B i i 0 m → qL K (d + 13) 182 10 [(0, .ref 0), (1, .ref q1), (2, .ref q2), (3, .int (n32 i))] [] (S0 ++ T, e, w, m) Q := by
    intro m h
    obtain ⟨x, x1, x2, x3⟩ := wf.b6 hb
    have e8 : bq g i 8 = n32 x := x3
    refine qL_at km182 k182_10 ?_
    show qB K (d + 13) 182 2 _ [(0, .ref 0), (1, .ref q1), (2, .ref q2), (3, .int (n32 i))] [] _ _
    iterate 4 refine qB_one rfl rfl ?_
    refine qB_iv km98 (Nat.le_of_ble_eq_true rfl) (qrecv hc0 (by decide)) (Nat.le_of_ble_eq_true rfl) (Nat.le_of_ble_eq_true rfl) (q98 (d := d) (b := i) (i := 8) h.1 hb (by omega) hT) ?_
    rintro v1 σ1 ⟨rfl, x1, rfl, c1, f1, f2⟩
    refine ⟨Or.inl rfl, ?_⟩
    replace h := h.call hq1 hq2 c1 f1 f2
    clear c1 f1 f2
    rw [e8]
    iterate 1 refine qB_one rfl rfl ?_
    refine q_ialV hQ1 (by omega) (by omega) (h.2.2.2.1 x (by omega)) ?_
    iterate 2 refine qB_one rfl rfl ?_
    refine q_iastV hQ1 (by omega) (by omega) ?_
    have k1 := qHI.keep (q := q1) (k := x) (v := ownF g i x + Int32.ofInt 1) ⟨h.1, h.2.1, h.2.2.1⟩ hq1 (Or.inl rfl)
    have h1 : qHI m0 q1 q2 g u sl z B (i + 1) i 0 (um x1 q1 x (ownF g i x + Int32.ofInt 1)) := by
      refine ⟨k1.1, k1.2.1, k1.2.2, fun v hv => ?_, fun v hv => ?_⟩
      · rw [um_one h.2.2.2.1 hv, ownF_s x3 (by omega) hv]
        by_cases ev : v = x
        · rw [if_pos ev, if_pos ev, ev]; rfl
        · rw [if_neg ev, if_neg ev]
      · rw [um_a (fun c => hne c.symm)]; exact h.2.2.2.2 v hv
    clear h k1
    generalize um x1 q1 x (ownF g i x + Int32.ofInt 1) = y1 at h1 ⊢
    have h := h1
    clear h1
    have fin : ∀ m, qHI m0 q1 q2 g u sl z B (i + 1) (i + 1) 0 m → qL K (d + 13) 182 12 [(0, .ref 0), (1, .ref q1), (2, .ref q2), (3, .int (n32 i))] [] (S0 ++ T, e, w, m) Q := by
      intro m h
      refine qL_at km182 k182_12 ?_
      refine qB_one (ls' := [(3, .int (n32 (i + 1))), (0, .ref 0), (1, .ref q1), (2, .ref q2)]) (st' := []) rfl (by rw [← n32_add]; rfl) ?_
      exact qB_go (qL_ls km182 k182_1 (cont m h) rfl)
    iterate 3 refine qB_one rfl rfl ?_
    refine qB_iv km98 (Nat.le_of_ble_eq_true rfl) (qrecv hc0 (by decide)) (Nat.le_of_ble_eq_true rfl) (Nat.le_of_ble_eq_true rfl) (q98 (d := d) (b := i) (i := 0) h.1 hb (by omega) hT) ?_
    rintro v1 σ1 ⟨rfl, x2, rfl, c1, f1, f2⟩
    refine ⟨Or.inl rfl, ?_⟩
    replace h := h.call hq1 hq2 c1 f1 f2
    clear c1 f1 f2
    by_cases hp : g (15 + 7 * i) ≤ n32 0
    · refine qB_ifT hp ?_
      refine qL_ls km182 k182_12 (fin _ ⟨h.1, h.2.1, h.2.2.1, h.2.2.2.1, fun v hv => ?_⟩) rfl
      rw [thrF_0 hp]; exact h.2.2.2.2 v hv
    · refine qB_ifF hp ?_
      obtain ⟨⟨y, y1, y2, y3⟩, -⟩ := ban_pos wf hb hp
      have e0 : bq g i 0 = n32 y := y3
      refine qB_gow (qL_at km182 k182_11 ?_)
      show qB K (d + 13) 182 2 _ [(0, .ref 0), (1, .ref q1), (2, .ref q2), (3, .int (n32 i))] [] _ _
      iterate 4 refine qB_one rfl rfl ?_
      refine qB_iv km98 (Nat.le_of_ble_eq_true rfl) (qrecv hc0 (by decide)) (Nat.le_of_ble_eq_true rfl) (Nat.le_of_ble_eq_true rfl) (q98 (d := d) (b := i) (i := 0) h.1 hb (by omega) hT) ?_
      rintro v1 σ1 ⟨rfl, x3, rfl, c1, f1, f2⟩
      refine ⟨Or.inl rfl, ?_⟩
      replace h := h.call hq1 hq2 c1 f1 f2
      clear c1 f1 f2
      rw [e0]
      iterate 1 refine qB_one rfl rfl ?_
      refine q_ialV hQ2 (by omega) (by omega) (h.2.2.2.2 y (by omega)) ?_
      iterate 2 refine qB_one rfl rfl ?_
      refine q_iastV hQ2 (by omega) (by omega) ?_
      have k1 := qHI.keep (q := q2) (k := y) (v := thrF g i 0 y + Int32.ofInt 1) ⟨h.1, h.2.1, h.2.2.1⟩ hq2 (Or.inr rfl)
      refine qB_gow (qL_ls km182 k182_12 (fin _ ⟨k1.1, k1.2.1, k1.2.2, fun v hv => ?_, fun v hv => ?_⟩) rfl)
      · rw [um_a hne]; exact h.2.2.2.1 v hv
      · rw [um_one h.2.2.2.2 hv, thrF_s y3 hp (by omega) hv]
        by_cases ev : v = y
        · rw [if_pos ev, if_pos ev, ev]; rfl
        · rw [if_neg ev, if_neg ev]
  have p5 : ∀ m, qHI m0 q1 q2 g u sl z B i i 0 m → qL K (d + 13) 182 5 [(0, .ref 0), (1, .ref q1), (2, .ref q2), (3, .int (n32 i))] [] (S0 ++ T, e, w, m) Q := by
    intro m h
    refine qL_at km182 k182_5 ?_
    show qB K (d + 13) 182 2 _ [(0, .ref 0), (1, .ref q1), (2, .ref q2), (3, .int (n32 i))] [] _ _
    iterate 3 refine qB_one rfl rfl ?_
    refine qB_iv km98 (Nat.le_of_ble_eq_true rfl) (qrecv hc0 (by decide)) (Nat.le_of_ble_eq_true rfl) (Nat.le_of_ble_eq_true rfl) (q98 (d := d) (b := i) (i := 4) h.1 hb (by omega) hT) ?_
    rintro v1 σ1 ⟨rfl, x4, rfl, c1, f1, f2⟩
    refine ⟨Or.inl rfl, ?_⟩
    replace h := h.call hq1 hq2 c1 f1 f2
    clear c1 f1 f2
    refine qB_ifF b40 ?_
    refine qB_gow (qL_at km182 k182_6 ?_)
    show qB K (d + 13) 182 2 _ [(0, .ref 0), (1, .ref q1), (2, .ref q2), (3, .int (n32 i))] [] _ _
    iterate 3 refine qB_one rfl rfl ?_
    refine qB_iv km98 (Nat.le_of_ble_eq_true rfl) (qrecv hc0 (by decide)) (Nat.le_of_ble_eq_true rfl) (Nat.le_of_ble_eq_true rfl) (q98 (d := d) (b := i) (i := 4) h.1 hb (by omega) hT) ?_
    rintro v1 σ1 ⟨rfl, x5, rfl, c1, f1, f2⟩
    refine ⟨Or.inl rfl, ?_⟩
    replace h := h.call hq1 hq2 c1 f1 f2
    clear c1 f1 f2
    iterate 1 refine qB_one rfl rfl ?_
    refine qB_icF b41 ?_
    refine qB_gow (qL_at km182 k182_7 ?_)
    show qB K (d + 13) 182 2 _ [(0, .ref 0), (1, .ref q1), (2, .ref q2), (3, .int (n32 i))] [] _ _
    iterate 3 refine qB_one rfl rfl ?_
    refine qB_iv km98 (Nat.le_of_ble_eq_true rfl) (qrecv hc0 (by decide)) (Nat.le_of_ble_eq_true rfl) (Nat.le_of_ble_eq_true rfl) (q98 (d := d) (b := i) (i := 5) h.1 hb (by omega) hT) ?_
    rintro v1 σ1 ⟨rfl, x6, rfl, c1, f1, f2⟩
    refine ⟨Or.inl rfl, ?_⟩
    replace h := h.call hq1 hq2 c1 f1 f2
    clear c1 f1 f2
    refine qB_ifF b50 ?_
    refine qB_gow (qL_at km182 k182_8 ?_)
    show qB K (d + 13) 182 2 _ [(0, .ref 0), (1, .ref q1), (2, .ref q2), (3, .int (n32 i))] [] _ _
    iterate 3 refine qB_one rfl rfl ?_
    refine qB_iv km98 (Nat.le_of_ble_eq_true rfl) (qrecv hc0 (by decide)) (Nat.le_of_ble_eq_true rfl) (Nat.le_of_ble_eq_true rfl) (q98 (d := d) (b := i) (i := 5) h.1 hb (by omega) hT) ?_
    rintro v1 σ1 ⟨rfl, x7, rfl, c1, f1, f2⟩
    refine ⟨Or.inl rfl, ?_⟩
    replace h := h.call hq1 hq2 c1 f1 f2
    clear c1 f1 f2
    iterate 3 refine qB_one rfl rfl ?_
    refine qB_iv km98 (Nat.le_of_ble_eq_true rfl) (qrecv hc0 (by decide)) (Nat.le_of_ble_eq_true rfl) (Nat.le_of_ble_eq_true rfl) (q98 (d := d) (b := i) (i := 2) h.1 hb (by omega) hT) ?_
    rintro v1 σ1 ⟨rfl, x8, rfl, c1, f1, f2⟩
    refine ⟨Or.inl rfl, ?_⟩
    replace h := h.call hq1 hq2 c1 f1 f2
    clear c1 f1 f2
    refine qB_icT b51 ?_
    exact qL_ls km182 k182_10 (p10 _ h) rfl
  refine qL_at km182 k182_2 ?_
  iterate 1 refine qB_one rfl rfl ?_
  by_cases i0 : i = 0
  · refine qB_ifT ((n32_le (a := i) (b := 0) (by omega) (by omega)).mpr (by omega)) ?_
    exact qL_ls km182 k182_5 (p5 _ h) rfl
  · refine qB_ifF (fun y => ?_) ?_
    · have := (n32_le (a := i) (b := 0) (by omega) (by omega)).mp y
      omega
    refine qB_gow (qL_at km182 k182_3 ?_)
    show qB K (d + 13) 182 2 _ [(0, .ref 0), (1, .ref q1), (2, .ref q2), (3, .int (n32 i))] [] _ _
    iterate 3 refine qB_one rfl rfl ?_
    refine qB_iv km98 (Nat.le_of_ble_eq_true rfl) (qrecv hc0 (by decide)) (Nat.le_of_ble_eq_true rfl) (Nat.le_of_ble_eq_true rfl) (q98 (d := d) (b := i) (i := 6) h.1 hb (by omega) hT) ?_
    rintro v1 σ1 ⟨rfl, x9, rfl, c1, f1, f2⟩
    refine ⟨Or.inl rfl, ?_⟩
    replace h := h.call hq1 hq2 c1 f1 f2
    clear c1 f1 f2
    iterate 2 refine qB_one rfl rfl ?_
    refine qB_iv km97 (Nat.le_of_ble_eq_true rfl) (qrecv hc0 (by decide)) (Nat.le_of_ble_eq_true rfl) (Nat.le_of_ble_eq_true rfl) (q97 (d := d) (j := 0) h.1 (by omega) hT) ?_
    rintro v1 σ1 ⟨rfl, x10, rfl, c1, f1, f2⟩
    refine ⟨Or.inl rfl, ?_⟩
    replace h := h.call hq1 hq2 c1 f1 f2
    clear c1 f1 f2
    refine qB_icT (Int32.not_lt.mp (hgap i (by omega) hb)) ?_
    exact qL_ls km182 k182_5 (p5 _ h) rfl
theorem qw182_1 (wf : WF g) (lw : LW g) (hgap : ∀ b, 1 ≤ b → b < nBr g → ¬ bq g b 6 < g 0) (hQ1 : (S0 ++ T)[q1]? = some (20, 27, [])) (hQ2 : (S0 ++ T)[q2]? = some (20, 27, [])) (hq1 : 283 ≤ q1) (hq2 : 283 ≤ q2) (hne : q1 ≠ q2) (hT : 283 + T.length ≤ 1000000) : ∀ (j i : Nat) (m : XM), i + j = nBr g → qHI m0 q1 q2 g u sl z B i i 0 m → (∀ m', qHI m0 q1 q2 g u sl z B (nBr g) (nBr g) 0 m' → qL K (d + 13) 182 13 [(0, .ref 0), (1, .ref q1), (2, .ref q2)] [] (S0 ++ T, e, w, m') Q) → qL K (d + 13) 182 1 [(0, .ref 0), (1, .ref q1), (2, .ref q2), (3, .int (n32 i))] [] (S0 ++ T, e, w, m) Q := by
  have hc0 := hcls T
  have a2 := wf.nb
  have ec : cq g 0 = n32 (nBr g) := wf.1.1
  intro j
  induction j with
  | zero =>
    intro i m hj h cont
    refine qL_at km182 k182_1 ?_
    iterate 3 refine qB_one rfl rfl ?_
    refine qB_iv km96 (Nat.le_of_ble_eq_true rfl) (qrecv hc0 (by decide)) (Nat.le_of_ble_eq_true rfl) (Nat.le_of_ble_eq_true rfl) (q96 (d := d) (j := 0) h.1 (by omega) hT) ?_
    rintro v1 σ1 ⟨rfl, x11, rfl, c1, f1, f2⟩
    refine ⟨Or.inl rfl, ?_⟩
    replace h := h.call hq1 hq2 c1 f1 f2
    clear c1 f1 f2
    refine qB_icT (by show cq g 0 ≤ n32 i; rw [ec]; exact (n32_le (by omega) (by omega)).mpr (by omega)) ?_
    obtain rfl : i = nBr g := by omega
    exact qL_ls km182 k182_13 (cont _ h) rfl
  | succ j ih =>
    intro i m hj h cont
    refine qL_at km182 k182_1 ?_
    iterate 3 refine qB_one rfl rfl ?_
    refine qB_iv km96 (Nat.le_of_ble_eq_true rfl) (qrecv hc0 (by decide)) (Nat.le_of_ble_eq_true rfl) (Nat.le_of_ble_eq_true rfl) (q96 (d := d) (j := 0) h.1 (by omega) hT) ?_
    rintro v1 σ1 ⟨rfl, x12, rfl, c1, f1, f2⟩
    refine ⟨Or.inl rfl, ?_⟩
    replace h := h.call hq1 hq2 c1 f1 f2
    clear c1 f1 f2
    refine qB_icF (fun y => ?_) ?_
    · have y : cq g 0 ≤ n32 i := y
      rw [ec] at y
      have := (n32_le (by omega) (by omega)).mp y
      omega
    exact qB_gow (qL_ls km182 k182_2 (qw182_2 wf lw hgap hQ1 hQ2 hq1 hq2 hne hT (by omega) h (fun m' h' => ih (i + 1) m' (by omega) h' cont)) rfl)
/-- what lies -/
theorem qw182_14 (wf : WF g) (hQ2 : (S0 ++ T)[q2]? = some (20, 27, [])) (hq1 : 283 ≤ q1) (hq2 : 283 ≤ q2) (hne : q1 ≠ q2) (hT : 283 + T.length ≤ 1000000) : ∀ (j i : Nat) (m : XM), i + j = nL g → qHI m0 q1 q2 g u sl z B (nBr g) (nBr g) i m → (∀ m', qHI m0 q1 q2 g u sl z B (nBr g) (nBr g) (nL g) m' → qL K (d + 13) 182 16 [(0, .ref 0), (1, .ref q1), (2, .ref q2)] [] (S0 ++ T, e, w, m') Q) → qL K (d + 13) 182 14 [(0, .ref 0), (1, .ref q1), (2, .ref q2), (3, .int (n32 i))] [] (S0 ++ T, e, w, m) Q := by
  have hc0 := hcls T
  have a2 := wf.nb
  have a9 := wf.nl
  have ec : cq g 5 = n32 (nL g) := wf.2.2.2.1.1
  intro j
  induction j with
  | zero =>
    intro i m hj h cont
    refine qL_at km182 k182_14 ?_
    iterate 3 refine qB_one rfl rfl ?_
    refine qB_iv km96 (Nat.le_of_ble_eq_true rfl) (qrecv hc0 (by decide)) (Nat.le_of_ble_eq_true rfl) (Nat.le_of_ble_eq_true rfl) (q96 (d := d) (j := 5) h.1 (by omega) hT) ?_
    rintro v1 σ1 ⟨rfl, x13, rfl, c1, f1, f2⟩
    refine ⟨Or.inl rfl, ?_⟩
    replace h := h.call hq1 hq2 c1 f1 f2
    clear c1 f1 f2
    refine qB_icT (by show cq g 5 ≤ n32 i; rw [ec]; exact (n32_le (by omega) (by omega)).mpr (by omega)) ?_
    obtain rfl : i = nL g := by omega
    exact qL_ls km182 k182_16 (cont _ h) rfl
  | succ j ih =>
    intro i m hj h cont
    obtain ⟨y, y1, y2, y3⟩ := wf.l0 (k := i) (by omega)
    have e0 : lq g i 0 = n32 y := y3
    refine qL_at km182 k182_14 ?_
    iterate 3 refine qB_one rfl rfl ?_
    refine qB_iv km96 (Nat.le_of_ble_eq_true rfl) (qrecv hc0 (by decide)) (Nat.le_of_ble_eq_true rfl) (Nat.le_of_ble_eq_true rfl) (q96 (d := d) (j := 5) h.1 (by omega) hT) ?_
    rintro v1 σ1 ⟨rfl, x14, rfl, c1, f1, f2⟩
    refine ⟨Or.inl rfl, ?_⟩
    replace h := h.call hq1 hq2 c1 f1 f2
    clear c1 f1 f2
    refine qB_icF (fun y => ?_) ?_
    · have y : cq g 5 ≤ n32 i := y
      rw [ec] at y
      have := (n32_le (by omega) (by omega)).mp y
      omega
    refine qB_gow (qL_at km182 k182_15 ?_)
    show qB K (d + 13) 182 2 _ [(0, .ref 0), (1, .ref q1), (2, .ref q2), (3, .int (n32 i))] [] _ _
    iterate 4 refine qB_one rfl rfl ?_
    refine qB_iv km101 (Nat.le_of_ble_eq_true rfl) (qrecv hc0 (by decide)) (Nat.le_of_ble_eq_true rfl) (Nat.le_of_ble_eq_true rfl) (q101 (d := d) (k := i) (i := 0) h.1 (by omega) (by omega) hT) ?_
    rintro v1 σ1 ⟨rfl, x15, rfl, c1, f1, f2⟩
    refine ⟨Or.inl rfl, ?_⟩
    replace h := h.call hq1 hq2 c1 f1 f2
    clear c1 f1 f2
    rw [e0]
    iterate 1 refine qB_one rfl rfl ?_
    refine q_ialV hQ2 (by omega) (by omega) (h.2.2.2.2 y (by omega)) ?_
    iterate 2 refine qB_one rfl rfl ?_
    refine q_iastV hQ2 (by omega) (by omega) ?_
    have k1 := qHI.keep (q := q2) (k := y) (v := thrF g (nBr g) i y + Int32.ofInt 1) ⟨h.1, h.2.1, h.2.2.1⟩ hq2 (Or.inr rfl)
    refine qB_one (ls' := [(3, .int (n32 (i + 1))), (0, .ref 0), (1, .ref q1), (2, .ref q2)]) (st' := []) rfl (by rw [← n32_add]; rfl) ?_
    refine qB_go (qL_ls km182 k182_14 (ih (i + 1) _ (by omega) ⟨k1.1, k1.2.1, k1.2.2, fun v hv => ?_, fun v hv => ?_⟩ cont) rfl)
    · rw [um_a hne]; exact h.2.2.2.1 v hv
    · rw [um_one h.2.2.2.2 hv, thrF_l y3 (by omega) hv]
      by_cases ev : v = y
      · rw [if_pos ev, if_pos ev, ev]; rfl
      · rw [if_neg ev, if_neg ev]
/-- a stand sees what is within its reach -/
theorem qw182_30 (wf : WF g) (lw : LW g) (hq1 : 283 ≤ q1) (hq2 : 283 ≤ q2) (hT : 283 + T.length ≤ 1000000) {s : Nat} (hs : s < nSt g) : ∀ (j i : Nat) (m : XM), i + j = nBr g → qHI m0 q1 q2 g u sl z B (nBr g) (nBr g) (nL g) m → (∀ m', qHI m0 q1 q2 g u sl z B (nBr g) (nBr g) (nL g) m' → qL K (d + 13) 182 36 [(0, .ref 0), (3, .int (n32 s))] [] (S0 ++ T, e, w, m') Q) → qL K (d + 13) 182 30 [(0, .ref 0), (3, .int (n32 s)), (4, .int (n32 i))] [] (S0 ++ T, e, w, m) Q := by
  have hc0 := hcls T
  have a2 := wf.nb
  have ec : cq g 0 = n32 (nBr g) := wf.1.1
  intro j
  induction j with
  | zero =>
    intro i m hj h cont
    refine qL_at km182 k182_30 ?_
    iterate 3 refine qB_one rfl rfl ?_
    refine qB_iv km96 (Nat.le_of_ble_eq_true rfl) (qrecv hc0 (by decide)) (Nat.le_of_ble_eq_true rfl) (Nat.le_of_ble_eq_true rfl) (q96 (d := d) (j := 0) h.1 (by omega) hT) ?_
    rintro v1 σ1 ⟨rfl, x16, rfl, c1, f1, f2⟩
    refine ⟨Or.inl rfl, ?_⟩
    replace h := h.call hq1 hq2 c1 f1 f2
    clear c1 f1 f2
    refine qB_icT (by show cq g 0 ≤ n32 i; rw [ec]; exact (n32_le (by omega) (by omega)).mpr (by omega)) ?_
    obtain rfl : i = nBr g := by omega
    exact qL_ls km182 k182_36 (cont _ h) rfl
  | succ j ih =>
    intro i m hj h cont
    have hb : i < nBr g := by omega
    have fin : ∀ m, qHI m0 q1 q2 g u sl z B (nBr g) (nBr g) (nL g) m → qL K (d + 13) 182 35 [(0, .ref 0), (3, .int (n32 s)), (4, .int (n32 i))] [] (S0 ++ T, e, w, m) Q := by
      intro m h
      refine qL_at km182 k182_35 ?_
      refine qB_one (ls' := [(4, .int (n32 (i + 1))), (0, .ref 0), (3, .int (n32 s))]) (st' := []) rfl (by rw [← n32_add]; rfl) ?_
      exact qB_go (qL_ls km182 k182_30 (ih (i + 1) m (by omega) h cont) rfl)
    have hbit := bit_of (n := nBr g) (b := i) (fun b => seesG g s b) lw.2.2.1.2 hb
    refine qL_at km182 k182_30 ?_
    iterate 3 refine qB_one rfl rfl ?_
    refine qB_iv km96 (Nat.le_of_ble_eq_true rfl) (qrecv hc0 (by decide)) (Nat.le_of_ble_eq_true rfl) (Nat.le_of_ble_eq_true rfl) (q96 (d := d) (j := 0) h.1 (by omega) hT) ?_
    rintro v1 σ1 ⟨rfl, x17, rfl, c1, f1, f2⟩
    refine ⟨Or.inl rfl, ?_⟩
    replace h := h.call hq1 hq2 c1 f1 f2
    clear c1 f1 f2
    refine qB_icF (fun y => ?_) ?_
    · have y : cq g 0 ≤ n32 i := y
      rw [ec] at y
      have := (n32_le (by omega) (by omega)).mp y
      omega
    refine qB_gow (qL_at km182 k182_31 ?_)
    show qB K (d + 13) 182 2 _ [(0, .ref 0), (3, .int (n32 s)), (4, .int (n32 i))] [] _ _
    iterate 2 refine qB_one rfl rfl ?_
    refine qB_iv km104 (Nat.le_of_ble_eq_true rfl) (qrecv hc0 (by decide)) (Nat.le_of_ble_eq_true rfl) (Nat.le_of_ble_eq_true rfl) (q104 (d := d) (s := s) h.1 hs hT) ?_
    rintro v1 σ1 ⟨rfl, x18, rfl, c1, f1, f2⟩
    refine ⟨Or.inl rfl, ?_⟩
    replace h := h.call hq1 hq2 c1 f1 f2
    clear c1 f1 f2
    iterate 5 refine qB_one rfl rfl ?_
    by_cases sees : seesG g s i = true
    · rw [if_pos sees] at hbit
      refine qB_icF (fun y => y hbit) ?_
      have sees' := sees
      unfold seesG at sees'
      rw [Bool.and_eq_true] at sees'
      have v1 := of_decide_eq_true sees'.1
      have v2 := of_decide_eq_true sees'.2
      have v3 : ¬ bq g i 0 = n32 0 := fun c => v1 (by have c : g (15 + 7 * i) = n32 0 := c; rw [c]; exact n32_rfl 0)
      refine qB_gow (qL_at km182 k182_32 ?_)
      show qB K (d + 13) 182 2 _ [(0, .ref 0), (3, .int (n32 s)), (4, .int (n32 i))] [] _ _
      iterate 3 refine qB_one rfl rfl ?_
      refine qB_iv km98 (Nat.le_of_ble_eq_true rfl) (qrecv hc0 (by decide)) (Nat.le_of_ble_eq_true rfl) (Nat.le_of_ble_eq_true rfl) (q98 (d := d) (b := i) (i := 0) h.1 hb (by omega) hT) ?_
      rintro v1 σ1 ⟨rfl, x19, rfl, c1, f1, f2⟩
      refine ⟨Or.inl rfl, ?_⟩
      replace h := h.call hq1 hq2 c1 f1 f2
      clear c1 f1 f2
      refine qB_ifF v3 ?_
      refine qB_gow (qL_at km182 k182_33 ?_)
      show qB K (d + 13) 182 2 _ [(0, .ref 0), (3, .int (n32 s)), (4, .int (n32 i))] [] _ _
      iterate 3 refine qB_one rfl rfl ?_
      refine qB_iv km98 (Nat.le_of_ble_eq_true rfl) (qrecv hc0 (by decide)) (Nat.le_of_ble_eq_true rfl) (Nat.le_of_ble_eq_true rfl) (q98 (d := d) (b := i) (i := 1) h.1 hb (by omega) hT) ?_
      rintro v1 σ1 ⟨rfl, x20, rfl, c1, f1, f2⟩
      refine ⟨Or.inl rfl, ?_⟩
      replace h := h.call hq1 hq2 c1 f1 f2
      clear c1 f1 f2
      iterate 3 refine qB_one rfl rfl ?_
      refine qB_iv km99 (Nat.le_of_ble_eq_true rfl) (qrecv hc0 (by decide)) (Nat.le_of_ble_eq_true rfl) (Nat.le_of_ble_eq_true rfl) (q99 (d := d) (s := s) (i := 1) h.1 hs (by omega) hT) ?_
      rintro v1 σ1 ⟨rfl, x21, rfl, c1, f1, f2⟩
      refine ⟨Or.inl rfl, ?_⟩
      replace h := h.call hq1 hq2 c1 f1 f2
      clear c1 f1 f2
      iterate 1 refine qB_one rfl rfl ?_
      refine qB_is km384 (Nat.le_of_ble_eq_true rfl) rfl (Nat.le_of_ble_eq_true rfl) (Nat.le_of_ble_eq_true rfl) (q384 (d := d + 12) (v := bq g i 1 - sq g s 1) hT) ?_
      rintro v1' σ1 ⟨rfl, rfl⟩
      refine ⟨Or.inl rfl, ?_⟩
      iterate 2 refine qB_one rfl rfl ?_
      refine qB_iv km97 (Nat.le_of_ble_eq_true rfl) (qrecv hc0 (by decide)) (Nat.le_of_ble_eq_true rfl) (Nat.le_of_ble_eq_true rfl) (q97 (d := d) (j := 1) h.1 (by omega) hT) ?_
      rintro v1 σ1 ⟨rfl, x22, rfl, c1, f1, f2⟩
      refine ⟨Or.inl rfl, ?_⟩
      replace h := h.call hq1 hq2 c1 f1 f2
      clear c1 f1 f2
      refine qB_icT (Int32.not_lt.mp v2) ?_
      exact qL_ls km182 k182_35 (fin _ h) rfl
    · rw [if_neg sees] at hbit
      refine qB_icT (fun y => ?_) ?_
      · have y : n32 0 = n32 1 := hbit.symm.trans y
        exact absurd y (by decide)
      exact qL_ls km182 k182_35 (fin _ h) rfl
/-- the stands -/
theorem qw182_20 (wf : WF g) (lw : LW g) (hq1 : 283 ≤ q1) (hq2 : 283 ≤ q2) (hT : 283 + T.length ≤ 1000000) : ∀ (j s : Nat) (m : XM), s + j = nSt g → qHI m0 q1 q2 g u sl z B (nBr g) (nBr g) (nL g) m → (∀ m', qHI m0 q1 q2 g u sl z B (nBr g) (nBr g) (nL g) m' → qL K (d + 13) 182 37 [] [] (S0 ++ T, e, w, m') Q) → qL K (d + 13) 182 20 [(0, .ref 0), (3, .int (n32 s))] [] (S0 ++ T, e, w, m) Q := by
  have hc0 := hcls T
  have a4 := wf.ns
  have ec : cq g 1 = n32 (nSt g) := wf.2.1.1
  intro j
  induction j with
  | zero =>
    intro s m hj h cont
    refine qL_at km182 k182_20 ?_
    iterate 3 refine qB_one rfl rfl ?_
    refine qB_iv km96 (Nat.le_of_ble_eq_true rfl) (qrecv hc0 (by decide)) (Nat.le_of_ble_eq_true rfl) (Nat.le_of_ble_eq_true rfl) (q96 (d := d) (j := 1) h.1 (by omega) hT) ?_
    rintro v1 σ1 ⟨rfl, x23, rfl, c1, f1, f2⟩
    refine ⟨Or.inl rfl, ?_⟩
    replace h := h.call hq1 hq2 c1 f1 f2
    clear c1 f1 f2
    refine qB_icT (by show cq g 1 ≤ n32 s; rw [ec]; exact (n32_le (by omega) (by omega)).mpr (by omega)) ?_
    exact qL_ls km182 k182_37 (cont _ h) rfl
  | succ j ih =>
    intro s m hj h cont
    have hs : s < nSt g := by omega
    obtain ⟨r1, r2, r3⟩ := sha_ok wf hs
    have tg := tx_ge g s
    have tl := tx_len wf s
    have r4 : sq g s 4 ≤ sq g s 5 := (n32_le (by omega) (by omega)).mpr tg
    -- behind the comparison of isRead and the share
    have p27 : ∀ m, qHI m0 q1 q2 g u sl z B (nBr g) (nBr g) (nL g) m → qL K (d + 13) 182 27 [(0, .ref 0), (3, .int (n32 s))] [] (S0 ++ T, e, w, m) Q := by
      intro m h
      refine qL_at km182 k182_27 ?_
      show qB K (d + 13) 182 2 _ [(0, .ref 0), (3, .int (n32 s))] [] _ _
      iterate 3 refine qB_one rfl rfl ?_
      refine qB_iv km99 (Nat.le_of_ble_eq_true rfl) (qrecv hc0 (by decide)) (Nat.le_of_ble_eq_true rfl) (Nat.le_of_ble_eq_true rfl) (q99 (d := d) (s := s) (i := 5) h.1 hs (by omega) hT) ?_
      rintro v1 σ1 ⟨rfl, x24, rfl, c1, f1, f2⟩
      refine ⟨Or.inl rfl, ?_⟩
      replace h := h.call hq1 hq2 c1 f1 f2
      clear c1 f1 f2
      iterate 3 refine qB_one rfl rfl ?_
      refine qB_iv km99 (Nat.le_of_ble_eq_true rfl) (qrecv hc0 (by decide)) (Nat.le_of_ble_eq_true rfl) (Nat.le_of_ble_eq_true rfl) (q99 (d := d) (s := s) (i := 4) h.1 hs (by omega) hT) ?_
      rintro v1 σ1 ⟨rfl, x25, rfl, c1, f1, f2⟩
      refine ⟨Or.inl rfl, ?_⟩
      replace h := h.call hq1 hq2 c1 f1 f2
      clear c1 f1 f2
      refine qB_icT r4 ?_
      refine qL_at km182 k182_29 ?_
      iterate 2 refine qB_one rfl rfl ?_
      refine qB_gow (qL_ls km182 k182_30 (qw182_30 wf lw hq1 hq2 hT hs (nBr g) 0 _ (Nat.zero_add _) h ?_) rfl)
      intro m2 h2
      refine qL_at km182 k182_36 ?_
      refine qB_one (ls' := [(3, .int (n32 (s + 1))), (0, .ref 0)]) (st' := []) rfl (by rw [← n32_add]; rfl) ?_
      exact qB_go (qL_ls km182 k182_20 (ih (s + 1) m2 (by omega) h2 cont) rfl)
    refine qL_at km182 k182_20 ?_
    iterate 3 refine qB_one rfl rfl ?_
    refine qB_iv km96 (Nat.le_of_ble_eq_true rfl) (qrecv hc0 (by decide)) (Nat.le_of_ble_eq_true rfl) (Nat.le_of_ble_eq_true rfl) (q96 (d := d) (j := 1) h.1 (by omega) hT) ?_
    rintro v1 σ1 ⟨rfl, x26, rfl, c1, f1, f2⟩
    refine ⟨Or.inl rfl, ?_⟩
    replace h := h.call hq1 hq2 c1 f1 f2
    clear c1 f1 f2
    refine qB_icF (fun y => ?_) ?_
    · have y : cq g 1 ≤ n32 s := y
      rw [ec] at y
      have := (n32_le (by omega) (by omega)).mp y
      omega
    refine qB_gow (qL_at km182 k182_21 ?_)
    show qB K (d + 13) 182 2 _ [(0, .ref 0), (3, .int (n32 s))] [] _ _
    iterate 2 refine qB_one rfl rfl ?_
    refine qB_iv km107 (Nat.le_of_ble_eq_true rfl) (qrecv hc0 (by decide)) (Nat.le_of_ble_eq_true rfl) (Nat.le_of_ble_eq_true rfl) (q107 (d := d) (s := s) h.1 hs hT) ?_
    rintro v1 σ1 ⟨rfl, x27, rfl, c1, f1, f2⟩
    refine ⟨Or.inl rfl, ?_⟩
    replace h := h.call hq1 hq2 c1 f1 f2
    clear c1 f1 f2
    iterate 2 refine qB_one rfl rfl ?_
    refine qB_ifF r1 ?_
    refine qB_gow (qL_at km182 k182_22 ?_)
    show qB K (d + 13) 182 2 _ [(0, .ref 0), (3, .int (n32 s))] [] _ _
    iterate 2 refine qB_one rfl rfl ?_
    refine qB_iv km107 (Nat.le_of_ble_eq_true rfl) (qrecv hc0 (by decide)) (Nat.le_of_ble_eq_true rfl) (Nat.le_of_ble_eq_true rfl) (q107 (d := d) (s := s) h.1 hs hT) ?_
    rintro v1 σ1 ⟨rfl, x28, rfl, c1, f1, f2⟩
    refine ⟨Or.inl rfl, ?_⟩
    replace h := h.call hq1 hq2 c1 f1 f2
    clear c1 f1 f2
    iterate 2 refine qB_one rfl rfl ?_
    refine qB_ifF r2 ?_
    refine qB_gow (qL_at km182 k182_23 ?_)
    show qB K (d + 13) 182 2 _ [(0, .ref 0), (3, .int (n32 s))] [] _ _
    iterate 2 refine qB_one rfl rfl ?_
    refine qB_iv km106 (Nat.le_of_ble_eq_true rfl) (qrecv hc0 (by decide)) (Nat.le_of_ble_eq_true rfl) (Nat.le_of_ble_eq_true rfl) (q106 (d := d) (s := s) h.1 hs hT) ?_
    rintro v1 σ1 ⟨rfl, x29, rfl, c1, f1, f2⟩
    refine ⟨Or.inl rfl, ?_⟩
    replace h := h.call hq1 hq2 c1 f1 f2
    clear c1 f1 f2
    iterate 2 refine qB_one rfl rfl ?_
    refine qB_iv km107 (Nat.le_of_ble_eq_true rfl) (qrecv hc0 (by decide)) (Nat.le_of_ble_eq_true rfl) (Nat.le_of_ble_eq_true rfl) (q107 (d := d) (s := s) h.1 hs hT) ?_
    rintro v1 σ1 ⟨rfl, x30, rfl, c1, f1, f2⟩
    refine ⟨Or.inl rfl, ?_⟩
    replace h := h.call hq1 hq2 c1 f1 f2
    clear c1 f1 f2
    iterate 2 refine qB_one rfl rfl ?_
    by_cases rd : rdG g s = true
    · refine qB_ifF (fun y => y (r3.mpr rd)) ?_
      rw [if_pos rd]
      refine qB_gow (qL_at km182 k182_24 ?_)
      iterate 1 refine qB_one rfl rfl ?_
      refine qB_go (qL_at km182 k182_26 ?_)
      refine qB_icF (fun y => y rfl) ?_
      exact qB_gow (qL_ls km182 k182_27 (p27 _ h) rfl)
    · refine qB_ifT (fun y => rd (r3.mp y)) ?_
      rw [if_neg rd]
      refine qL_at km182 k182_25 ?_
      iterate 1 refine qB_one rfl rfl ?_
      refine qB_gow (qL_at km182 k182_26 ?_)
      refine qB_icF (fun y => y rfl) ?_
      exact qB_gow (qL_ls km182 k182_27 (p27 _ h) rfl)
theorem q182 {m : XM} (hC : CLS m g u sl z B) (hB : B ≤ 5000) (lw : LW g) (hG : qG (S0 ++ T)) (hT : 285 + T.length < 1000000) : qM K (d + 13) 182 [.ref 0] (S0 ++ T, e, w, m) (fun r σ' => r = some (.int 1) ∧ ∃ m', σ' = (S0 ++ (T ++ [(20, 27, []), (20, 27, [])]), e, w, m') ∧ CLS m' g u sl z B ∧ ∀ a, 283 ≤ a → a < (S0 ++ T).length → m' a = m a) := by
  have hS := hC.2.1
  obtain ⟨-, -, -, T1, X1, hT1, si⟩ := hS
  have wf := si.w
  have a2 := wf.nb
  have hgap : ∀ b, 1 ≤ b → b < nBr g → ¬ bq g b 6 < g 0 := fun b h1 h2 => gap_ok si (by omega) lw.1 h1 h2
  have hl : (S0 ++ T).length = 283 + T.length := by rw [List.length_append, S0_len]
  have hG1 : qG (S0 ++ T ++ [((20, 27, []) : XC)]) := qG_push hG (fun q hq => by cases hq)
  have hl1 : (S0 ++ T ++ [((20, 27, []) : XC)]).length = 284 + T.length := by rw [List.length_append, hl]; show 283 + T.length + 1 = _; omega
  have eS : S0 ++ T ++ [((20, 27, []) : XC)] ++ [((20, 27, []) : XC)] = S0 ++ (T ++ [((20, 27, []) : XC), (20, 27, [])]) := by rw [List.append_assoc, List.append_assoc]; rfl
  refine qL_at km182 k182_0 ?_
  refine qB_one rfl rfl ?_
  refine q_narrI (n := 27) (by omega) (qfresh hG (by omega) rfl (by show (xok (S0 ++ T).length (Value.ref 0) && true) = true; rw [xokR (by omega)]; rfl)) ?_
  iterate 2 refine qB_one rfl rfl ?_
  refine q_narrI (n := 27) (by omega) (qfresh hG1 (by omega) rfl (by show (xok (S0 ++ T ++ [((20, 27, []) : XC)]).length (Value.ref (S0 ++ T).length) && (xok (S0 ++ T ++ [((20, 27, []) : XC)]).length (Value.ref 0) && true)) = true; rw [xokR (by omega), xokR (by omega)]; rfl)) ?_
  rw [eS, hl1]
  generalize hTT : T ++ [((20, 27, []) : XC), (20, 27, [])] = T2
  have hlT : T2.length = T.length + 2 := by rw [← hTT, List.length_append]; rfl
  have hT2 : 283 + T2.length ≤ 1000000 := by omega
  have hQ1 : (S0 ++ T2)[(S0 ++ T).length]? = some (20, 27, []) := by
    rw [← hTT, ← eS]
    exact ap_in ap_end
  have hQ2 : (S0 ++ T2)[284 + T.length]? = some (20, 27, []) := by
    rw [← hTT, ← eS, ← hl1]
    exact ap_end
  rw [hl] at hQ1 ⊢
  clear eS hG1
  have z1 : uz (uz m (283 + T.length)) (284 + T.length) (283 + T.length) = fun _ => 0 := by rw [uz_ne (by omega), uz_row]
  have h0 : qHI m (283 + T.length) (284 + T.length) g u sl z B 0 0 0 (uz (uz m (283 + T.length)) (284 + T.length)) := by
    have ee : ∀ b k', CRL b → uz (uz m (283 + T.length)) (284 + T.length) b k' = m b k' := fun b k' hb => by rw [uz_ne (by have := hb.2; omega), uz_ne (by have := hb.2; omega)]
    exact ⟨CLS_fr hC (Nat.le_refl _) ee, ee, fun a h1 h2 h3 => by rw [uz_ne h3, uz_ne h2], fun v hv => by rw [z1]; rfl, fun v hv => by rw [uz_row]; rfl⟩
  iterate 3 refine qB_one rfl rfl ?_
  refine qB_gow (qL_ls km182 k182_1 (qw182_1 wf lw hgap hQ1 hQ2 (by omega) (by omega) (by omega) hT2 (nBr g) 0 _ (Nat.zero_add _) h0 ?_) rfl)
  intro m1 h1
  refine qL_at km182 k182_13 ?_
  iterate 2 refine qB_one rfl rfl ?_
  refine qB_gow (qL_ls km182 k182_14 (qw182_14 wf hQ2 (by omega) (by omega) (by omega) hT2 (nL g) 0 _ (Nat.zero_add _) h1 ?_) rfl)
  intro m2 h
  have hc0 := hcls T2
  have hq1 : 283 ≤ 283 + T.length := by omega
  have hq2 : 283 ≤ 284 + T.length := by omega
  have hT := hT2
  refine qL_at km182 k182_16 ?_
  show qB K (d + 13) 182 2 _ [(0, .ref 0), (1, .ref (283 + T.length)), (2, .ref (284 + T.length))] [] _ _
  iterate 2 refine qB_one rfl rfl ?_
  refine qB_is km216 (Nat.le_of_ble_eq_true rfl) rfl (Nat.le_of_ble_eq_true rfl) (Nat.le_of_ble_eq_true rfl) (qc216 (d := d + 9) hQ1 hQ2 (by omega) (by omega) (by omega) (by rw [List.length_append, S0_len]; omega) (fun v hv => by rw [h.2.2.2.1 v hv, h.2.2.2.2 v hv]; exact own_thr wf lw hv)) ?_
  rintro v1 σ1 ⟨rfl, rfl⟩
  refine ⟨Or.inl rfl, ?_⟩
  refine qB_ifF ne10 ?_
  refine qB_gow (qL_at km182 k182_17 ?_)
  show qB K (d + 13) 182 2 _ [(0, .ref 0)] [] _ _
  iterate 2 refine qB_one rfl rfl ?_
  refine qB_iv km96 (Nat.le_of_ble_eq_true rfl) (qrecv hc0 (by decide)) (Nat.le_of_ble_eq_true rfl) (Nat.le_of_ble_eq_true rfl) (q96 (d := d) (j := 4) h.1 (by omega) hT) ?_
  rintro v1 σ1 ⟨rfl, x31, rfl, c1, f1, f2⟩
  refine ⟨Or.inl rfl, ?_⟩
  replace h := h.call hq1 hq2 c1 f1 f2
  clear c1 f1 f2
  iterate 2 refine qB_one rfl rfl ?_
  refine qB_iv km96 (Nat.le_of_ble_eq_true rfl) (qrecv hc0 (by decide)) (Nat.le_of_ble_eq_true rfl) (Nat.le_of_ble_eq_true rfl) (q96 (d := d) (j := 5) h.1 (by omega) hT) ?_
  rintro v1 σ1 ⟨rfl, x32, rfl, c1, f1, f2⟩
  refine ⟨Or.inl rfl, ?_⟩
  replace h := h.call hq1 hq2 c1 f1 f2
  clear c1 f1 f2
  iterate 3 refine qB_one rfl rfl ?_
  refine qB_iv km96 (Nat.le_of_ble_eq_true rfl) (qrecv hc0 (by decide)) (Nat.le_of_ble_eq_true rfl) (Nat.le_of_ble_eq_true rfl) (q96 (d := d) (j := 0) h.1 (by omega) hT) ?_
  rintro v1 σ1 ⟨rfl, x33, rfl, c1, f1, f2⟩
  refine ⟨Or.inl rfl, ?_⟩
  replace h := h.call hq1 hq2 c1 f1 f2
  clear c1 f1 f2
  refine qB_icT (by
    show n32 (carried g) + g 10 = g 6
    rw [wf.2.2.2.1.1, wf.1.1, n32_add]
    exact congrArg n32 (by have := wf.lc; omega)) ?_
  refine qL_at km182 k182_19 ?_
  iterate 2 refine qB_one rfl rfl ?_
  refine qB_gow (qL_ls km182 k182_20 (qw182_20 wf lw hq1 hq2 hT (nSt g) 0 _ (Nat.zero_add _) h ?_) rfl)
  intro m9 h9
  refine qL_at km182 k182_37 ?_
  iterate 1 refine qB_one rfl rfl ?_
  exact qB_iret rfl ⟨rfl, m9, rfl, h9.1, fun a y1 y2 => h9.2.2.1 a y1 (by omega) (by omega)⟩
end ZE1
