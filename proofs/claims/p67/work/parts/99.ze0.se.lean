/-! The law's seen. -/
theorem um_gup (m : XM) (a k : Nat) (v : Int32) : um m a k v a = gup (m a) k v := by
  funext j
  unfold um gup
  by_cases h : j = k
  · rw [if_pos ⟨rfl, h⟩, if_pos h]
  · rw [if_neg (fun e => h e.2), if_neg h]
theorem uz_row (m : XM) (a : Nat) : uz m a a = fun _ => 0 := by
  funext k; unfold uz; rw [if_pos rfl]
theorem um_row {m : XM} {a k x : Nat} {v : Int32} (h : x ≠ a) : um m a k v x = m x := funext fun _ => um_a h
/-- while the cell q is written: the class as it was, other cells as in m0 -/
def qHS (m0 : XM) (q : Nat) (g : PG) (u : Option PG) (sl : Nat) (z : Option PG) (B : Nat) (f : PG) (m : XM) : Prop := CLS m g u sl z B ∧ (∀ b k, CRL b → m b k = m0 b k) ∧ (∀ a, 283 ≤ a → a ≠ q → m a = m0 a) ∧ m q = f
theorem qHS.call {m0 m m1 : XM} {q : Nat} {g : PG} {u z : Option PG} {sl B : Nat} {f : PG} (h : qHS m0 q g u sl z B f m) (hq : 283 ≤ q) (c : CLS m1 g u sl z B) (f1 : ∀ b k, CRL b → m1 b k = m b k) (f2 : ∀ a, 283 ≤ a → m1 a = m a) : qHS m0 q g u sl z B f m1 :=
  ⟨c, fun b k hb => (f1 b k hb).trans (h.2.1 b k hb), fun a h1 h2 => (f2 a h1).trans (h.2.2.1 a h1 h2), (f2 q hq).trans h.2.2.2⟩
theorem qHS.put {m0 m : XM} {q : Nat} {g : PG} {u z : Option PG} {sl B k : Nat} {v : Int32} {f : PG} (h : qHS m0 q g u sl z B f m) (hq : 283 ≤ q) : qHS m0 q g u sl z B (gup f k v) (um m q k v) := by
  have e : ∀ b k', CRL b → um m q k v b k' = m b k' := fun b k' hb => um_a (by have := hb.2; omega)
  refine ⟨CLS_fr h.1 (Nat.le_refl _) e, fun b k' hb => (e b k' hb).trans (h.2.1 b k' hb), fun a h1 h2 => (um_row h2).trans (h.2.2.1 a h1 h2), ?_⟩
  rw [um_gup, h.2.2.2]
def seen1 (g : PG) (i : Nat) (f : PG) : PG := itr i (fun j f => gup f j (cq g j)) f
def seen2i (g : PG) (b i : Nat) (f : PG) : PG := itr i (fun j f => gup f (20 + 10 * b + j) (bq g b j)) f
def seen2 (g : PG) (i : Nat) (f : PG) : PG := itr i (fun b f => seen2i g b 9 f) f
def seen3i (g : PG) (b i : Nat) (f : PG) : PG := itr i (fun j f => gup f (150 + 10 * b + j) (sq g b j)) f
def seen3 (g : PG) (i : Nat) (f : PG) : PG := itr i (fun b f => seen3i g b 6 f) f
def seen4i (g : PG) (b i : Nat) (f : PG) : PG := itr i (fun j f => gup f (220 + 3 * b + j) (lq g b j)) f
def seen4 (g : PG) (i : Nat) (f : PG) : PG := itr i (fun b f => seen4i g b 3 f) f
def seen5 (g : PG) (i : Nat) (f : PG) : PG := itr i (fun k f => gup f (260 + k) (g (171 + 3 * k + 2))) f
/-- what the law sees of a picture -/
def seenG (g : PG) : PG := seen5 g (nPl g) (seen4 g (nL g) (seen3 g (nSt g) (seen2 g (nBr g) (seen1 g 12 fun _ => 0))))
theorem seen1_0 (g f : PG) : seen1 g 0 f = f := rfl
theorem seen2_0 (g f : PG) : seen2 g 0 f = f := rfl
theorem seen3_0 (g f : PG) : seen3 g 0 f = f := rfl
theorem seen4_0 (g f : PG) : seen4 g 0 f = f := rfl
theorem seen5_0 (g f : PG) : seen5 g 0 f = f := rfl
theorem hcls (T : List XC) : (S0 ++ T)[0]? = some (10, xnf.getD 10 0, (S0.getD 0 (0, 0, [])).2.2) := ap_in (by decide +kernel)
theorem q_narrI {K : XK} {d y rt : Nat} {is : List Instr} {ls : XL} {r : List Value} {S : List XC} {e : Nat} {w : Nat → Value} {m : XM} {Q : Option Value → XS → Prop} {n : Nat} (hn : n ≤ 5000) (hf : xfresh S ls r = true) (h : qB K d y rt is ls (.ref S.length :: r) (S ++ [((20, n, []) : XC)], e, w, uz m S.length) Q) : qB K d y rt (.newarray .int :: is) ls (.int (n32 n) :: r) (S, e, w, m) Q := q_narrV (t := .int) (Or.inl rfl) hn hf h
section ZE0
variable {K : XK} {d : Nat} {T : List XC} {e : Nat} {w : Nat → Value} {m0 : XM} {g : PG} {u z : Option PG} {sl B q : Nat} {f : PG} {Q : Option Value → XS → Prop}
theorem qw183_1 (hQ : (S0 ++ T)[q]? = some (20, 300, [])) (hq : 283 ≤ q) (hT : 283 + T.length ≤ 1000000) : ∀ (j i : Nat) (m : XM), i + j = 12 → qHS m0 q g u sl z B (seen1 g i f) m → (∀ m', qHS m0 q g u sl z B (seen1 g 12 f) m' → qL K (d + 13) 183 3 [(0, .ref 0), (1, .ref q)] [] (S0 ++ T, e, w, m') Q) → qL K (d + 13) 183 1 [(0, .ref 0), (1, .ref q), (2, .int (n32 i))] [] (S0 ++ T, e, w, m) Q := by
  have hc0 := hcls T
  intro j
  induction j with
  | zero =>
    intro i m hj h cont
    refine qL_at km183 k183_1 ?_
    iterate 2 refine qB_one rfl rfl ?_
    refine qB_icT ((n32_le (a := 12) (b := i) (by omega) (by omega)).mpr (by omega)) ?_
    obtain rfl : i = 12 := by omega
    exact qL_ls km183 k183_3 (cont m h) rfl
  | succ j ih =>
    intro i m hj h cont
    refine qL_at km183 k183_1 ?_
    iterate 2 refine qB_one rfl rfl ?_
    refine qB_icF (fun y => ?_) ?_
    · have := (n32_le (a := 12) (b := i) (by omega) (by omega)).mp y
      omega
    refine qB_gow (qL_at km183 k183_2 ?_)
    show qB K (d + 13) 183 8 _ [(0, .ref 0), (1, .ref q), (2, .int (n32 i))] [] _ _
    iterate 4 refine qB_one rfl rfl ?_
    refine qB_iv km96 (Nat.le_of_ble_eq_true rfl) (qrecv hc0 (by decide)) (Nat.le_of_ble_eq_true rfl) (Nat.le_of_ble_eq_true rfl) (q96 (d := d) (j := i) h.1 (by omega) hT) ?_
    rintro v1 σ1 ⟨rfl, m1, rfl, c1, f1, f2⟩
    refine ⟨Or.inl rfl, ?_⟩
    replace h := h.call hq c1 f1 f2
    clear c1 f1 f2
    refine q_iastV hQ (by omega) (by omega) ?_
    refine qB_one (ls' := [(2, .int (n32 (i + 1))), (0, .ref 0), (1, .ref q)]) (st' := []) rfl (by rw [← n32_add]; rfl) ?_
    exact qB_go (qL_ls km183 k183_1 (ih (i + 1) _ (by omega) (h.put hq) cont) rfl)
theorem qw183_6 (wf : WF g) (hQ : (S0 ++ T)[q]? = some (20, 300, [])) (hq : 283 ≤ q) (hT : 283 + T.length ≤ 1000000) {b : Nat} (hb : b < nBr g) : ∀ (j i : Nat) (m : XM), i + j = 9 → qHS m0 q g u sl z B (seen2i g b i f) m → (∀ m', qHS m0 q g u sl z B (seen2i g b 9 f) m' → qL K (d + 13) 183 8 [(0, .ref 0), (1, .ref q), (2, .int (n32 b))] [] (S0 ++ T, e, w, m') Q) → qL K (d + 13) 183 6 [(0, .ref 0), (1, .ref q), (2, .int (n32 b)), (3, .int (n32 i))] [] (S0 ++ T, e, w, m) Q := by
  have hc0 := hcls T
  have a2 := wf.nb
  have a4 := wf.ns
  have a9 := wf.nl
  intro j
  induction j with
  | zero =>
    intro i m hj h cont
    refine qL_at km183 k183_6 ?_
    iterate 2 refine qB_one rfl rfl ?_
    refine qB_icT ((n32_le (a := 9) (b := i) (by omega) (by omega)).mpr (by omega)) ?_
    obtain rfl : i = 9 := by omega
    exact qL_ls km183 k183_8 (cont m h) rfl
  | succ j ih =>
    intro i m hj h cont
    have hx : Int32.ofInt 20 + Int32.ofInt 10 * n32 b + n32 i = n32 (20 + 10 * b + i) := by
      show n32 20 + n32 10 * n32 b + n32 i = _
      rw [n32_mul, n32_add, n32_add]
    refine qL_at km183 k183_6 ?_
    iterate 2 refine qB_one rfl rfl ?_
    refine qB_icF (fun y => ?_) ?_
    · have := (n32_le (a := 9) (b := i) (by omega) (by omega)).mp y
      omega
    refine qB_gow (qL_at km183 k183_7 ?_)
    show qB K (d + 13) 183 8 _ [(0, .ref 0), (1, .ref q), (2, .int (n32 b)), (3, .int (n32 i))] [] _ _
    iterate 7 refine qB_one rfl rfl ?_
    refine qB_one (ls' := [(0, .ref 0), (1, .ref q), (2, .int (n32 b)), (3, .int (n32 i))]) (st' := [.int (n32 (20 + 10 * b + i)), .ref q]) rfl (by rw [← hx]; rfl) ?_
    iterate 3 refine qB_one rfl rfl ?_
    refine qB_iv km98 (Nat.le_of_ble_eq_true rfl) (qrecv hc0 (by decide)) (Nat.le_of_ble_eq_true rfl) (Nat.le_of_ble_eq_true rfl) (q98 (d := d) (b := b) (i := i) h.1 hb (by omega) hT) ?_
    rintro v1 σ1 ⟨rfl, m1, rfl, c1, f1, f2⟩
    refine ⟨Or.inl rfl, ?_⟩
    replace h := h.call hq c1 f1 f2
    clear c1 f1 f2
    refine q_iastV hQ (by omega) (by omega) ?_
    refine qB_one (ls' := [(3, .int (n32 (i + 1))), (0, .ref 0), (1, .ref q), (2, .int (n32 b))]) (st' := []) rfl (by rw [← n32_add]; rfl) ?_
    exact qB_go (qL_ls km183 k183_6 (ih (i + 1) _ (by omega) (h.put hq) cont) rfl)
theorem qw183_4 (wf : WF g) (hQ : (S0 ++ T)[q]? = some (20, 300, [])) (hq : 283 ≤ q) (hT : 283 + T.length ≤ 1000000) : ∀ (j b : Nat) (m : XM), b + j = nBr g → qHS m0 q g u sl z B (seen2 g b f) m → (∀ m', qHS m0 q g u sl z B (seen2 g (nBr g) f) m' → qL K (d + 13) 183 9 [(0, .ref 0), (1, .ref q)] [] (S0 ++ T, e, w, m') Q) → qL K (d + 13) 183 4 [(0, .ref 0), (1, .ref q), (2, .int (n32 b))] [] (S0 ++ T, e, w, m) Q := by
  have hc0 := hcls T
  have a2 := wf.nb
  have a4 := wf.ns
  have a9 := wf.nl
  have ec : cq g 0 = n32 (nBr g) := wf.1.1
  intro j
  induction j with
  | zero =>
    intro b m hj h cont
    refine qL_at km183 k183_4 ?_
    iterate 3 refine qB_one rfl rfl ?_
    refine qB_iv km96 (Nat.le_of_ble_eq_true rfl) (qrecv hc0 (by decide)) (Nat.le_of_ble_eq_true rfl) (Nat.le_of_ble_eq_true rfl) (q96 (d := d) (j := 0) h.1 (by omega) hT) ?_
    rintro v1 σ1 ⟨rfl, m1, rfl, c1, f1, f2⟩
    refine ⟨Or.inl rfl, ?_⟩
    replace h := h.call hq c1 f1 f2
    clear c1 f1 f2
    refine qB_icT (by show cq g 0 ≤ n32 b; rw [ec]; exact (n32_le (by omega) (by omega)).mpr (by omega)) ?_
    obtain rfl : b = nBr g := by omega
    exact qL_ls km183 k183_9 (cont _ h) rfl
  | succ j ih =>
    intro b m hj h cont
    refine qL_at km183 k183_4 ?_
    iterate 3 refine qB_one rfl rfl ?_
    refine qB_iv km96 (Nat.le_of_ble_eq_true rfl) (qrecv hc0 (by decide)) (Nat.le_of_ble_eq_true rfl) (Nat.le_of_ble_eq_true rfl) (q96 (d := d) (j := 0) h.1 (by omega) hT) ?_
    rintro v1 σ1 ⟨rfl, m1, rfl, c1, f1, f2⟩
    refine ⟨Or.inl rfl, ?_⟩
    replace h := h.call hq c1 f1 f2
    clear c1 f1 f2
    refine qB_icF (fun y => ?_) ?_
    · have y : cq g 0 ≤ n32 b := y
      rw [ec] at y
      have := (n32_le (by omega) (by omega)).mp y
      omega
    refine qB_gow (qL_at km183 k183_5 ?_)
    iterate 2 refine qB_one rfl rfl ?_
    refine qB_gow (qL_ls km183 k183_6 (qw183_6 (b := b) (f := seen2 g b f) wf hQ hq hT (by omega) 9 0 _ rfl h ?_) rfl)
    intro m2 h2
    refine qL_at km183 k183_8 ?_
    refine qB_one (ls' := [(2, .int (n32 (b + 1))), (0, .ref 0), (1, .ref q)]) (st' := []) rfl (by rw [← n32_add]; rfl) ?_
    exact qB_go (qL_ls km183 k183_4 (ih (b + 1) m2 (by omega) h2 cont) rfl)
theorem qw183_12 (wf : WF g) (hQ : (S0 ++ T)[q]? = some (20, 300, [])) (hq : 283 ≤ q) (hT : 283 + T.length ≤ 1000000) {b : Nat} (hb : b < nSt g) : ∀ (j i : Nat) (m : XM), i + j = 6 → qHS m0 q g u sl z B (seen3i g b i f) m → (∀ m', qHS m0 q g u sl z B (seen3i g b 6 f) m' → qL K (d + 13) 183 14 [(0, .ref 0), (1, .ref q), (2, .int (n32 b))] [] (S0 ++ T, e, w, m') Q) → qL K (d + 13) 183 12 [(0, .ref 0), (1, .ref q), (2, .int (n32 b)), (3, .int (n32 i))] [] (S0 ++ T, e, w, m) Q := by
  have hc0 := hcls T
  have a2 := wf.nb
  have a4 := wf.ns
  have a9 := wf.nl
  intro j
  induction j with
  | zero =>
    intro i m hj h cont
    refine qL_at km183 k183_12 ?_
    iterate 2 refine qB_one rfl rfl ?_
    refine qB_icT ((n32_le (a := 6) (b := i) (by omega) (by omega)).mpr (by omega)) ?_
    obtain rfl : i = 6 := by omega
    exact qL_ls km183 k183_14 (cont m h) rfl
  | succ j ih =>
    intro i m hj h cont
    have hx : Int32.ofInt 150 + Int32.ofInt 10 * n32 b + n32 i = n32 (150 + 10 * b + i) := by
      show n32 150 + n32 10 * n32 b + n32 i = _
      rw [n32_mul, n32_add, n32_add]
    refine qL_at km183 k183_12 ?_
    iterate 2 refine qB_one rfl rfl ?_
    refine qB_icF (fun y => ?_) ?_
    · have := (n32_le (a := 6) (b := i) (by omega) (by omega)).mp y
      omega
    refine qB_gow (qL_at km183 k183_13 ?_)
    show qB K (d + 13) 183 8 _ [(0, .ref 0), (1, .ref q), (2, .int (n32 b)), (3, .int (n32 i))] [] _ _
    iterate 7 refine qB_one rfl rfl ?_
    refine qB_one (ls' := [(0, .ref 0), (1, .ref q), (2, .int (n32 b)), (3, .int (n32 i))]) (st' := [.int (n32 (150 + 10 * b + i)), .ref q]) rfl (by rw [← hx]; rfl) ?_
    iterate 3 refine qB_one rfl rfl ?_
    refine qB_iv km99 (Nat.le_of_ble_eq_true rfl) (qrecv hc0 (by decide)) (Nat.le_of_ble_eq_true rfl) (Nat.le_of_ble_eq_true rfl) (q99 (d := d) (s := b) (i := i) h.1 hb (by omega) hT) ?_
    rintro v1 σ1 ⟨rfl, m1, rfl, c1, f1, f2⟩
    refine ⟨Or.inl rfl, ?_⟩
    replace h := h.call hq c1 f1 f2
    clear c1 f1 f2
    refine q_iastV hQ (by omega) (by omega) ?_
    refine qB_one (ls' := [(3, .int (n32 (i + 1))), (0, .ref 0), (1, .ref q), (2, .int (n32 b))]) (st' := []) rfl (by rw [← n32_add]; rfl) ?_
    exact qB_go (qL_ls km183 k183_12 (ih (i + 1) _ (by omega) (h.put hq) cont) rfl)
theorem qw183_10 (wf : WF g) (hQ : (S0 ++ T)[q]? = some (20, 300, [])) (hq : 283 ≤ q) (hT : 283 + T.length ≤ 1000000) : ∀ (j b : Nat) (m : XM), b + j = nSt g → qHS m0 q g u sl z B (seen3 g b f) m → (∀ m', qHS m0 q g u sl z B (seen3 g (nSt g) f) m' → qL K (d + 13) 183 15 [(0, .ref 0), (1, .ref q)] [] (S0 ++ T, e, w, m') Q) → qL K (d + 13) 183 10 [(0, .ref 0), (1, .ref q), (2, .int (n32 b))] [] (S0 ++ T, e, w, m) Q := by
  have hc0 := hcls T
  have a2 := wf.nb
  have a4 := wf.ns
  have a9 := wf.nl
  have ec : cq g 1 = n32 (nSt g) := wf.2.1.1
  intro j
  induction j with
  | zero =>
    intro b m hj h cont
    refine qL_at km183 k183_10 ?_
    iterate 3 refine qB_one rfl rfl ?_
    refine qB_iv km96 (Nat.le_of_ble_eq_true rfl) (qrecv hc0 (by decide)) (Nat.le_of_ble_eq_true rfl) (Nat.le_of_ble_eq_true rfl) (q96 (d := d) (j := 1) h.1 (by omega) hT) ?_
    rintro v1 σ1 ⟨rfl, m1, rfl, c1, f1, f2⟩
    refine ⟨Or.inl rfl, ?_⟩
    replace h := h.call hq c1 f1 f2
    clear c1 f1 f2
    refine qB_icT (by show cq g 1 ≤ n32 b; rw [ec]; exact (n32_le (by omega) (by omega)).mpr (by omega)) ?_
    obtain rfl : b = nSt g := by omega
    exact qL_ls km183 k183_15 (cont _ h) rfl
  | succ j ih =>
    intro b m hj h cont
    refine qL_at km183 k183_10 ?_
    iterate 3 refine qB_one rfl rfl ?_
    refine qB_iv km96 (Nat.le_of_ble_eq_true rfl) (qrecv hc0 (by decide)) (Nat.le_of_ble_eq_true rfl) (Nat.le_of_ble_eq_true rfl) (q96 (d := d) (j := 1) h.1 (by omega) hT) ?_
    rintro v1 σ1 ⟨rfl, m1, rfl, c1, f1, f2⟩
    refine ⟨Or.inl rfl, ?_⟩
    replace h := h.call hq c1 f1 f2
    clear c1 f1 f2
    refine qB_icF (fun y => ?_) ?_
    · have y : cq g 1 ≤ n32 b := y
      rw [ec] at y
      have := (n32_le (by omega) (by omega)).mp y
      omega
    refine qB_gow (qL_at km183 k183_11 ?_)
    iterate 2 refine qB_one rfl rfl ?_
    refine qB_gow (qL_ls km183 k183_12 (qw183_12 (b := b) (f := seen3 g b f) wf hQ hq hT (by omega) 6 0 _ rfl h ?_) rfl)
    intro m2 h2
    refine qL_at km183 k183_14 ?_
    refine qB_one (ls' := [(2, .int (n32 (b + 1))), (0, .ref 0), (1, .ref q)]) (st' := []) rfl (by rw [← n32_add]; rfl) ?_
    exact qB_go (qL_ls km183 k183_10 (ih (b + 1) m2 (by omega) h2 cont) rfl)
theorem qw183_18 (wf : WF g) (hQ : (S0 ++ T)[q]? = some (20, 300, [])) (hq : 283 ≤ q) (hT : 283 + T.length ≤ 1000000) {b : Nat} (hb : b < nL g) : ∀ (j i : Nat) (m : XM), i + j = 3 → qHS m0 q g u sl z B (seen4i g b i f) m → (∀ m', qHS m0 q g u sl z B (seen4i g b 3 f) m' → qL K (d + 13) 183 20 [(0, .ref 0), (1, .ref q), (2, .int (n32 b))] [] (S0 ++ T, e, w, m') Q) → qL K (d + 13) 183 18 [(0, .ref 0), (1, .ref q), (2, .int (n32 b)), (3, .int (n32 i))] [] (S0 ++ T, e, w, m) Q := by
  have hc0 := hcls T
  have a2 := wf.nb
  have a4 := wf.ns
  have a9 := wf.nl
  intro j
  induction j with
  | zero =>
    intro i m hj h cont
    refine qL_at km183 k183_18 ?_
    iterate 2 refine qB_one rfl rfl ?_
    refine qB_icT ((n32_le (a := 3) (b := i) (by omega) (by omega)).mpr (by omega)) ?_
    obtain rfl : i = 3 := by omega
    exact qL_ls km183 k183_20 (cont m h) rfl
  | succ j ih =>
    intro i m hj h cont
    have hx : Int32.ofInt 220 + Int32.ofInt 3 * n32 b + n32 i = n32 (220 + 3 * b + i) := by
      show n32 220 + n32 3 * n32 b + n32 i = _
      rw [n32_mul, n32_add, n32_add]
    refine qL_at km183 k183_18 ?_
    iterate 2 refine qB_one rfl rfl ?_
    refine qB_icF (fun y => ?_) ?_
    · have := (n32_le (a := 3) (b := i) (by omega) (by omega)).mp y
      omega
    refine qB_gow (qL_at km183 k183_19 ?_)
    show qB K (d + 13) 183 8 _ [(0, .ref 0), (1, .ref q), (2, .int (n32 b)), (3, .int (n32 i))] [] _ _
    iterate 7 refine qB_one rfl rfl ?_
    refine qB_one (ls' := [(0, .ref 0), (1, .ref q), (2, .int (n32 b)), (3, .int (n32 i))]) (st' := [.int (n32 (220 + 3 * b + i)), .ref q]) rfl (by rw [← hx]; rfl) ?_
    iterate 3 refine qB_one rfl rfl ?_
    refine qB_iv km101 (Nat.le_of_ble_eq_true rfl) (qrecv hc0 (by decide)) (Nat.le_of_ble_eq_true rfl) (Nat.le_of_ble_eq_true rfl) (q101 (d := d) (k := b) (i := i) h.1 hb (by omega) hT) ?_
    rintro v1 σ1 ⟨rfl, m1, rfl, c1, f1, f2⟩
    refine ⟨Or.inl rfl, ?_⟩
    replace h := h.call hq c1 f1 f2
    clear c1 f1 f2
    refine q_iastV hQ (by omega) (by omega) ?_
    refine qB_one (ls' := [(3, .int (n32 (i + 1))), (0, .ref 0), (1, .ref q), (2, .int (n32 b))]) (st' := []) rfl (by rw [← n32_add]; rfl) ?_
    exact qB_go (qL_ls km183 k183_18 (ih (i + 1) _ (by omega) (h.put hq) cont) rfl)
theorem qw183_16 (wf : WF g) (hQ : (S0 ++ T)[q]? = some (20, 300, [])) (hq : 283 ≤ q) (hT : 283 + T.length ≤ 1000000) : ∀ (j b : Nat) (m : XM), b + j = nL g → qHS m0 q g u sl z B (seen4 g b f) m → (∀ m', qHS m0 q g u sl z B (seen4 g (nL g) f) m' → qL K (d + 13) 183 21 [(0, .ref 0), (1, .ref q)] [] (S0 ++ T, e, w, m') Q) → qL K (d + 13) 183 16 [(0, .ref 0), (1, .ref q), (2, .int (n32 b))] [] (S0 ++ T, e, w, m) Q := by
  have hc0 := hcls T
  have a2 := wf.nb
  have a4 := wf.ns
  have a9 := wf.nl
  have ec : cq g 5 = n32 (nL g) := wf.2.2.2.1.1
  intro j
  induction j with
  | zero =>
    intro b m hj h cont
    refine qL_at km183 k183_16 ?_
    iterate 3 refine qB_one rfl rfl ?_
    refine qB_iv km96 (Nat.le_of_ble_eq_true rfl) (qrecv hc0 (by decide)) (Nat.le_of_ble_eq_true rfl) (Nat.le_of_ble_eq_true rfl) (q96 (d := d) (j := 5) h.1 (by omega) hT) ?_
    rintro v1 σ1 ⟨rfl, m1, rfl, c1, f1, f2⟩
    refine ⟨Or.inl rfl, ?_⟩
    replace h := h.call hq c1 f1 f2
    clear c1 f1 f2
    refine qB_icT (by show cq g 5 ≤ n32 b; rw [ec]; exact (n32_le (by omega) (by omega)).mpr (by omega)) ?_
    obtain rfl : b = nL g := by omega
    exact qL_ls km183 k183_21 (cont _ h) rfl
  | succ j ih =>
    intro b m hj h cont
    refine qL_at km183 k183_16 ?_
    iterate 3 refine qB_one rfl rfl ?_
    refine qB_iv km96 (Nat.le_of_ble_eq_true rfl) (qrecv hc0 (by decide)) (Nat.le_of_ble_eq_true rfl) (Nat.le_of_ble_eq_true rfl) (q96 (d := d) (j := 5) h.1 (by omega) hT) ?_
    rintro v1 σ1 ⟨rfl, m1, rfl, c1, f1, f2⟩
    refine ⟨Or.inl rfl, ?_⟩
    replace h := h.call hq c1 f1 f2
    clear c1 f1 f2
    refine qB_icF (fun y => ?_) ?_
    · have y : cq g 5 ≤ n32 b := y
      rw [ec] at y
      have := (n32_le (by omega) (by omega)).mp y
      omega
    refine qB_gow (qL_at km183 k183_17 ?_)
    iterate 2 refine qB_one rfl rfl ?_
    refine qB_gow (qL_ls km183 k183_18 (qw183_18 (b := b) (f := seen4 g b f) wf hQ hq hT (by omega) 3 0 _ rfl h ?_) rfl)
    intro m2 h2
    refine qL_at km183 k183_20 ?_
    refine qB_one (ls' := [(2, .int (n32 (b + 1))), (0, .ref 0), (1, .ref q)]) (st' := []) rfl (by rw [← n32_add]; rfl) ?_
    exact qB_go (qL_ls km183 k183_16 (ih (b + 1) m2 (by omega) h2 cont) rfl)
theorem qw183_22 (wf : WF g) (hQ : (S0 ++ T)[q]? = some (20, 300, [])) (hq : 283 ≤ q) (hT : 283 + T.length ≤ 1000000) : ∀ (j k : Nat) (m : XM), k + j = nPl g → qHS m0 q g u sl z B (seen5 g k f) m → (∀ m', qHS m0 q g u sl z B (seen5 g (nPl g) f) m' → qL K (d + 13) 183 24 [(1, .ref q)] [] (S0 ++ T, e, w, m') Q) → qL K (d + 13) 183 22 [(0, .ref 0), (1, .ref q), (2, .int (n32 k))] [] (S0 ++ T, e, w, m) Q := by
  have hc0 := hcls T
  have a6 := wf.np
  have ec : cq g 2 = n32 (nPl g) := wf.2.2.1.1
  intro j
  induction j with
  | zero =>
    intro k m hj h cont
    refine qL_at km183 k183_22 ?_
    iterate 3 refine qB_one rfl rfl ?_
    refine qB_iv km96 (Nat.le_of_ble_eq_true rfl) (qrecv hc0 (by decide)) (Nat.le_of_ble_eq_true rfl) (Nat.le_of_ble_eq_true rfl) (q96 (d := d) (j := 2) h.1 (by omega) hT) ?_
    rintro v1 σ1 ⟨rfl, m1, rfl, c1, f1, f2⟩
    refine ⟨Or.inl rfl, ?_⟩
    replace h := h.call hq c1 f1 f2
    clear c1 f1 f2
    refine qB_icT (by show cq g 2 ≤ n32 k; rw [ec]; exact (n32_le (by omega) (by omega)).mpr (by omega)) ?_
    obtain rfl : k = nPl g := by omega
    exact qL_ls km183 k183_24 (cont _ h) rfl
  | succ j ih =>
    intro k m hj h cont
    have hx : Int32.ofInt 260 + n32 k = n32 (260 + k) := by
      show n32 260 + n32 k = _
      rw [n32_add]
    refine qL_at km183 k183_22 ?_
    iterate 3 refine qB_one rfl rfl ?_
    refine qB_iv km96 (Nat.le_of_ble_eq_true rfl) (qrecv hc0 (by decide)) (Nat.le_of_ble_eq_true rfl) (Nat.le_of_ble_eq_true rfl) (q96 (d := d) (j := 2) h.1 (by omega) hT) ?_
    rintro v1 σ1 ⟨rfl, m1, rfl, c1, f1, f2⟩
    refine ⟨Or.inl rfl, ?_⟩
    replace h := h.call hq c1 f1 f2
    clear c1 f1 f2
    refine qB_icF (fun y => ?_) ?_
    · have y : cq g 2 ≤ n32 k := y
      rw [ec] at y
      have := (n32_le (by omega) (by omega)).mp y
      omega
    refine qB_gow (qL_at km183 k183_23 ?_)
    show qB K (d + 13) 183 8 _ [(0, .ref 0), (1, .ref q), (2, .int (n32 k))] [] _ _
    iterate 3 refine qB_one rfl rfl ?_
    refine qB_one (ls' := [(0, .ref 0), (1, .ref q), (2, .int (n32 k))]) (st' := [.int (n32 (260 + k)), .ref q]) rfl (by rw [← hx]; rfl) ?_
    iterate 3 refine qB_one rfl rfl ?_
    refine qB_iv km100 (Nat.le_of_ble_eq_true rfl) (qrecv hc0 (by decide)) (Nat.le_of_ble_eq_true rfl) (Nat.le_of_ble_eq_true rfl) (q100 (d := d) (k := k) h.1 (by omega) hT) ?_
    rintro v1 σ1 ⟨rfl, m2, rfl, c1, f1, f2⟩
    refine ⟨Or.inl rfl, ?_⟩
    replace h := h.call hq c1 f1 f2
    clear c1 f1 f2
    refine q_iastV hQ (by omega) (by omega) ?_
    refine qB_one (ls' := [(2, .int (n32 (k + 1))), (0, .ref 0), (1, .ref q)]) (st' := []) rfl (by rw [← n32_add]; rfl) ?_
    exact qB_go (qL_ls km183 k183_22 (ih (k + 1) _ (by omega) (h.put hq) cont) rfl)
theorem q183 {m : XM} (hC : CLS m g u sl z B) (hG : qG (S0 ++ T)) (hT : 284 + T.length < 1000000) : qM K (d + 13) 183 [.ref 0] (S0 ++ T, e, w, m) (fun r σ' => r = some (.ref (S0 ++ T).length) ∧ ∃ m', σ' = (S0 ++ (T ++ [(20, 300, [])]), e, w, m') ∧ qHS m (S0 ++ T).length g u sl z B (seenG g) m') := by
  have wf : WF g := by obtain ⟨-, ⟨-, -, -, T, X, -, s⟩, -⟩ := hC; exact s.w
  have hl : (S0 ++ T).length = 283 + T.length := by rw [List.length_append, S0_len]
  have hT' : 283 + (T ++ [((20, 300, []) : XC)]).length ≤ 1000000 := by rw [List.length_append]; show 283 + (T.length + 1) ≤ _; omega
  have hq : 283 ≤ (S0 ++ T).length := by omega
  have hQ : (S0 ++ (T ++ [((20, 300, []) : XC)]))[(S0 ++ T).length]? = some (20, 300, []) := by rw [← List.append_assoc]; exact ap_end
  have h0 : qHS m (S0 ++ T).length g u sl z B (fun _ => 0) (uz m (S0 ++ T).length) := by
    have e : ∀ b k', CRL b → uz m (S0 ++ T).length b k' = m b k' := fun b k' hb => by rw [uz_ne (by have := hb.2; omega)]
    exact ⟨CLS_fr hC (Nat.le_refl _) e, e, fun a h1 h2 => uz_ne h2, uz_row _ _⟩
  refine qL_at km183 k183_0 ?_
  refine qB_one rfl rfl ?_
  refine q_narrI (n := 300) (by omega) (qfresh hG (by omega) rfl (by show (xok (S0 ++ T).length (Value.ref 0) && true) = true; rw [xokR (by omega)]; rfl)) ?_
  rw [List.append_assoc]
  generalize hqq : (S0 ++ T).length = q at hq hQ h0 ⊢
  iterate 3 refine qB_one rfl rfl ?_
  refine qB_gow (qL_ls km183 k183_1 (qw183_1 (T := T ++ [((20, 300, []) : XC)]) (f := fun _ => 0) hQ hq hT' 12 0 (uz m q) rfl (by rw [seen1_0]; exact h0) ?_) rfl)
  intro m1 h1
  refine qL_at km183 k183_3 ?_
  iterate 2 refine qB_one rfl rfl ?_
  refine qB_gow (qL_ls km183 k183_4 (qw183_4 (T := T ++ [((20, 300, []) : XC)]) (f := seen1 g 12 fun _ => 0) wf hQ hq hT' (nBr g) 0 m1 (Nat.zero_add _) (by rw [seen2_0]; exact h1) ?_) rfl)
  intro m2 h2
  refine qL_at km183 k183_9 ?_
  iterate 2 refine qB_one rfl rfl ?_
  refine qB_gow (qL_ls km183 k183_10 (qw183_10 (T := T ++ [((20, 300, []) : XC)]) (f := seen2 g (nBr g) (seen1 g 12 fun _ => 0)) wf hQ hq hT' (nSt g) 0 m2 (Nat.zero_add _) (by rw [seen3_0]; exact h2) ?_) rfl)
  intro m3 h3
  refine qL_at km183 k183_15 ?_
  iterate 2 refine qB_one rfl rfl ?_
  refine qB_gow (qL_ls km183 k183_16 (qw183_16 (T := T ++ [((20, 300, []) : XC)]) (f := seen3 g (nSt g) (seen2 g (nBr g) (seen1 g 12 fun _ => 0))) wf hQ hq hT' (nL g) 0 m3 (Nat.zero_add _) (by rw [seen4_0]; exact h3) ?_) rfl)
  intro m4 h4
  refine qL_at km183 k183_21 ?_
  iterate 2 refine qB_one rfl rfl ?_
  refine qB_gow (qL_ls km183 k183_22 (qw183_22 (T := T ++ [((20, 300, []) : XC)]) (f := seen4 g (nL g) (seen3 g (nSt g) (seen2 g (nBr g) (seen1 g 12 fun _ => 0)))) wf hQ hq hT' (nPl g) 0 m4 (Nat.zero_add _) (by rw [seen5_0]; exact h4) ?_) rfl)
  intro m5 h5
  refine qL_at km183 k183_24 ?_
  iterate 1 refine qB_one rfl rfl ?_
  exact qB_aret ⟨rfl, m5, rfl, h5⟩
end ZE0
