/-! The JDK's methods over any heap: texts. -/
abbrev qE (x : Option Value) (σ : XS) : Option Value → XS → Prop := fun v σ' => v = x ∧ σ' = σ
/-- the bytes of a text -/
def qA (l : List Int32) : Prop := ∀ x ∈ l, 0 ≤ x ∧ x ≤ 127
/-- the cell t is a text with the bytes l: made, or constant -/
def qTm (S : List XC) (m : XM) (t v : Nat) (l : List Int32) : Prop := S[t]? = some (14, 4, [some v, none, none, none]) ∧ S[v]? = some (21, l.length, []) ∧ m t 1 = 0 ∧ (∀ i, i < l.length → m v i = l.getD i 0) ∧ qA l ∧ l.length ≤ 1000
def qTc (t : Nat) (l : List Int32) : Prop := 1000010 ≤ t ∧ t < 1000028 ∧ xstr[t - 1000010]? = some l
def qT (S : List XC) (m : XM) (t : Nat) (l : List Int32) : Prop := (∃ v, qTm S m t v l) ∨ qTc t l
theorem qfar {S : List XC} {a : Nat} (hN : S.length ≤ 1000000) (ha : 1000000 ≤ a) : S[a]? = none := by
  rw [List.getElem?_eq_none]; omega
theorem xstr_ok : (xstr.all fun l => decide (l.length ≤ 100) && l.all fun x => decide (0 ≤ x) && decide (x ≤ 127)) = true := by decide +kernel
theorem qTc_ok {t : Nat} {l : List Int32} (h : qTc t l) : qA l ∧ l.length ≤ 1000 := by
  have h1 := List.all_eq_true.mp xstr_ok l (List.mem_of_getElem? h.2.2)
  simp only [Bool.and_eq_true, decide_eq_true_eq] at h1
  refine ⟨fun x hx => ?_, by omega⟩
  have h2 := List.all_eq_true.mp h1.2 x hx
  simpa using h2
theorem qT_ok {S : List XC} {m : XM} {t : Nat} {l : List Int32} (h : qT S m t l) : qA l ∧ l.length ≤ 1000 := by
  rcases h with ⟨v, h⟩ | h
  · exact ⟨h.2.2.2.2.1, h.2.2.2.2.2⟩
  · exact qTc_ok h
theorem qTc_b {t : Nat} {l : List Int32} (h : qTc t l) : xcb (t + 30) = some (l.length, fun j => l.getD j 0) := by
  obtain ⟨h1, h2, h3⟩ := h
  unfold xcb
  rw [if_pos (by omega), show t + 30 - 1000040 = t - 1000010 by omega, h3]
  rfl
theorem qrecvT {S : List XC} {m : XM} {t : Nat} {l : List Int32} {vs : List Value} (h : qT S m t l) (hN : S.length ≤ 1000000) : xrecv 30 S (.ref t :: vs) = true := by
  unfold xrecv
  dsimp only
  rw [if_neg (by decide)]
  rcases h with ⟨v, h⟩ | ⟨h1, h2, h3⟩
  · rw [h.1]; rfl
  · rw [qfar hN (by omega)]
    dsimp only
    simp only [Bool.or_eq_true, Bool.and_eq_true, decide_eq_true_eq]
    exact Or.inl ⟨⟨rfl, h1⟩, h2⟩
theorem qrecv {S : List XC} {rc a n : Nat} {rs : List (Option Nat)} {vs : List Value} (h : S[a]? = some (rc, n, rs)) (h15 : rc < 15) : xrecv rc S (.ref a :: vs) = true := by
  unfold xrecv
  dsimp only
  by_cases h9 : rc = 99
  · rw [if_pos h9]
  · rw [if_neg h9, h]
    simp [h15]
section QJ
variable {K : XK} {d : Nat} {S : List XC} {e : Nat} {w : Nat → Value} {m : XM}
theorem qc393 {t : Nat} {l : List Int32} (h : qT S m t l) (hN : S.length ≤ 1000000) : qM K d 393 [.ref t] (S, e, w, m) (qE (some (.int 0)) (S, e, w, m)) := by
  refine qL_at km393 k393_0 ?_
  repeat refine qB_one rfl rfl ?_
  refine qB_ifF (by unfold xct; decide) ?_
  refine qB_gow (qL_at km393 k393_1 ?_)
  repeat refine qB_one rfl rfl ?_
  have fin : ∀ st, st = [Value.int 0] → qB K d 393 3 [.goto 3] (xnorm [0] (lv_args 0 [.ref t])) st (S, e, w, m) (qE (some (.int 0)) (S, e, w, m)) := by
    rintro st rfl
    refine qB_go (qL_at km393 k393_3 ?_)
    exact qB_iret rfl ⟨rfl, rfl⟩
  rcases h with ⟨v, h⟩ | h
  · refine q_getSI h.1 (fin _ (by rw [h.2.2.1]))
  · refine q_getCI (qfar hN (by have := h.1; omega)) ⟨h.1, h.2.1⟩ (fin _ rfl)
theorem qc394 {t : Nat} {l : List Int32} (h : qT S m t l) (hN : S.length ≤ 1000000) : qM K d 394 [.ref t] (S, e, w, m) (qE (some (.int 1)) (S, e, w, m)) := by
  refine qL_at km394 k394_0 ?_
  repeat refine qB_one rfl rfl ?_
  refine qB_ifF (by unfold xct; decide) ?_
  refine qB_gow (qL_at km394 k394_1 ?_)
  repeat refine qB_one rfl rfl ?_
  have fin : ∀ st, st = [Value.int 0] → qB K d 394 2 [.ifCond .ne 3, .goto_w 2] (xnorm [0] (lv_args 0 [.ref t])) st (S, e, w, m) (qE (some (.int 1)) (S, e, w, m)) := by
    rintro st rfl
    refine qB_ifF (by unfold xct; decide) ?_
    refine qB_gow (qL_at km394 k394_2 ?_)
    repeat refine qB_one rfl rfl ?_
    refine qB_go (qL_at km394 k394_4 ?_)
    exact qB_iret rfl ⟨rfl, rfl⟩
  rcases h with ⟨v, h⟩ | h
  · refine q_getSI h.1 (fin _ (by rw [h.2.2.1]))
  · refine q_getCI (qfar hN (by have := h.1; omega)) ⟨h.1, h.2.1⟩ (fin _ rfl)
theorem qc391 {t : Nat} {l : List Int32} (h : qT S m t l) (hN : S.length ≤ 1000000) : qM K (d + 1) 391 [.ref t] (S, e, w, m) (qE (some (.int (n32 l.length))) (S, e, w, m)) := by
  refine qL_at km391 k391_0 ?_
  repeat refine qB_one rfl rfl ?_
  have fin : qB K (d + 1) 391 1 [.aload 0, .invokevirtual 393, .ishr, .ireturn] (xnorm [0] (lv_args 0 [.ref t])) [.int (n32 l.length)] (S, e, w, m) (qE (some (.int (n32 l.length))) (S, e, w, m)) := by
    repeat refine qB_one rfl rfl ?_
    refine qB_iv km393 (Nat.le_of_ble_eq_true rfl) (qrecvT h hN) (Nat.le_of_ble_eq_true rfl) (Nat.le_of_ble_eq_true rfl) (qc393 h hN) ?_
    rintro v σ1 ⟨rfl, rfl⟩
    refine ⟨Or.inl rfl, ?_⟩
    refine qB_one (i := .ishr) (ls' := xnorm [0] (lv_args 0 [.ref t])) (st' := [.int (n32 l.length)]) (σ1 := (S, e, w, m)) rfl ?_ ?_
    · show some (_, [Value.int (n32 l.length >>> (0 &&& 31))], _) = _
      rw [show n32 l.length >>> ((0 : Int32) &&& 31) = n32 l.length by simp]
    · exact qB_iret rfl ⟨rfl, rfl⟩
  have h0 := h
  rcases h with ⟨v, h⟩ | h
  · refine q_getSR h.1 rfl (q_alen h.2.1 (Or.inr (Or.inl rfl)) fin)
  · refine q_getCR (qfar hN (by have := h.1; omega)) ⟨h.1, h.2.1⟩ ?_
    exact q_alenB (qfar hN (by have := h.1; omega)) (xci_no (by have := h.1; omega)) (qTc_b h) fin
end QJ
