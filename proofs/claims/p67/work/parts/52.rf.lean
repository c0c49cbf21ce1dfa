/-! The reference reads; its whole tick. -/
def TXF (m : XM) (t : TX) : Prop := m 283 18 = n32 t.1 ∧ ∀ j, j < t.1 → m 290 j = t.2.2.1 j
def bfv (t : TX) : Int32 := if t.2.1 = 0 then -(n32 1) else n32 (t.2.2.2 (t.2.1 - 1))
theorem bfv_1 (t : TX) (v : Int32) (b : Nat) : bfv (tx1 t v b) = n32 b := by
  unfold bfv tx1
  dsimp only
  rw [if_neg (by omega), Nat.add_sub_cancel, if_pos rfl]
theorem TXF_1 {m : XM} {b : Nat} {t : TX} {v : Int32} (h : TXF m t) : TXF (um (um m 290 t.1 v) 283 18 (n32 (t.1 + 1))) (tx1 t v b) ∧ rfr m (um (um m 290 t.1 v) 283 18 (n32 (t.1 + 1))) := by
  obtain ⟨h1, h2⟩ := h
  refine ⟨⟨?_, ?_⟩, ?_⟩
  · rw [um_eq]; rfl
  · intro j hj
    rw [um_a (by omega)]
    unfold tx1 at hj ⊢
    dsimp only at hj ⊢
    by_cases e : j = t.1
    · subst e; rw [um_eq, if_pos rfl]
    · rw [um_k e, if_neg e]; exact h2 j (by omega)
  · intro a k c1 c2 c3 c4
    unfold um
    rw [if_neg c4, if_neg (fun e => c2 e.1)]
theorem TXF_0 {m : XM} {t : TX} (h : TXF m t) : TXF (um (um m 290 t.1 (n32 32)) 283 18 (n32 (t.1 + 1))) (tx0 t) ∧ rfr m (um (um m 290 t.1 (n32 32)) 283 18 (n32 (t.1 + 1))) := by
  obtain ⟨h1, h2⟩ := h
  refine ⟨⟨?_, ?_⟩, ?_⟩
  · rw [um_eq]; rfl
  · intro j hj
    rw [um_a (by omega)]
    unfold tx0 at hj ⊢
    dsimp only at hj ⊢
    by_cases e : j = t.1
    · subst e; rw [um_eq, if_pos rfl]
    · rw [um_k e, if_neg e]; exact h2 j (by omega)
  · intro a k c1 c2 c3 c4
    unfold um
    rw [if_neg c4, if_neg (fun e => c2 e.1)]
section RF
variable {D : Nat} {m : XM} {g : PG} {E : Nat → XM → Prop}
/-- the reading at the end of a tick -/
def rdStep (s : Nat) (g : PG) : PG := if g (99 + 12 * s + 3) = -(n32 1) ∧ rdG g s = true then gup g (99 + 12 * s + 3) (g 9) else g
def rdsG (g : PG) : PG := itr (nSt g) rdStep g
def tkR (g : PG) : PG := rdsG (tkG g)
theorem WF_rdStep {s : Nat} (h : WF g) (hs : s < nSt g) : keeps g (rdStep s g) := by
  have a4 := h.ns
  unfold rdStep
  split
  · exact WF_freeN h (Or.inr (Or.inr (Or.inr (Or.inr ⟨s, by omega, rfl⟩))))
  · exact keeps.rf h
theorem WF_rdsG (h : WF g) : keeps g (rdsG g) := keeps_itr h fun i x hi hx => WF_rdStep hx.1 (by rw [hx.2.2.1]; exact hi)
theorem WF_tkR (h : WF g) : keeps g (tkR g) := (WF_tkG h).tr (WF_rdsG (WF_tkG h).1)
end RF

