/-! The law's loop: what is carried along. -/
theorem xaC {n j : Nat} {v : Value} {ls : XL} (hv : xok n v = true) (h : (ls.all fun q => xok n q.2) = true) : (((j, v) :: ls).all fun q => xok n q.2) = true := by
  show (xok n v && (ls.all fun q => xok n q.2)) = true
  rw [hv, h]; rfl
theorem xaN {n : Nat} : (([] : XL).all fun q => xok n q.2) = true := rfl
theorem xsC {n : Nat} {v : Value} {st : List Value} (hv : xok n v = true) (h : st.all (xok n) = true) : (v :: st).all (xok n) = true := by
  show (xok n v && st.all (xok n)) = true
  rw [hv, h]; rfl
theorem xsN {n : Nat} : ([] : List Value).all (xok n) = true := rfl
/-- the March's cell and what the law reads of it; the cells so far -/
def qMC (T : List XC) (m : XM) (a n c : Nat) : Prop := m a 16 = n32 n ∧ qG (S0 ++ T) ∧ T.length ≤ c ∧ qsum (S0 ++ T) ≤ 240000 + 400 * c ∧ 283 ≤ a ∧ ∃ rs, (S0 ++ T)[a]? = some (11, 24, rs)
/-- within a turn of the loop: the class shows g, the slot s holds x, the cell q what was seen of x -/
def qLS (T : List XC) (m : XM) (a q : Nat) (g : PG) (u : Option PG) (s : Nat) (x : PG) (B c : Nat) : Prop := CLS m g u s (some x) B ∧ (LW g ∧ LW x ∧ nBr g = nBr x) ∧ qMC T m a (nBr g) c ∧ 283 ≤ q ∧ (S0 ++ T)[q]? = some (20, 300, []) ∧ m q = seenG x
section ZE3
variable {T : List XC} {m m' : XM} {a q : Nat} {g g' : PG} {u u' : Option PG} {s : Nat} {x : PG} {B B' c : Nat}
theorem qMC.mv {n : Nat} (h : qMC T m a n c) (f : m' a = m a) : qMC T m' a n c := ⟨by rw [f]; exact h.1, h.2⟩
theorem qMC.push {n n1 : Nat} {c1 : Nat} (h : qMC T m a n c) (f : m' a = m a) (hn : n1 ≤ 300) : qMC (T ++ [(c1, n1, [])]) m' a n (c + 1) := by
  obtain ⟨h1, h2, h3, h4, h5, rs, h6⟩ := h
  refine ⟨by rw [f]; exact h1, ?_, by rw [List.length_append]; show T.length + 1 ≤ _; omega, ?_, h5, rs, ?_⟩
  · rw [← List.append_assoc]; exact qG_push h2 (fun q hq => by cases hq)
  · rw [← List.append_assoc, qsum_push]; dsimp only; omega
  · rw [← List.append_assoc]; exact ap_in h6
theorem qMC.lt {n : Nat} (h : qMC T m a n c) : a < (S0 ++ T).length := by obtain ⟨-, -, -, -, -, rs, h6⟩ := h; exact ap_lt h6
theorem qMC.hT {n : Nat} (h : qMC T m a n c) (hc : c ≤ 1000) : 283 + T.length ≤ 1000000 := by have := h.2.2.1; omega
theorem qMC.ln {n : Nat} (h : qMC T m a n c) (hc : c ≤ 1000) : (S0 ++ T).length = 283 + T.length ∧ T.length ≤ 1000 := ⟨by rw [List.length_append, S0_len], by have := h.2.2.1; omega⟩
theorem qLS.ask (h : qLS T m a q g u s x B c) (c1 : CLS m' g u s (some x) B) (f2 : ∀ b, 283 ≤ b → m' b = m b) : qLS T m' a q g u s x B c :=
  ⟨c1, h.2.1, h.2.2.1.mv (f2 a h.2.2.1.2.2.2.2.1), h.2.2.2.1, h.2.2.2.2.1, by rw [f2 q h.2.2.2.1]; exact h.2.2.2.2.2⟩
theorem qLS.k (h : qLS T m a q g u s x B c) (c1 : CLS m' g' u' s (some x) B') (f2 : ∀ b, 283 ≤ b → m' b = m b) (lw : LW g') (hn : nBr g' = nBr g) : qLS T m' a q g' u' s x B' c :=
  ⟨c1, ⟨lw, h.2.1.2.1, by rw [hn]; exact h.2.1.2.2⟩, by rw [hn]; exact h.2.2.1.mv (f2 a h.2.2.1.2.2.2.2.1), h.2.2.2.1, h.2.2.2.2.1, by rw [f2 q h.2.2.2.1]; exact h.2.2.2.2.2⟩
theorem qLS.hT (h : qLS T m a q g u s x B c) (hc : c ≤ 1000) : 283 + T.length ≤ 1000000 := h.2.2.1.hT hc
theorem qLS.wf (h : qLS T m a q g u s x B c) : WF g := by obtain ⟨⟨-, ⟨-, -, -, T, X, -, s⟩, -⟩, -⟩ := h; exact s.w
/-- what is seen comes into a new cell -/
theorem qLS.seen (h : qLS T m a q g u s x B c) (hs : qHS m (S0 ++ T).length g u s (some x) B (seenG g) m') : qLS (T ++ [(20, 300, [])]) m' a q g u s x B (c + 1) ∧ (S0 ++ (T ++ [((20, 300, []) : XC)]))[(S0 ++ T).length]? = some (20, 300, []) ∧ m' (S0 ++ T).length = seenG g ∧ q < (S0 ++ T).length := by
  obtain ⟨h1, h2, h3, h4, h5, h6⟩ := h
  obtain ⟨s1, s2, s3, s4⟩ := hs
  have hal := h3.lt
  have hql := ap_lt h5
  refine ⟨⟨s1, h2, h3.push (s3 a h3.2.2.2.2.1 (by omega)) (by omega), h4, ?_, by rw [s3 q h4 (by omega)]; exact h6⟩, ?_, s4, hql⟩
  · rw [← List.append_assoc]; exact ap_in h5
  · rw [← List.append_assoc]; exact ap_end
end ZE3
