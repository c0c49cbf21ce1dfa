/-! What is remembered: pictures count up to 243; both memories put a picture by. -/
theorem lvn_lt {d k i : Nat} (h : lvn 12 12 12 d k i) : i < 243 := by
  rcases h with h | h | h | h | h | h <;> omega
section EX
variable {g g' : PG} (e : ∀ i, i < 243 → g' i = g i)
theorem WF_ext (e : ∀ i, i < 243 → g' i = g i) (h : WF g) : WF g' := by
  have a2 := h.nb
  have a4 := h.ns
  have a6 := h.np
  have a9 := h.nl
  have n6 : nBr g' = nBr g := by unfold nBr; rw [e 6 (by omega)]
  have n10 : nL g' = nL g := by unfold nL; rw [e 10 (by omega)]
  have ec : carried g' = carried g := by
    unfold carried
    rw [n6]
    exact cnt_congr fun b hb => by rw [e _ (by omega)]
  refine WF_of h (e 6 (by omega)) (e 7 (by omega)) (e 8 (by omega)) (by rw [n10, e 10 (by omega)]; exact h.2.2.2.1.1) (by rw [n10, ec]; exact h.lc) (fun k hk => e k (by omega)) (fun b hb => by rw [e _ (by omega)]; exact h.b0 hb) (fun b hb => e _ (by omega)) (fun b hb => e _ (by omega)) (fun b hb => by rw [e _ (by omega)]; exact h.b4 hb) (fun b hb => e _ (by omega)) (fun k hk => e _ (by omega)) (fun k hk => ?_) (fun s hs i hi h3 => e _ (by omega))
  rw [n10] at hk
  rw [e _ (by omega)]; exact h.l0 hk
theorem keeps_ext (e : ∀ i, i < 243 → g' i = g i) (h : WF g) : keeps g g' :=
  ⟨WF_ext e h, by unfold nBr; rw [e 6 (by omega)], by unfold nSt; rw [e 7 (by omega)], by unfold nPl; rw [e 8 (by omega)]⟩
theorem SI_ext {T N : Nat} (e : ∀ i, i < 243 → g' i = g i) (h : SI g T N) : SI g' T N := by
  have a2 := h.w.nb
  have a6 := h.w.np
  exact SI_of h (keeps_ext e h.w) (e 9 (by omega)) (e 12 (by omega)) (e 13 (by omega)) (fun k hk => ⟨e _ (by omega), e _ (by omega)⟩) (fun b hb => e _ (by omega))
theorem SS_ext {m : XM} {a N : Nat} (e : ∀ i, i < 243 → g' i = g i) (h : SS m a g N) : SS m a g' N := by
  obtain ⟨h1, h2, h3, T, hT, si⟩ := h
  have w := si.w
  have a2 := w.nb
  have a4 := w.ns
  have a6 := w.np
  have a9 := w.nl
  have kk := keeps_ext e w
  have n10 : nL g' = nL g := by unfold nL; rw [e 10 (by omega)]
  refine ⟨?_, ?_, ⟨?_, ?_⟩, T, hT, SI_ext e si⟩
  · intro d k i hl
    rw [kk.2.1, n10, kk.2.2.2] at hl
    rw [e i (lvn_lt (lvn_up hl a2 (by omega) a6))]
    exact h1 d k i hl
  · intro s hs
    rw [kk.2.2.1] at hs
    rw [e _ (by omega)]; exact h2 s hs
  · rw [e 7 (by omega)]; exact h3.1
  · intro s hs
    rw [kk.2.2.1] at hs
    obtain ⟨q1, q2, q3, q4⟩ := h3.2 s hs
    obtain ⟨l1, l2, -⟩ := wl w hs
    rw [e _ (by omega), e _ (by omega), e _ (by omega)]
    exact ⟨q1, q2, q3, fun i hi => by rw [e _ (by omega)]; exact q4 i hi⟩
end EX
theorem mod8 : ∀ a, a < 17 → n32 a - n32 a / n32 8 * n32 8 = n32 (a % 8) := by decide
section ME
variable {D : Nat} {m : XM} {E : Nat → XM → Prop} {Q : XM → Prop}
theorem s17 {a1 a0 : Nat} (far : a1 + 20 ≤ a0 ∨ a0 + 20 ≤ a1) (h : ∀ m', CP a1 a0 m m' → Q m') : VU (D + 3) 17 [vR 8 a1, vR 8 a0] m Q E :=
  w17_0 (s68 far h)
/-- the component puts the State at 29 by -/
theorem s13 {o k : Nat} (ho : m 74 0 = n32 o) (hk : m 74 1 = n32 k) (o8 : o < 8) (k8 : k ≤ 8)
    (h : ∀ m1, CP 29 (78 + 20 * ((o + k) % 8)) m m1 → Q (if k < 8 then um m1 74 1 (n32 (k + 1)) else um m1 74 0 (n32 ((o + 1) % 8)))) : VU (D + 4) 13 [vR 2 74, vR 8 29] m Q E := by
  have j8 : (o + k) % 8 < 8 := Nat.mod_lt _ (by omega)
  refine w13_0 ?_
  rw [ho, hk, n32_add, mod8 (o + k) (by omega), ix_n32 (show (o + k) % 8 < 2147483648 by omega)]
  refine ⟨xin_n j8 (by omega), ?_⟩
  refine s17 (a0 := 78 + 20 * ((o + k) % 8)) (by omega) ?_
  intro m1 c
  have e0 : m1 74 0 = n32 o := by rw [c.2 74 0 (by omega)]; exact ho
  have e1 : m1 74 1 = n32 k := by rw [c.2 74 1 (by omega)]; exact hk
  have h := h m1 c
  rw [e0, e1, n32_add, n32_add, mod8 (o + 1) (by omega)]
  refine ⟨fun c' => ?_, fun c' => ?_⟩
  · have := (n32_le (by omega) (by omega)).mp c'
    rw [if_neg (by omega)] at h; exact h
  · have : ¬ 8 ≤ k := fun e => c' ((n32_le (by omega) (by omega)).mpr e)
    rw [if_pos (by omega)] at h; exact h
/-- the first i of 1701 ints moved down by a picture -/
def shf (m : XM) (i : Nat) : XM := fun b k => if b = 286 ∧ k < i then m 286 (k + 243) else m b k
theorem shf_0 (m : XM) : shf m 0 = m := by
  funext b k; unfold shf; rw [if_neg (by omega)]
theorem shf_succ (m : XM) (i : Nat) : um (shf m i) 286 i (shf m i 286 (i + 243)) = shf m (i + 1) := by
  funext b k
  have e : shf m i 286 (i + 243) = m 286 (i + 243) := by unfold shf; rw [if_neg (by omega)]
  rw [e]
  unfold um shf
  by_cases h1 : b = 286
  · subst h1
    by_cases h2 : k = i
    · subst h2; rw [if_pos ⟨rfl, rfl⟩, if_pos ⟨rfl, by omega⟩]
    · rw [if_neg (fun e => h2 e.2)]
      by_cases h3 : k < i
      · rw [if_pos ⟨rfl, h3⟩, if_pos ⟨rfl, by omega⟩]
      · rw [if_neg (fun e => h3 e.2), if_neg (fun e => absurd e.2 (by omega))]
  · rw [if_neg (fun e => h1 e.1), if_neg (fun e => h1 e.1), if_neg (fun e => h1 e.1)]
end ME

