/-! What is remembered: pictures count up to 243; both memories put a picture by. -/
theorem lvn_lt {d k i : Nat} (h : lvn 12 12 12 d k i) : i < 243 := by
  rcases h with h | h | h | h | h | h <;> omega
section EX
variable {g g' : PG} (e : ∀ i, i < 243 → g' i = g i)
theorem WF_ext (e : ∀ i, i < 243 → g' i = g i) (h : WF g) : WF g' := by
  have a2 := h.nb
  have a4 := h.ns
  have a6 := h.np
  have a9 := h.nl
  have n6 : nBr g' = nBr g := by unfold nBr; rw [e 6 (by omega)]
  have n10 : nL g' = nL g := by unfold nL; rw [e 10 (by omega)]
  have ec : carried g' = carried g := by
    unfold carried
    rw [n6]
    exact cnt_congr fun b hb => by rw [e _ (by omega)]
  refine WF_of h (e 6 (by omega)) (e 7 (by omega)) (e 8 (by omega)) (by rw [n10, e 10 (by omega)]; exact h.2.2.2.1.1) (by rw [n10, ec]; exact h.lc) (fun k hk => e k (by omega)) (fun b hb => by rw [e _ (by omega)]; exact h.b0 hb) (fun b hb => e _ (by omega)) (fun b hb => e _ (by omega)) (fun b hb => by rw [e _ (by omega)]; exact h.b4 hb) (fun b hb => e _ (by omega)) (fun k hk => e _ (by omega)) (fun k hk => ?_) (fun s hs i hi h3 => e _ (by omega))
  rw [n10] at hk
  rw [e _ (by omega)]; exact h.l0 hk
theorem keeps_ext (e : ∀ i, i < 243 → g' i = g i) (h : WF g) : keeps g g' :=
  ⟨WF_ext e h, by unfold nBr; rw [e 6 (by omega)], by unfold nSt; rw [e 7 (by omega)], by unfold nPl; rw [e 8 (by omega)]⟩
theorem SI_ext {T N : Nat} (e : ∀ i, i < 243 → g' i = g i) (h : SI g T N) : SI g' T N := by
  have a2 := h.w.nb
  have a6 := h.w.np
  exact SI_of h (keeps_ext e h.w) (e 9 (by omega)) (e 12 (by omega)) (e 13 (by omega)) (fun k hk => ⟨e _ (by omega), e _ (by omega)⟩) (fun b hb => e _ (by omega))
theorem SS_ext {m : XM} {a N : Nat} (e : ∀ i, i < 243 → g' i = g i) (h : SS m a g N) : SS m a g' N := by
  obtain ⟨h1, h2, h3, T, hT, si⟩ := h
  have w := si.w
  have a2 := w.nb
  have a4 := w.ns
  have a6 := w.np
  have a9 := w.nl
  have kk := keeps_ext e w
  have n10 : nL g' = nL g := by unfold nL; rw [e 10 (by omega)]
  refine ⟨?_, ?_, ⟨?_, ?_⟩, T, hT, SI_ext e si⟩
  · intro d k i hl
    rw [kk.2.1, n10, kk.2.2.2] at hl
    rw [e i (lvn_lt (lvn_up hl a2 (by omega) a6))]
    exact h1 d k i hl
  · intro s hs
    rw [kk.2.2.1] at hs
    rw [e _ (by omega)]; exact h2 s hs
  · rw [e 7 (by omega)]; exact h3.1
  · intro s hs
    rw [kk.2.2.1] at hs
    obtain ⟨q1, q2, q3, q4⟩ := h3.2 s hs
    obtain ⟨l1, l2, -⟩ := wl w hs
    rw [e _ (by omega), e _ (by omega), e _ (by omega)]
    exact ⟨q1, q2, q3, fun i hi => by rw [e _ (by omega)]; exact q4 i hi⟩
end EX
theorem mod8 : ∀ a, a < 17 → n32 a - n32 a / n32 8 * n32 8 = n32 (a % 8) := by decide
section ME
variable {D : Nat} {m : XM} {E : Nat → XM → Prop} {Q : XM → Prop}
theorem s17 {a1 a0 : Nat} (far : a1 + 20 ≤ a0 ∨ a0 + 20 ≤ a1) (h : ∀ m', CP a1 a0 m m' → Q m') : VU (D + 3) 17 [vR 8 a1, vR 8 a0] m Q E :=
  w17_0 (s68 far h)
/-- the component puts the State at 29 by -/
theorem s13 {o k : Nat} (ho : m 74 0 = n32 o) (hk : m 74 1 = n32 k) (o8 : o < 8) (k8 : k ≤ 8)
    (h : ∀ m1, CP 29 (78 + 20 * ((o + k) % 8)) m m1 → Q (if k < 8 then um m1 74 1 (n32 (k + 1)) else um m1 74 0 (n32 ((o + 1) % 8)))) : VU (D + 4) 13 [vR 2 74, vR 8 29] m Q E := by
  have j8 : (o + k) % 8 < 8 := Nat.mod_lt _ (by omega)
  refine w13_0 ?_
  rw [ho, hk, n32_add, mod8 (o + k) (by omega), ix_n32 (show (o + k) % 8 < 2147483648 by omega)]
  refine ⟨xin_n j8 (by omega), ?_⟩
  refine s17 (a0 := 78 + 20 * ((o + k) % 8)) (by omega) ?_
  intro m1 c
  have e0 : m1 74 0 = n32 o := by rw [c.2 74 0 (by omega)]; exact ho
  have e1 : m1 74 1 = n32 k := by rw [c.2 74 1 (by omega)]; exact hk
  have h := h m1 c
  rw [e0, e1, n32_add, n32_add, mod8 (o + 1) (by omega)]
  refine ⟨fun c' => ?_, fun c' => ?_⟩
  · have := (n32_le (by omega) (by omega)).mp c'
    rw [if_neg (by omega)] at h; exact h
  · have : ¬ 8 ≤ k := fun e => c' ((n32_le (by omega) (by omega)).mpr e)
    rw [if_pos (by omega)] at h; exact h
/-- the first i of 1701 ints moved down by a picture -/
def shf (m : XM) (i : Nat) : XM := fun b k => if b = 286 ∧ k < i then m 286 (k + 243) else m b k
theorem shf_0 (m : XM) : shf m 0 = m := by
  funext b k; unfold shf; rw [if_neg (by omega)]
theorem shf_succ (m : XM) (i : Nat) : um (shf m i) 286 i (shf m i 286 (i + 243)) = shf m (i + 1) := by
  funext b k
  have e : shf m i 286 (i + 243) = m 286 (i + 243) := by unfold shf; rw [if_neg (by omega)]
  rw [e]
  unfold um shf
  by_cases h1 : b = 286
  · subst h1
    by_cases h2 : k = i
    · subst h2; rw [if_pos ⟨rfl, rfl⟩, if_pos ⟨rfl, by omega⟩]
    · rw [if_neg (fun e => h2 e.2)]
      by_cases h3 : k < i
      · rw [if_pos ⟨rfl, h3⟩, if_pos ⟨rfl, by omega⟩]
      · rw [if_neg (fun e => h3 e.2), if_neg (fun e => absurd e.2 (by omega))]
  · rw [if_neg (fun e => h1 e.1), if_neg (fun e => h1 e.1), if_neg (fun e => h1 e.1)]
/-- the reference puts its picture by: what changes is its store of pictures and their number -/
theorem s309 {k : Nat} (hk : m 283 7 = n32 k) (k8 : k ≤ 8)
    (h : ∀ m', (∀ b j, b ≠ 286 → ¬ (b = 283 ∧ j = 7) → m' b j = m b j) → m' 283 7 = n32 (if k < 8 then k + 1 else 8) → (∀ i, i < 243 → m' 286 ((if k < 8 then k else 7) * 243 + i) = m 284 i) →
      (∀ j, j < (if k < 8 then k else 7) → ∀ i, i < 243 → m' 286 (j * 243 + i) = m 286 ((if k < 8 then j else j + 1) * 243 + i)) → Q m') : VU (D + 1) 309 [vR 11 283] m Q E := by
  refine w309_0 ⟨fun c => ?_, fun c => ?_⟩
  · have e8 : k = 8 := by
      rw [hk] at c; exact n32_inj (by omega) (by omega) c
    subst e8
    have fin : VLU (D + 1) 309 2 [(0, vR 11 283), (1, vI (n32 1701))] [] (shf m 1701) Q E := by
      have e7 : shf m 1701 283 7 = n32 8 := by unfold shf; rw [if_neg (by omega)]; exact hk
      refine w309_2 ⟨fun _ => ?_, fun c => absurd (n32_rfl _) c⟩
      rw [um_eq, e7, n32_sub (by omega), n32_mul]
      refine s178b (p := 0) (q := 1701) (by omega) (by omega) (by omega) ?_
      have f7 : lay (um (shf m 1701) 283 7 (n32 (8 - 1))) 284 0 286 1701 243 283 7 = n32 7 := by
        unfold lay; rw [if_neg (by omega), um_eq]
      rw [f7, n32_add]
      refine h _ ?_ ?_ ?_ ?_
      · intro b j h1 h2
        show (if b = 283 ∧ j = 7 then _ else (if b = 286 ∧ _ then _ else (if b = 283 ∧ j = 7 then _ else (if b = 286 ∧ _ then _ else m b j)))) = m b j
        rw [if_neg h2, if_neg (fun e => h1 e.1), if_neg h2, if_neg (fun e => h1 e.1)]
      · rw [um_eq]; rfl
      · intro i hi
        rw [um_a (by omega)]
        unfold lay
        rw [if_pos ⟨rfl, by simp only [Nat.lt_irrefl, if_false]; omega, by simp only [Nat.lt_irrefl, if_false]; omega⟩, um_a (by omega)]
        unfold shf
        rw [if_neg (by omega)]
        simp only [Nat.lt_irrefl, if_false]
        rw [show 0 + (7 * 243 + i - 1701) = i by omega]
      · intro j hj i hi
        simp only [Nat.lt_irrefl, if_false] at hj ⊢
        rw [um_a (by omega)]
        unfold lay
        rw [if_neg (by omega), um_a (by omega)]
        unfold shf
        rw [if_pos ⟨rfl, by omega⟩]
        rw [show j * 243 + i + 243 = (j + 1) * 243 + i by omega]
    have := up (C := fun i => VLU (D + 1) 309 2 [(0, vR 11 283), (1, vI (n32 i))] [] (shf m i) Q E) (n := 1701) ?_ fin 0 (Nat.zero_le _)
    · rw [shf_0] at this; exact this
    · intro i hi ih
      refine w309_2 ?_
      simp (disch := omega) only [n32_add, xin_t, ix_n32, le_f, false_implies, true_implies, not_false_eq_true, true_and]
      rw [shf_succ]; exact ih
  · have hk8 : k < 8 := by
      have : k ≠ 8 := by rintro rfl; exact c hk
      omega
    rw [if_pos hk8, if_pos hk8] at h
    rw [hk, n32_mul]
    refine s178b (p := 0) (q := k * 243) (by omega) (by omega) (by omega) ?_
    have f7 : lay m 284 0 286 (k * 243) 243 283 7 = n32 k := by
      unfold lay; rw [if_neg (by omega)]; exact hk
    rw [f7, n32_add]
    refine h _ ?_ (um_eq _ _ _ _) ?_ ?_
    · intro b j h1 h2
      unfold um lay
      rw [if_neg h2, if_neg (fun e => h1 e.1)]
    · intro i hi
      rw [um_a (by omega)]
      unfold lay
      rw [if_pos ⟨rfl, by omega, by omega⟩]
      congr 1; omega
    · intro j hj i hi
      rw [um_a (by omega)]
      unfold lay
      rw [if_neg (by omega), if_pos hk8]
end ME
