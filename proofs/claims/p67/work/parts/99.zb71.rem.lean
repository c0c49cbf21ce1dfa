/-! The coupling of what is remembered, behind a change. -/
theorem ring_ne {o j k : Nat} (hj : j < k) (hk : k < j + 8) : (o + j) % 8 ≠ (o + k) % 8 := by omega
/-- the clause of CPL that speaks of the changes that can be undone -/
def CPM (m : XM) (N : Nat) : Prop := ∃ o k, m 74 0 = n32 o ∧ o < 8 ∧ m 74 1 = n32 k ∧ k ≤ 8 ∧ m 283 7 = n32 k ∧ (m 0 7 = n32 0 → k = 0) ∧ ∀ j, j < k → SS m (78 + 20 * ((o + j) % 8)) (slG m 286 j) N
theorem rem_ok {m m3 : XM} {N N' o k : Nat} (hS : SS m 29 (m 284) N) (hN : N ≤ N') (o8 : o < 8) (k8 : k ≤ 8) (hold : ∀ j, j < k → SS m (78 + 20 * ((o + j) % 8)) (slG m 286 j) N)
    (hl : m3 0 7 = n32 1) (hslot : ∀ d j, cpv d j → m3 (78 + 20 * ((o + k) % 8) + d) j = m (29 + d) j) (hring : ∀ q, q < 8 → q ≠ (o + k) % 8 → ∀ d j, d < 20 → m3 (78 + 20 * q + d) j = m (78 + 20 * q + d) j)
    (h74 : if k < 8 then m3 74 0 = n32 o ∧ m3 74 1 = n32 (k + 1) else m3 74 0 = n32 ((o + 1) % 8) ∧ m3 74 1 = n32 8) (hrt : ∀ d j, d < 5 → m3 (69 + d) j = m (69 + d) j)
    (h7 : m3 283 7 = n32 (if k < 8 then k + 1 else 8)) (hnew : ∀ i, i < 243 → m3 286 ((if k < 8 then k else 7) * 243 + i) = m 284 i) (hkeep : ∀ j, j < (if k < 8 then k else 7) → ∀ i, i < 243 → m3 286 (j * 243 + i) = m 286 ((if k < 8 then j else j + 1) * 243 + i)) : CPM m3 N' := by
  have n0 : ¬ m3 0 7 = n32 0 := by rw [hl]; exact n01
  -- the State that was put by
  have new : ∀ x : PG, (∀ i, i < 243 → x i = m 284 i) → SS m3 (78 + 20 * ((o + k) % 8)) x N' := by
    intro x hx
    refine SS_ext hx ?_
    obtain ⟨r1, r2, r3, T, hT, si⟩ := hS
    have w := si.w
    have a2 := w.nb
    have a4 := w.ns
    have a6 := w.np
    have a9 := w.nl
    refine ⟨?_, ?_, RT_eq r3 hrt, T, hT, SI_le si (by omega)⟩
    · intro d j i hd
      rw [hslot d j (lvn_cpv (lvn_up hd a2 (by omega) a6))]
      exact r1 d j i hd
    · intro s hs
      rw [hslot 2 s (Or.inr (Or.inl ⟨Or.inr rfl, by omega⟩))]
      exact r2 s hs
  -- the others
  have old : ∀ j q, j < k → q = (o + j) % 8 → q ≠ (o + k) % 8 → ∀ x : PG, (∀ i, i < 243 → x i = slG m 286 j i) → SS m3 (78 + 20 * q) x N' := by
    intro j q hj hq hne x hx
    subst hq
    have q8 : (o + j) % 8 < 8 := Nat.mod_lt _ (by omega)
    exact SS_ext hx (SS_eq (hold j hj) hN rfl (fun d i hd _ => hring _ q8 hne d i hd) hrt)
  by_cases hk : k < 8
  · rw [if_pos hk] at h74 h7 hnew hkeep
    simp only [if_pos hk] at hkeep
    refine ⟨o, k + 1, h74.1, o8, h74.2, by omega, h7, fun c => absurd c n0, ?_⟩
    intro j hj
    by_cases e : j = k
    · subst e
      exact new _ (fun i hi => hnew i hi)
    · exact old j _ (by omega) rfl (by omega) _ (fun i hi => hkeep j (by omega) i hi)
  · have e8 : k = 8 := by omega
    subst e8
    rw [if_neg (by omega)] at h74 h7 hnew hkeep
    simp only [Nat.lt_irrefl, if_false] at hkeep
    refine ⟨(o + 1) % 8, 8, h74.1, Nat.mod_lt _ (by omega), h74.2, by omega, h7, fun c => absurd c n0, ?_⟩
    intro j hj
    by_cases e : j = 7
    · subst e
      rw [show ((o + 1) % 8 + 7) % 8 = (o + 8) % 8 by omega]
      exact new _ (fun i hi => hnew i hi)
    · rw [show ((o + 1) % 8 + j) % 8 = (o + (j + 1)) % 8 by omega]
      exact old (j + 1) _ (by omega) rfl (by omega) _ (fun i hi => hkeep j (by omega) i hi)

