/-! Pairs: more questions of one stand (written by program: wip/whole/mkst.py). -/
theorem code0 : codeOf (n32 1) (n32 1) (n32 1) = 0 := by decide
theorem st0 {m1 : XM} {g : PG} {v : Int32} (hg : m1 284 = g) : um m1 283 0 v = smg (um m1 283 0 v) g := smg_of _ (by rw [← hg]; exact funext fun k => um_a (by omega))
theorem fin0 {m1 m2 : XM} {g : PG} {N : Nat} (hc : CPL m1 N) (hg : m1 284 = g) (f : rfr (um m1 283 0 (n32 0)) m2) : smg m2 g 283 0 = n32 0 ∧ CPL (smg m2 g) N := by
  refine ⟨?_, ?_⟩
  · rw [smg_ne (by omega), f 283 0 (by omega) (by omega) (by omega) (by omega), um_eq]
  · have e := st0 (v := n32 0) hg
    have h1 : CPL (smg (um m1 283 0 (n32 0)) g) N := by rw [← e]; exact CPL_th hc
    exact CPL_fr h1 (Nat.le_refl _) (QF_rfr f rfl)
theorem fin1 {m1 : XM} {g : PG} {N : Nat} (hc : CPL m1 N) (hg : m1 284 = g) : smg (um m1 283 0 (n32 0)) g 283 0 = n32 0 ∧ CPL (smg (um m1 283 0 (n32 0)) g) N := fin0 hc hg (rfr.rf _)
theorem idx_cases (v : Int32) {n : Nat} (hn : n ≤ 24) : v < n32 0 ∨ (¬ v < n32 0 ∧ n32 n ≤ v ∧ n32 n - n32 1 < v) ∨ ∃ i, i < n ∧ v = n32 i := by
  by_cases c1 : v < n32 0
  · exact Or.inl c1
  · right
    have e : (n32 n - n32 1).toInt = (n : Int) - 1 := by
      have : ∀ n, n < 25 → (n32 n - n32 1).toInt = (n : Int) - 1 := by decide
      exact this n (by omega)
    by_cases c2 : n32 n ≤ v
    · refine Or.inl ⟨c1, c2, ?_⟩
      rw [Int32.lt_iff_toInt_lt, e]
      rw [Int32.le_iff_toInt_le, n32_toInt (by omega)] at c2
      omega
    · right
      rw [Int32.lt_iff_toInt_lt, n32_toInt (by omega)] at c1
      rw [Int32.le_iff_toInt_le, n32_toInt (by omega)] at c2
      refine ⟨v.toInt.toNat, by omega, ?_⟩
      apply Int32.toInt_inj.mp
      rw [n32_toInt (by omega)]; omega
section PS
variable {D : Nat} {m : XM} {E : Nat → XM → Prop}
theorem s161 {s : Nat} {g : PG} {Q : Nat → XM → Prop} (w : WF g) (r : RS m 29 g) (rt : RT m 69 g) (hs : s < nSt g) (h : ∀ m', RR m' 278 (txA g s) → FD 278 m m' → Q 278 m') : VA (D + 3) 161 [vR 10 0, vI (n32 s)] m Q E :=
  w161_0 (s33 w r rt hs (Or.inr (by omega)) (Or.inr (by omega)) h)
end PS

