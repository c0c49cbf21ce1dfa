/-! The parse of a printed text: its settings, its lines. -/
def qNs (v : Nat → Nat) : Nat → Nat → List Nat
  | 0, _ => []
  | r + 1, k => (32 :: qdN (v k)) ++ qNs v r (k + 1)
theorem numE_0 {a b v : Nat} {lo hi : Int32} {s x : Nat} (hlo : lo = n32 a) (hhi : hi = n32 b) (h1 : a ≤ v) (h2 : v ≤ b) (hb : b < 100000) : numE lo hi (s, 2, x, n32 v) = 0 := by
  subst hlo; subst hhi
  unfold numE
  dsimp only
  rw [if_pos rfl, if_neg (fun q => by have := (n32_lt (by omega) (by omega)).mp q; omega), if_pos ((n32_le (by omega) (by omega)).mpr h2)]
theorem setLo_hi {k : Nat} (h : k < 6) : setHi k < 100000 := by
  have H : ∀ k, k < 6 → setHi k < 100000 := by decide +kernel
  exact H k h
theorem isD32 : isD 32 = false := by decide
theorem isL32 : isL 32 = false := by decide
theorem setF_pr {bf : BF} {n : Nat} {v : Nat → Nat} (hv : ∀ i, i < 6 → setLo i ≤ v i ∧ v i ≤ setHi i ∧ v i < 100) : ∀ (r k : Nat) (g : PG) (t : TK), k + r = 6 → qAt bf n t.2.2.1 (qNs v r k) → (t.2.2.1 + (qNs v r k).length = n ∨ isD (bf (t.2.2.1 + (qNs v r k).length)) = false) →
    ∃ g' t', setF bf n r k g t = Sum.inr (g', t') ∧ t'.2.2.1 = t.2.2.1 + (qNs v r k).length ∧ (∀ j, (j < k ∨ 6 ≤ j) → g' j = g j) ∧ ∀ j, k ≤ j → j < 6 → g' j = n32 (v j) := by
  intro r
  induction r with
  | zero =>
    intro k g t hk ha he
    exact ⟨g, t, rfl, rfl, fun _ _ => rfl, fun j h1 h2 => by omega⟩
  | succ r ih =>
    intro k g t hk ha he
    obtain ⟨v1, v2, v3⟩ := hv k (by omega)
    have hq : qNs v (r + 1) k = (32 :: qdN (v k)) ++ qNs v r (k + 1) := rfl
    rw [hq] at ha he
    obtain ⟨a1, a2⟩ := ha.app
    have hl1 : (32 :: qdN (v k)).length = 1 + (qdN (v k)).length := by rw [List.length_cons]; omega
    rw [hl1] at a2
    have hnx : t.2.2.1 + 1 + (qdN (v k)).length = n ∨ isD (bf (t.2.2.1 + 1 + (qdN (v k)).length)) = false := by
      cases r with
      | zero =>
        rw [List.length_append, hl1] at he
        have : (qNs v 0 (k + 1)).length = 0 := rfl
        rw [this] at he
        rw [show t.2.2.1 + 1 + (qdN (v k)).length = t.2.2.1 + (1 + (qdN (v k)).length + 0) by omega]; exact he
      | succ r =>
        right
        have h0 := a2.2 0 (by show 0 < ((32 :: qdN (v (k + 1))) ++ qNs v r (k + 1 + 1)).length; rw [List.length_append, List.length_cons]; omega)
        rw [Nat.add_zero] at h0
        rw [show t.2.2.1 + 1 + (qdN (v k)).length = t.2.2.1 + (1 + (qdN (v k)).length) by omega, h0]
        exact isD32
    have htk := tok_N v3 a1 hnx
    rw [setF_s, htk, if_pos (numE_0 rfl rfl v1 v2 (setLo_hi (by omega)))]
    dsimp only
    obtain ⟨g', t', e1, e2, e3, e4⟩ := ih (k + 1) (gup g k (n32 (v k))) (t.2.2.1 + 1, 2, t.2.2.1 + 1 + (qdN (v k)).length, n32 (v k)) (by omega) (by dsimp only; rw [show t.2.2.1 + 1 + (qdN (v k)).length = t.2.2.1 + (1 + (qdN (v k)).length) by omega]; exact a2) (by
      dsimp only
      rw [List.length_append, hl1] at he
      rw [show t.2.2.1 + 1 + (qdN (v k)).length + (qNs v r (k + 1)).length = t.2.2.1 + (1 + (qdN (v k)).length + (qNs v r (k + 1)).length) by omega]; exact he)
    refine ⟨g', t', e1, ?_, fun j hj => ?_, fun j h1 h2 => ?_⟩
    · rw [e2, hq, List.length_append, hl1]; dsimp only; omega
    · rw [e3 j (by omega), gup_ne (by omega)]
    · by_cases hjk : j = k
      · subst hjk; rw [e3 j (Or.inl (by omega)), gup_eq]
      · exact e4 j (by omega) h2
theorem bearerF_pr {bf : BF} {n x st lg p : Nat} {g : PG} {t1 : TK} (hp : t1.2.2.1 = p) (hx : isL x = true) (h1 : 1 ≤ st) (h2 : st < 100) (h3 : lg ≤ 20) (ha : qAt bf n p ((32 :: [x]) ++ ((32 :: qdN st) ++ (32 :: qdN lg)))) (he : p + (4 + (qdN st).length + (qdN lg).length) = n ∨ isD (bf (p + (4 + (qdN st).length + (qdN lg).length))) = false) :
    ∃ t', bearerF bf n g t1 = Sum.inr (joinG g (n32 (x - 96)) (n32 st) (n32 lg), t') ∧ t'.2.2.1 = p + (4 + (qdN st).length + (qdN lg).length) := by
  obtain ⟨a1, a2⟩ := ha.app
  obtain ⟨a3, a4⟩ := a2.app
  have l1 : (32 :: [x]).length = 2 := rfl
  have l2 : (32 :: qdN st).length = 1 + (qdN st).length := by rw [List.length_cons]; omega
  rw [l1] at a2 a3 a4
  rw [l2] at a4
  have b2 : bf (p + 2) = 32 := a3.2 0 (by rw [List.length_cons]; omega)
  have b3 : bf (p + 2 + (1 + (qdN st).length)) = 32 := a4.2 0 (by rw [List.length_cons]; omega)
  have k1 := tok_bW (bf := bf) (n := n) (p := p) (l := [x]) (Nat.le_refl _) (by show 1 ≤ 8; omega) (fun i hi => by
    have : i = 0 := by simp only [List.length_singleton] at hi; omega
    subst this; exact hx) a1 (Or.inr (by show isL (bf (p + 2)) = false; rw [b2]; exact isL32))
  have k2 := tok_N (bf := bf) (n := n) (p := p + 2) h2 a3 (Or.inr (by rw [show p + 2 + 1 + (qdN st).length = p + 2 + (1 + (qdN st).length) by omega, b3]; exact isD32))
  have k3 := tok_N (bf := bf) (n := n) (p := p + 2 + (1 + (qdN st).length)) (by omega : lg < 100) a4 (by rw [show p + 2 + (1 + (qdN st).length) + 1 + (qdN lg).length = p + (4 + (qdN st).length + (qdN lg).length) by omega]; exact he)
  rw [show p + 2 + 1 + (qdN st).length = p + 2 + (1 + (qdN st).length) by omega] at k2
  rw [show p + 1 + [x].length = p + 2 from rfl] at k1
  have hb : bf (p + 1) = x := a1.2 1 (by show 1 < 2; omega)
  unfold bearerF
  rw [hp, k1]
  dsimp only
  rw [k2]
  dsimp only
  rw [k3]
  dsimp only
  rw [if_pos ⟨rfl, by omega⟩, if_pos (numE_0 rfl rfl h1 (by omega) (by omega)), if_pos (numE_0 rfl rfl (Nat.zero_le _) h3 (by omega)), hb]
  exact ⟨_, rfl, by dsimp only; omega⟩
theorem planF_pr {bf : BF} {n tm who p : Nat} {g : PG} {t1 : TK} (hp : t1.2.2.1 = p) (h1 : 1 ≤ tm) (h2 : tm < 100) (h3 : who + 2 ≤ nBr g) (h4 : nBr g ≤ 50) (ha : qAt bf n p ((32 :: qdN tm) ++ (32 :: qdN who))) (he : p + (2 + (qdN tm).length + (qdN who).length) = n ∨ isD (bf (p + (2 + (qdN tm).length + (qdN who).length))) = false) :
    ∃ t', planF bf n g t1 = Sum.inr (plG g (n32 tm) (n32 who), t') ∧ t'.2.2.1 = p + (2 + (qdN tm).length + (qdN who).length) := by
  obtain ⟨a3, a4⟩ := ha.app
  have l2 : (32 :: qdN tm).length = 1 + (qdN tm).length := by rw [List.length_cons]; omega
  rw [l2] at a4
  have b3 : bf (p + (1 + (qdN tm).length)) = 32 := a4.2 0 (by rw [List.length_cons]; omega)
  have k2 := tok_N (bf := bf) (n := n) (p := p) h2 a3 (Or.inr (by rw [show p + 1 + (qdN tm).length = p + (1 + (qdN tm).length) by omega, b3]; exact isD32))
  have k3 := tok_N (bf := bf) (n := n) (p := p + (1 + (qdN tm).length)) (by omega : who < 100) a4 (by rw [show p + (1 + (qdN tm).length) + 1 + (qdN who).length = p + (2 + (qdN tm).length + (qdN who).length) by omega]; exact he)
  rw [show p + 1 + (qdN tm).length = p + (1 + (qdN tm).length) by omega] at k2
  unfold planF
  rw [hp, k2]
  dsimp only
  rw [k3]
  dsimp only
  rw [if_pos (numE_0 rfl rfl h1 (by omega) (by omega)), if_pos (numE_0 (a := 0) (b := nBr g - 2) rfl (n32_sub (by omega)) (Nat.zero_le _) (by omega) (by omega))]
  exact ⟨_, rfl, by dsimp only; omega⟩
