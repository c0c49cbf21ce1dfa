/-! What V says of a call of the class holds beside other cells, whatever the script. -/
theorem xtn_self {N : Nat} {T : List XC} {S : List XC} {e : Nat} {w : Nat → Value} {m0 m : XM} (h : ∀ a, a < N → m a = m0 a) : xtn N T m (S, e, w, m0) = (S ++ T, e, w, m) := by
  have : mx N m0 m = m := by
    funext a
    unfold mx
    by_cases q : a < N
    · rw [if_pos q, h a q]
    · rw [if_neg q]
  unfold xtn
  rw [this]
theorem qV {K : XK} {D y : Nat} {args : List AV} {m0 m : XM} {T : List XC} {e : Nat} {w : Nat → Value} {P : Value → XM → Prop} (h : V D y args m0 P (fun _ _ => False)) (hw : wtS args) (hT : 283 + T.length ≤ 1000000) (hag : ∀ a, a < 283 → m a = m0 a) :
    qM K D y (cvS args) (S0 ++ T, e, w, m) (fun r σ' => vrt (rtOf y) r ∧ ∃ m0' m', P (r.getD .null) m0' ∧ σ' = (S0 ++ T, e, w, m') ∧ (∀ a, a < 283 → m' a = m0' a) ∧ ∀ a, 283 ≤ a → m' a = m a) := by
  obtain ⟨n, r, m0', h1, h2⟩ := h hw (vargs_wt hw 0) (fun q hq => by cases hq)
  cases r with
  | inr x => exact h2.elim
  | inl v =>
    have hr := h1 e w
    rw [show exn (.inl v) = 0 from rfl, Nat.add_zero, ← vargs_cv] at hr
    have hf := xrun_fr (K := K) (T := T) (m1 := m) (N := 283) hT n D y 0 _ _ _ _ _ S0_len S0_len hr
    rw [xtn_self hag] at hf
    refine ⟨n, v, _, hf, h2.1, m0', mx 283 m0' m, h2.2, rfl, fun a ha => mx_at ha, fun a ha => ?_⟩
    unfold mx; rw [if_neg (by omega)]
section ZC0
variable {D : Nat} {m : XM} {E : Nat → XM → Prop}
/-- the class's append: twenty bytes behind the buffer's -/
theorem s91 {v1 v2 v3 v4 v5 : Int32} {l : Nat} (hl : l + 20 ≤ 700) (e : m 2 1 = n32 l) : VI (D + 2) 91 [vR 10 0, vI v1, vI v2, vI v3, vI v4, vI v5] m (fun _ m' => m' 2 1 = n32 (l + 20) ∧ (∀ i, i < l → m' 3 i = m 3 i) ∧ (∀ j, j < 20 → m' 3 (l + j) = wb ([v1, v2, v3, v4, v5].getD (j / 4) 0) (j % 4)) ∧ FA1 m m') E := by
  refine w91_0 (w81_0 ?_)
  have d2' : m (1 + 1) 1 = n32 l := e
  rw [d2', n32_add]
  refine ⟨fun _ => ?_, fun c' => absurd ((n32_le (by omega) (by omega)).mpr hl) c'⟩
  refine s82 (l := l) (by omega) d2' ?_
  intro m1 e1 a1 b1 f1
  refine s82 (l := l + 4) (by omega) e1 ?_
  intro m2 e2 a2 b2 f2
  refine s82 (l := l + 4 + 4) (by omega) e2 ?_
  intro m3 e3 a3 b3 f3
  refine s82 (l := l + 4 + 4 + 4) (by omega) e3 ?_
  intro m4 e4 a4 b4 f4
  refine s82 (l := l + 4 + 4 + 4 + 4) (by omega) e4 ?_
  intro m5 e5 a5 b5 f5
  refine ⟨e5, fun i hi => ?_, fun j hj => ?_, (((f1.tr f2).tr f3).tr f4).tr f5⟩
  · rw [a5 i (by omega), a4 i (by omega), a3 i (by omega), a2 i (by omega), a1 i hi]
  · obtain ⟨q, r, rfl, hr⟩ : ∃ q r, j = 4 * q + r ∧ r < 4 := ⟨j / 4, j % 4, by omega, by omega⟩
    rw [show (4 * q + r) / 4 = q by omega, show (4 * q + r) % 4 = r by omega]
    have hq : q < 5 := by omega
    match q, hq with
    | 0, _ =>
      rw [show l + (4 * 0 + r) = l + r by omega, a5 _ (by omega), a4 _ (by omega), a3 _ (by omega), a2 _ (by omega), b1 r hr]; rfl
    | 1, _ =>
      rw [show l + (4 * 1 + r) = l + 4 + r by omega, a5 _ (by omega), a4 _ (by omega), a3 _ (by omega), b2 r hr]; rfl
    | 2, _ =>
      rw [show l + (4 * 2 + r) = l + 4 + 4 + r by omega, a5 _ (by omega), a4 _ (by omega), b3 r hr]; rfl
    | 3, _ =>
      rw [show l + (4 * 3 + r) = l + 4 + 4 + 4 + r by omega, a5 _ (by omega), b4 r hr]; rfl
    | 4, _ =>
      rw [show l + (4 * 4 + r) = l + 4 + 4 + 4 + 4 + r by omega, b5 r hr]; rfl
    | q + 5, hq => exact absurd hq (by omega)
end ZC0
theorem qc91 {K : XK} {d : Nat} {T : List XC} {e : Nat} {w : Nat → Value} {m : XM} {v1 v2 v3 v4 v5 : Int32} {l : Nat} (hl : l + 20 ≤ 700) (h : m 2 1 = n32 l) (hT : 283 + T.length ≤ 1000000) : qM K (d + 2) 91 [.ref 0, .int v1, .int v2, .int v3, .int v4, .int v5] (S0 ++ T, e, w, m) (fun r σ' => (∃ x, r = some (.int x)) ∧ ∃ m', σ' = (S0 ++ T, e, w, m') ∧ m' 2 1 = n32 (l + 20) ∧ (∀ i, i < l → m' 3 i = m 3 i) ∧ (∀ j, j < 20 → m' 3 (l + j) = wb ([v1, v2, v3, v4, v5].getD (j / 4) 0) (j % 4)) ∧ ∀ b k, ¬ (b = 2 ∧ k = 1) → b ≠ 3 → m' b k = m b k) := by
  have hV := qV (K := K) (e := e) (w := w) (m := m) (T := T) (s91 (D := d) (E := fun _ _ => False) (v1 := v1) (v2 := v2) (v3 := v3) (v4 := v4) (v5 := v5) hl h) (wtS_cons (v := vR 10 0) (wtS_cons (v := vI v1) (wtS_cons (v := vI v2) (wtS_cons (v := vI v3) (wtS_cons (v := vI v4) (wtS_cons (v := vI v5) (fun q hq => by cases hq) trivial) trivial) trivial) trivial) trivial) ⟨by decide +kernel, by decide⟩) hT (fun _ _ => rfl)
  refine qL_mono hV ?_
  rintro r σ' ⟨hr, m0', m', ⟨p1, p2, p3, p4⟩, rfl, g1, g2⟩
  refine ⟨hr, m', rfl, by rw [g1 2 (by omega)]; exact p1, fun i hi => by rw [g1 3 (by omega)]; exact p2 i hi, fun j hj => by rw [g1 3 (by omega)]; exact p3 j hj, fun b k c1 c2 => ?_⟩
  by_cases q : b < 283
  · rw [g1 b q]; exact p4 b k c1 c2
  · rw [g2 b (by omega)]
