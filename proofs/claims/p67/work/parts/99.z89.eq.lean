/-! Arrays of the same whole numbers are equal, as the JDK finds it. -/
def qoff (k : Nat) : Int64 := (16 : Int32).toInt64 + ((n32 k).toInt64 <<< ((3 : Int32).toInt64 &&& 63))
theorem qoff_ok {k : Nat} (h : k < 512) : 0 ≤ qoff k ∧ (qoff k).toNatClampNeg = 16 + 8 * k ∧ qoff k &&& Int64.ofInt 7 = 0 := by
  have H : ∀ k, k < 512 → 0 ≤ qoff k ∧ (qoff k).toNatClampNeg = 16 + 8 * k ∧ qoff k &&& Int64.ofInt 7 = 0 := by decide +kernel
  exact H k h
theorem qhalf {n : Nat} (h : n ≤ 1000) : n32 n >>> (((3 : Int32) - 2) &&& 31) = n32 (n / 2) ∧ n32 (n / 2) <<< (((3 : Int32) - 2) &&& 31) = n32 (n / 2 * 2) := by
  have H : ∀ n, n < 1001 → n32 n >>> (((3 : Int32) - 2) &&& 31) = n32 (n / 2) ∧ n32 (n / 2) <<< (((3 : Int32) - 2) &&& 31) = n32 (n / 2 * 2) := by decide +kernel
  exact H n (by omega)
theorem lg_same (x : Int64) : lg_cmp x x = 0 := by
  unfold lg_cmp
  simp
theorem qtail {n : Nat} : n - n / 2 * 2 = n % 2 := by omega
section QEQ
variable {K : XK} {d : Nat} {S : List XC} {e : Nat} {w : Nat → Value} {m : XM}
theorem qrecv31 {S : List XC} {vs : List Value} (hN : S.length ≤ 1000000) : xrecv 31 S (.ref 1000004 :: vs) = true := by
  unfold xrecv
  dsimp only
  rw [if_neg (by decide), qfar hN (by decide)]
  rfl
theorem qc219 {a n k : Nat} (ha : S[a]? = some (20, n, [])) (hk : 2 * k + 2 ≤ n) (hn : n ≤ 1000) : qM K d 219 [.ref 1000004, .ref a, .long (qoff k)] (S, e, w, m) (qE (some (.long (xgl (m a (2 * k)) (m a (2 * k + 1))))) (S, e, w, m)) := by
  obtain ⟨o1, o2, o3⟩ := qoff_ok (k := k) (by omega)
  refine qL_at km219 k219_0 ?_
  iterate 2 refine qB_one rfl rfl ?_
  refine qB_one (ls' := [(0, .ref 1000004), (1, .ref a), (2, .long (qoff k))]) (st' := [.long 0]) (σ1 := (S, e, w, m)) rfl ?_ ?_
  · show some (_, [Value.long (qoff k &&& Int64.ofInt 7)], _) = _
    rw [o3]; rfl
  iterate 2 refine qB_one rfl rfl ?_
  refine qB_ifF (by unfold xct; decide) ?_
  refine qB_gow (qL_at km219 k219_1 ?_)
  iterate 3 refine qB_one rfl rfl ?_
  refine q_getl ha ⟨o1, by omega, by omega, by omega, Nat.le_of_ble_eq_true rfl⟩ ?_
  refine qB_lret ⟨?_, rfl⟩
  rw [o2, show (16 + 8 * k - 16) / 4 = 2 * k by omega]
/-- the walk over pairs -/
theorem qw218 {a b n : Nat} (ha : S[a]? = some (20, n, [])) (hb : S[b]? = some (20, n, [])) (hn : n ≤ 1000) (hN : S.length ≤ 1000000) (heq : ∀ i, i < n → m a i = m b i) : ∀ (j k : Nat), k + j = n / 2 →
    qL K (d + 1) 218 1 [(0, .ref a), (1, .long (16 : Int32).toInt64), (3, .ref b), (4, .long (16 : Int32).toInt64), (6, .int (n32 n)), (7, .int 2), (8, .int (3 - 2)), (9, .int (n32 k))] [] (S, e, w, m) (qE (some (.int (n32 (n % 2) ^^^ Int32.ofInt (-1)))) (S, e, w, m)) := by
  intro j
  induction j with
  | zero =>
    intro k hk
    refine qL_at km218 k218_1 ?_
    iterate 3 refine qB_one rfl rfl ?_
    refine qB_one (ls' := [(0, .ref a), (1, .long (16 : Int32).toInt64), (3, .ref b), (4, .long (16 : Int32).toInt64), (6, .int (n32 n)), (7, .int 2), (8, .int (3 - 2)), (9, .int (n32 k))]) (st' := [.int (n32 (n / 2)), .int (n32 k)]) (σ1 := (S, e, w, m)) rfl ?_ ?_
    · show some (_, [Value.int (n32 n >>> (((3 : Int32) - 2) &&& 31)), _], _) = _
      rw [(qhalf hn).1]; rfl
    refine qB_icT ((n32_le (by omega) (by omega)).mpr (by omega)) ?_
    refine qL_at km218 k218_5 ?_
    iterate 3 refine qB_one rfl rfl ?_
    refine qB_one (ls' := [(0, .ref a), (1, .long (16 : Int32).toInt64), (6, .int (n32 n)), (7, .int 2), (8, .int (3 - 2)), (9, .int (n32 k))]) (st' := [.int (n32 (n / 2 * 2)), .int (n32 n)]) (σ1 := (S, e, w, m)) rfl ?_ ?_
    · show some (_, [Value.int (n32 k <<< (((3 : Int32) - 2) &&& 31)), _], _) = _
      rw [show k = n / 2 by omega, (qhalf hn).2]; rfl
    refine q_sub (by omega) ?_
    iterate 3 refine qB_one rfl rfl ?_
    refine qB_icT (by unfold xct; decide) ?_
    refine qL_at km218 k218_9 ?_
    repeat refine qB_one rfl rfl ?_
    refine qB_iret rfl ⟨?_, rfl⟩
    rw [qtail]
  | succ j ih =>
    intro k hk
    refine qL_at km218 k218_1 ?_
    iterate 3 refine qB_one rfl rfl ?_
    refine qB_one (ls' := [(0, .ref a), (1, .long (16 : Int32).toInt64), (3, .ref b), (4, .long (16 : Int32).toInt64), (6, .int (n32 n)), (7, .int 2), (8, .int (3 - 2)), (9, .int (n32 k))]) (st' := [.int (n32 (n / 2)), .int (n32 k)]) (σ1 := (S, e, w, m)) rfl ?_ ?_
    · show some (_, [Value.int (n32 n >>> (((3 : Int32) - 2) &&& 31)), _], _) = _
      rw [(qhalf hn).1]; rfl
    refine qB_icF (fun q => ?_) ?_
    · have := (n32_le (a := n / 2) (b := k) (by omega) (by omega)).mp q
      omega
    refine qB_gow (qL_at km218 k218_2 ?_)
    show qB K (d + 1) 218 1 _ [(0, .ref a), (1, .long (16 : Int32).toInt64), (3, .ref b), (4, .long (16 : Int32).toInt64), (6, .int (n32 n)), (7, .int 2), (8, .int (3 - 2)), (9, .int (n32 k))] [] _ _
    iterate 10 refine qB_one rfl rfl ?_
    refine qB_iv km219 (Nat.le_of_ble_eq_true rfl) (qrecv31 hN) (Nat.le_of_ble_eq_true rfl) (Nat.le_of_ble_eq_true rfl) (qc219 (k := k) ha (by omega) hn) ?_
    rintro v1 σ1 ⟨rfl, rfl⟩
    refine ⟨Or.inl rfl, ?_⟩
    iterate 6 refine qB_one rfl rfl ?_
    refine qB_iv km219 (Nat.le_of_ble_eq_true rfl) (qrecv31 hN) (Nat.le_of_ble_eq_true rfl) (Nat.le_of_ble_eq_true rfl) (qc219 (k := k) hb (by omega) hn) ?_
    rintro v1 σ1 ⟨rfl, rfl⟩
    refine ⟨Or.inl rfl, ?_⟩
    iterate 3 refine qB_one rfl rfl ?_
    refine qB_one (ls' := [(14, .long (xgl (m b (2 * k)) (m b (2 * k + 1)))), (12, .long (xgl (m a (2 * k)) (m a (2 * k + 1)))), (10, .long ((n32 k).toInt64 <<< ((3 : Int32).toInt64 &&& 63))), (0, .ref a), (1, .long (16 : Int32).toInt64), (3, .ref b), (4, .long (16 : Int32).toInt64), (6, .int (n32 n)), (7, .int 2), (8, .int (3 - 2)), (9, .int (n32 k))]) (st' := [.int 0]) (σ1 := (S, e, w, m)) rfl ?_ ?_
    · show some (_, [Value.int (lg_cmp (xgl (m a (2 * k)) (m a (2 * k + 1))) (xgl (m b (2 * k)) (m b (2 * k + 1))))], _) = _
      rw [heq (2 * k) (by omega), heq (2 * k + 1) (by omega), lg_same]; rfl
    refine qB_ifT (by unfold xct; decide) ?_
    refine qL_at km218 k218_4 ?_
    refine qB_one (ls' := [(9, .int (n32 (k + 1))), (0, .ref a), (1, .long (16 : Int32).toInt64), (3, .ref b), (4, .long (16 : Int32).toInt64), (6, .int (n32 n)), (7, .int 2), (8, .int (3 - 2))]) (st' := []) (σ1 := (S, e, w, m)) rfl ?_ ?_
    · rw [← n32_add]; rfl
    refine qB_go ?_
    obtain ⟨q1, q2, q3, q4, q5⟩ := ih (k + 1) (by omega)
    refine ⟨q1, q2, q3, ?_, q5⟩
    cases q1 with
    | zero => cases q4
    | succ q1 => exact q4
theorem qc218 {a b n : Nat} (ha : S[a]? = some (20, n, [])) (hb : S[b]? = some (20, n, [])) (hn : n ≤ 1000) (hN : S.length ≤ 1000000) (heq : ∀ i, i < n → m a i = m b i) : qM K (d + 1) 218 [.ref a, .long (16 : Int32).toInt64, .ref b, .long (16 : Int32).toInt64, .int (n32 n), .int 2] (S, e, w, m) (qE (some (.int (n32 (n % 2) ^^^ Int32.ofInt (-1)))) (S, e, w, m)) := by
  refine qL_at km218 k218_0 ?_
  iterate 6 refine qB_one rfl rfl ?_
  refine qB_gow ?_
  obtain ⟨q1, q2, q3, q4, q5⟩ := qw218 (K := K) (d := d) (e := e) (w := w) ha hb hn hN heq (n / 2) 0 (Nat.zero_add _)
  refine ⟨q1, q2, q3, ?_, q5⟩
  cases q1 with
  | zero => cases q4
  | succ q1 => exact q4
/-- the last places, one by one -/
theorem qw217 {a b n : Nat} (ha : S[a]? = some (20, n, [])) (hb : S[b]? = some (20, n, [])) (hn : n ≤ 1000) (heq : ∀ i, i < n → m a i = m b i) : ∀ (j i : Nat), i + j = n →
    qL K d 217 6 [(0, .ref a), (1, .ref b), (2, .int (n32 n)), (3, .int (n32 i))] [] (S, e, w, m) (qE (some (.int (Int32.ofInt (-1)))) (S, e, w, m)) := by
  intro j
  induction j with
  | zero =>
    intro i hi
    refine qL_at km217 k217_6 ?_
    iterate 2 refine qB_one rfl rfl ?_
    refine qB_icT ((n32_le (by omega) (by omega)).mpr (by omega)) ?_
    refine qL_at km217 k217_10 ?_
    iterate 1 refine qB_one rfl rfl ?_
    exact qB_iret rfl ⟨rfl, rfl⟩
  | succ j ih =>
    intro i hi
    refine qL_at km217 k217_6 ?_
    iterate 2 refine qB_one rfl rfl ?_
    refine qB_icF (fun q => ?_) ?_
    · have := (n32_le (a := n) (b := i) (by omega) (by omega)).mp q
      omega
    refine qB_gow (qL_at km217 k217_7 ?_)
    iterate 2 refine qB_one rfl rfl ?_
    refine q_ialV ha (i := i) (by omega) (by omega) rfl ?_
    iterate 2 refine qB_one rfl rfl ?_
    refine q_ialV hb (i := i) (by omega) (by omega) (heq i (by omega)).symm ?_
    refine qB_icT rfl ?_
    refine qL_at km217 k217_9 ?_
    refine qB_one (ls' := [(3, .int (n32 (i + 1))), (0, .ref a), (1, .ref b), (2, .int (n32 n))]) (st' := []) (σ1 := (S, e, w, m)) rfl ?_ ?_
    · rw [← n32_add]; rfl
    refine qB_go ?_
    obtain ⟨q1, q2, q3, q4, q5⟩ := ih (i + 1) (by omega)
    refine ⟨q1, q2, q3, ?_, q5⟩
    cases q1 with
    | zero => cases q4
    | succ q1 => exact q4
theorem qc217 {a b n : Nat} (ha : S[a]? = some (20, n, [])) (hb : S[b]? = some (20, n, [])) (hn2 : 2 ≤ n) (hn : n ≤ 1000) (hN : S.length ≤ 1000000) (heq : ∀ i, i < n → m a i = m b i) : qM K (d + 2) 217 [.ref a, .ref b, .int (n32 n)] (S, e, w, m) (qE (some (.int (Int32.ofInt (-1)))) (S, e, w, m)) := by
  refine qL_at km217 k217_0 ?_
  iterate 4 refine qB_one rfl rfl ?_
  refine qB_icF (fun q => ?_) ?_
  · have := (n32_le (a := n) (b := 1) (by omega) (by omega)).mp q
    omega
  refine qB_gow (qL_at km217 k217_1 ?_)
  iterate 2 refine qB_one rfl rfl ?_
  refine q_ialV ha (i := 0) (by omega) (by omega) rfl ?_
  iterate 2 refine qB_one rfl rfl ?_
  refine q_ialV hb (i := 0) (by omega) (by omega) (heq 0 (by omega)).symm ?_
  refine qB_icT rfl ?_
  refine qL_at km217 k217_3 ?_
  iterate 8 refine qB_one rfl rfl ?_
  refine qB_is km218 (Nat.le_of_ble_eq_true rfl) rfl (Nat.le_of_ble_eq_true rfl) (Nat.le_of_ble_eq_true rfl) (qc218 ha hb hn hN heq) ?_
  rintro v1 σ1 ⟨rfl, rfl⟩
  refine ⟨Or.inl rfl, ?_⟩
  iterate 2 refine qB_one rfl rfl ?_
  have ht : n % 2 = 0 ∨ n % 2 = 1 := by omega
  refine qB_ifT ?_ ?_
  · show n32 (n % 2) ^^^ Int32.ofInt (-1) < 0
    rcases ht with q | q <;> rw [q] <;> decide
  refine qL_at km217 k217_5 ?_
  iterate 3 refine qB_one rfl rfl ?_
  refine qB_one (ls' := [(0, .ref a), (1, .ref b), (2, .int (n32 n)), (3, .int (n32 (n % 2) ^^^ Int32.ofInt (-1)))]) (st' := [.int (n32 (n % 2)), .int (n32 n)]) (σ1 := (S, e, w, m)) rfl ?_ ?_
  · show some (_, [Value.int (n32 (n % 2) ^^^ Int32.ofInt (-1) ^^^ Int32.ofInt (-1)), _], _) = _
    rw [show n32 (n % 2) ^^^ Int32.ofInt (-1) ^^^ Int32.ofInt (-1) = n32 (n % 2) by rcases ht with q | q <;> rw [q] <;> decide]
    rfl
  refine q_sub (by omega) ?_
  iterate 1 refine qB_one rfl rfl ?_
  refine qB_gow ?_
  obtain ⟨q1, q2, q3, q4, q5⟩ := qw217 (K := K) (d := d + 2) (e := e) (w := w) ha hb hn heq (n % 2) (n - n % 2) (by omega)
  refine ⟨q1, q2, q3, ?_, q5⟩
  cases q1 with
  | zero => cases q4
  | succ q1 => exact q4
theorem qc216 {a b n : Nat} (ha : S[a]? = some (20, n, [])) (hb : S[b]? = some (20, n, [])) (hab : a ≠ b) (hn2 : 2 ≤ n) (hn : n ≤ 1000) (hN : S.length ≤ 1000000) (heq : ∀ i, i < n → m a i = m b i) : qM K (d + 3) 216 [.ref a, .ref b] (S, e, w, m) (qE (some (.int 1)) (S, e, w, m)) := by
  refine qL_at km216 k216_0 ?_
  iterate 2 refine qB_one rfl rfl ?_
  refine qB_acmp ⟨ap_lt ha, ap_lt hb, hab⟩ ?_
  refine qL_at km216 k216_2 ?_
  iterate 1 refine qB_one rfl rfl ?_
  refine qB_nu ?_
  refine qB_gow (qL_at km216 k216_3 ?_)
  iterate 1 refine qB_one rfl rfl ?_
  refine qB_nn ?_
  refine qL_at km216 k216_5 ?_
  iterate 1 refine qB_one rfl rfl ?_
  refine q_alen ha (Or.inl rfl) ?_
  iterate 2 refine qB_one rfl rfl ?_
  refine q_alen hb (Or.inl rfl) ?_
  iterate 1 refine qB_one rfl rfl ?_
  refine qB_icT rfl ?_
  refine qL_at km216 k216_7 ?_
  iterate 3 refine qB_one rfl rfl ?_
  refine qB_is km217 (Nat.le_of_ble_eq_true rfl) rfl (Nat.le_of_ble_eq_true rfl) (Nat.le_of_ble_eq_true rfl) (qc217 ha hb hn2 hn hN heq) ?_
  rintro v1 σ1 ⟨rfl, rfl⟩
  refine ⟨Or.inl rfl, ?_⟩
  refine qB_ifF (by unfold xct; decide) ?_
  refine qB_gow (qL_at km216 k216_8 ?_)
  iterate 1 refine qB_one rfl rfl ?_
  refine qB_go (qL_at km216 k216_10 ?_)
  exact qB_iret rfl ⟨rfl, rfl⟩
end QEQ
