/-! The JDK's builder over any heap. -/
section QA
variable {K : XK} {d y rt : Nat} {is : List Instr} {ls : XL} {r : List Value} {S : List XC} {e : Nat} {w : Nat → Value} {m : XM} {Q : Option Value → XS → Prop}
theorem q_getV {f a ci n : Nat} {rs : List (Option Nat)} {v : Int32} (hS : S[a]? = some (ci, n, rs)) (hv : m a (f % 32) = v) (hc : (Nat.beq ci (f / 32) && Nat.blt (f % 32) n && Nat.blt ci 15 && !xref ci (f % 32)) = true) (h : qB K d y rt is ls (.int v :: r) (S, e, w, m) Q) : qB K d y rt (.getfield f :: is) ls (.ref a :: r) (S, e, w, m) Q := by
  subst hv; exact q_getI hS hc h
theorem q_add {a b : Nat} {σ : XS} (h : qB K d y rt is ls (.int (n32 (a + b)) :: r) σ Q) : qB K d y rt (.iadd :: is) ls (.int (n32 b) :: .int (n32 a) :: r) σ Q := by
  refine qB_one rfl ?_ h
  show some (ls, Value.int (n32 a + n32 b) :: r, σ) = _
  rw [n32_add]
theorem q_sub {a b : Nat} {σ : XS} (hb : b ≤ a) (h : qB K d y rt is ls (.int (n32 (a - b)) :: r) σ Q) : qB K d y rt (.isub :: is) ls (.int (n32 b) :: .int (n32 a) :: r) σ Q := by
  refine qB_one rfl ?_ h
  show some (ls, Value.int (n32 a - n32 b) :: r, σ) = _
  rw [n32_sub hb]
theorem q_shl0 {x : Int32} {σ : XS} (h : qB K d y rt is ls (.int x :: r) σ Q) : qB K d y rt (.ishl :: is) ls (.int 0 :: .int x :: r) σ Q := by
  refine qB_one rfl ?_ h
  show some (ls, Value.int (x <<< ((0 : Int32) &&& 31)) :: r, σ) = _
  simp
theorem q_shr0 {x : Int32} {σ : XS} (h : qB K d y rt is ls (.int x :: r) σ Q) : qB K d y rt (.ishr :: is) ls (.int 0 :: .int x :: r) σ Q := by
  refine qB_one rfl ?_ h
  show some (ls, Value.int (x >>> ((0 : Int32) &&& 31)) :: r, σ) = _
  simp
/-- a reading with the value named -/
theorem q_balV {a n i : Nat} {rs : List (Option Nat)} {v : Int32} (hS : S[a]? = some (21, n, rs)) (hi : i < n) (hn : n ≤ 100000) (hv : m a i = v) (h : qB K d y rt is ls (.int v :: r) (S, e, w, m) Q) : qB K d y rt (.baload :: is) ls (.int (n32 i) :: .ref a :: r) (S, e, w, m) Q := by
  refine q_bal hS (xin_n hi (by omega)) ?_
  rw [show (n32 i).toNatClampNeg = i from ix_n32 (by omega), hv]; exact h
theorem q_ialV {a n i : Nat} {rs : List (Option Nat)} {v : Int32} (hS : S[a]? = some (20, n, rs)) (hi : i < n) (hn : n ≤ 100000) (hv : m a i = v) (h : qB K d y rt is ls (.int v :: r) (S, e, w, m) Q) : qB K d y rt (.iaload :: is) ls (.int (n32 i) :: .ref a :: r) (S, e, w, m) Q := by
  refine q_ial hS (xin_n hi (by omega)) ?_
  rw [show (n32 i).toNatClampNeg = i from ix_n32 (by omega), hv]; exact h
theorem q_iastV {a n i : Nat} {v : Int32} {rs : List (Option Nat)} (hS : S[a]? = some (20, n, rs)) (hi : i < n) (hn : n ≤ 100000) (h : qB K d y rt is ls r (S, e, w, um m a i v) Q) : qB K d y rt (.iastore :: is) ls (.int v :: .int (n32 i) :: .ref a :: r) (S, e, w, m) Q := by
  refine q_iast hS (xin_n hi (by omega)) ?_
  rw [show (n32 i).toNatClampNeg = i from ix_n32 (by omega)]; exact h
theorem q_bastV {a n i : Nat} {v u : Int32} {rs : List (Option Nat)} (hS : S[a]? = some (21, n, rs)) (hi : i < n) (hn : n ≤ 100000) (hv : v.toInt8.toInt32 = u) (h : qB K d y rt is ls r (S, e, w, um m a i u) Q) : qB K d y rt (.bastore :: is) ls (.int v :: .int (n32 i) :: .ref a :: r) (S, e, w, m) Q := by
  refine q_bast hS (xin_n hi (by omega)) ?_
  rw [show (n32 i).toNatClampNeg = i from ix_n32 (by omega), hv]; exact h
theorem q_narrV {t : ArrayType} {n : Nat} (ht : xkind t = 20 ∨ xkind t = 21 ∨ xkind t = 22) (hn : n ≤ 5000) (hf : xfresh S ls r = true) (h : qB K d y rt is ls (.ref S.length :: r) (S ++ [(xkind t, n, [])], e, w, uz m S.length) Q) : qB K d y rt (.newarray t :: is) ls (.int (n32 n) :: r) (S, e, w, m) Q := by
  refine q_narr ht ⟨(n32_le (a := 0) (b := n) (by omega) (by omega)).mpr (Nat.zero_le _), by rw [show (n32 n).toNatClampNeg = n from ix_n32 (by omega)]; exact hn⟩ hf ?_
  rw [show (n32 n).toNatClampNeg = n from ix_n32 (by omega)]; exact h
end QA
/-- references stay inside, or are constant -/
def qG (S : List XC) : Prop := S.all (fun x => x.2.2.all (fun r => match r with
    | some b => decide (b < S.length) || decide (1000000 ≤ b)
    | none => true)) = true
def qsum (S : List XC) : Nat := (S.map (fun x => x.2.1)).sum
/-- what may have become of cells: at most c more, none longer than 1000; the old ones outside E are as before -/
def qS (S : List XC) (m : XM) (S' : List XC) (m' : XM) (E : Nat → Prop) (c : Nat) : Prop :=
  S.length ≤ S'.length ∧ S'.length ≤ S.length + c ∧ qsum S' ≤ qsum S + 1000 * c ∧ (qG S → qG S') ∧ ∀ b, b < S.length → ¬ E b → S'[b]? = S[b]? ∧ m' b = m b
theorem qS.rf {S : List XC} {m : XM} {E : Nat → Prop} {c : Nat} : qS S m S m E c := ⟨Nat.le_refl _, Nat.le_add_right _ _, Nat.le_add_right _ _, id, fun _ _ _ => ⟨rfl, rfl⟩⟩
theorem qS.tr {S S1 S2 : List XC} {m m1 m2 : XM} {E1 E2 E : Nat → Prop} {c1 c2 c : Nat} (h1 : qS S m S1 m1 E1 c1) (h2 : qS S1 m1 S2 m2 E2 c2) (hE1 : ∀ b, b < S.length → E1 b → E b) (hE2 : ∀ b, b < S.length → E2 b → E b) (hc : c1 + c2 ≤ c) : qS S m S2 m2 E c := by
  obtain ⟨a1, a2, a3, a4, a5⟩ := h1
  obtain ⟨b1, b2, b3, b4, b5⟩ := h2
  refine ⟨by omega, by omega, by omega, fun q => b4 (a4 q), fun b hb hE => ?_⟩
  obtain ⟨x1, x2⟩ := a5 b hb (fun q => hE (hE1 b hb q))
  obtain ⟨y1, y2⟩ := b5 b (by omega) (fun q => hE (hE2 b hb q))
  exact ⟨y1.trans x1, y2.trans x2⟩
theorem qS.up {S S1 : List XC} {m m1 : XM} {E1 E : Nat → Prop} {c1 c : Nat} (h1 : qS S m S1 m1 E1 c1) (hE1 : ∀ b, b < S.length → E1 b → E b) (hc : c1 ≤ c) : qS S m S1 m1 E c := h1.tr (qS.rf (E := E) (c := 0)) hE1 (fun _ _ q => q) (by omega)
theorem qS_m {S : List XC} {m m' : XM} {E : Nat → Prop} (h : ∀ b, ¬ E b → m' b = m b) : qS S m S m' E 0 := ⟨Nat.le_refl _, Nat.le_refl _, Nat.le_refl _, id, fun b _ hE => ⟨rfl, h b hE⟩⟩
theorem qS_um {S : List XC} {m : XM} {a k : Nat} {v : Int32} : qS S m S (um m a k v) (fun b => b = a) 0 := qS_m fun b hb => by
  funext k'
  exact um_a hb
theorem qG_len {S : List XC} (h : qG S) {a : Nat} {x : XC} (hx : S[a]? = some x) {b : Nat} (hb : some b ∈ x.2.2) : b < S.length ∨ 1000000 ≤ b := by
  have h1 := List.all_eq_true.mp h x (List.mem_of_getElem? hx)
  have h2 := List.all_eq_true.mp h1 _ hb
  simpa using h2
theorem qG_push {S : List XC} {c n : Nat} {rs : List (Option Nat)} (h : qG S) (hr : ∀ q ∈ rs, q = none) : qG (S ++ [(c, n, rs)]) := by
  refine List.all_eq_true.mpr fun x hx => List.all_eq_true.mpr fun q hq => ?_
  rcases List.mem_append.mp hx with hx | hx
  · have h1 := List.all_eq_true.mp (List.all_eq_true.mp h x hx) q hq
    cases q with
    | none => rfl
    | some b =>
      simp only [Bool.or_eq_true, decide_eq_true_eq, List.length_append] at h1 ⊢
      omega
  · rw [List.mem_singleton] at hx
    subst hx
    rw [hr q hq]
theorem qG_set {S : List XC} {a c n k v : Nat} {rs : List (Option Nat)} (h : qG S) (hS : S[a]? = some (c, n, rs)) (hv : v < S.length ∨ 1000000 ≤ v) : qG (S.set a (c, n, rs.set k (some v))) := by
  refine List.all_eq_true.mpr fun x hx => List.all_eq_true.mpr fun q hq => ?_
  rw [List.length_set]
  rcases List.mem_or_eq_of_mem_set hx with hx | rfl
  · exact List.all_eq_true.mp (List.all_eq_true.mp h x hx) q hq
  · rcases List.mem_or_eq_of_mem_set hq with hq | rfl
    · exact List.all_eq_true.mp (List.all_eq_true.mp h _ (List.mem_of_getElem? hS)) q hq
    · simpa using hv
theorem qsum_push {S : List XC} {x : XC} : qsum (S ++ [x]) = qsum S + x.2.1 := by
  unfold qsum; simp
theorem qsum_set {S : List XC} {a c n : Nat} {rs rs' : List (Option Nat)} (hS : S[a]? = some (c, n, rs)) : qsum (S.set a (c, n, rs')) = qsum S := by
  unfold qsum
  rw [List.map_set]
  congr 1
  apply List.ext_getElem?
  intro i
  by_cases hi : i = a
  · subst hi
    rw [List.getElem?_set_self (by simpa using ap_lt hS), List.getElem?_map, hS]; rfl
  · rw [List.getElem?_set_ne (Ne.symm hi)]
/-- a new cell -/
theorem qS_push {S : List XC} {m m' : XM} {c n : Nat} {rs : List (Option Nat)} (hn : n ≤ 1000) (hr : ∀ q ∈ rs, q = none) (hm : ∀ b, b < S.length → m' b = m b) : qS S m (S ++ [(c, n, rs)]) m' (fun _ => False) 1 := by
  refine ⟨by rw [List.length_append]; omega, by rw [List.length_append]; exact Nat.le_refl _, by rw [qsum_push]; dsimp only; omega, fun h => qG_push h hr, fun b hb _ => ⟨?_, hm b hb⟩⟩
  rw [List.getElem?_append_left hb]
theorem qS_set {S : List XC} {m : XM} {a c n k v : Nat} {rs : List (Option Nat)} (hS : S[a]? = some (c, n, rs)) (hv : v < S.length ∨ 1000000 ≤ v) : qS S m (S.set a (c, n, rs.set k (some v))) m (fun b => b = a) 0 := by
  refine ⟨by rw [List.length_set]; exact Nat.le_refl _, by rw [List.length_set]; exact Nat.le_refl _, by rw [qsum_set hS]; exact Nat.le_refl _, fun h => qG_set h hS hv, fun b _ hE => ⟨?_, rfl⟩⟩
  rw [List.getElem?_set_ne (fun q => hE q.symm)]
theorem uz_ne {m : XM} {a b : Nat} (h : b ≠ a) : uz m a b = m b := by
  funext k; unfold uz; rw [if_neg h]
theorem uz_at {m : XM} {a k : Nat} : uz m a a k = 0 := by unfold uz; rw [if_pos rfl]
theorem um_f {m : XM} {a b k : Nat} {v : Int32} (h : b ≠ a) : um m a k v b = m b := funext fun _ => um_a h
theorem ucp_at {m : XM} {b j n i k : Nat} {f : Nat → Int32} : ucp m b j n f i b k = if j ≤ k ∧ k < j + n then f (k - j + i) else m b k := by
  unfold ucp
  by_cases h : j ≤ k ∧ k < j + n
  · rw [if_pos ⟨rfl, h⟩, if_pos h]
  · rw [if_neg (fun q => h q.2), if_neg h]
theorem qfresh {S : List XC} {ls : XL} {st : List Value} (hG : qG S) (hN : S.length < 1000000) (hs : st.all (xok S.length) = true) (hl : (ls.all fun q => xok S.length q.2) = true) : xfresh S ls st = true := by
  unfold xfresh
  simp only [Bool.and_eq_true, decide_eq_true_eq]
  exact ⟨⟨⟨hN, hs⟩, hl⟩, hG⟩
theorem xokI {n : Nat} {v : Int32} : xok n (.int v) = true := rfl
theorem xokR {n a : Nat} (h : a < n) : xok n (.ref a) = true := by unfold xok; simp [h]
theorem xokF {n a : Nat} (h : 1000000 ≤ a) : xok n (.ref a) = true := by unfold xok; simp [h]
theorem xft_of {f : Nat → Int32} {i n : Nat} (h : ∀ k, k < n → -128 ≤ f (i + k) ∧ f (i + k) ≤ 127) : xft f i n = true := by
  unfold xft
  refine List.all_eq_true.mpr fun k hk => ?_
  have := h k (List.mem_range.mp hk)
  simp [this]
theorem xft_to {f : Nat → Int32} {i n k : Nat} (h : xft f i n = true) (hk : k < n) : -128 ≤ f (i + k) ∧ f (i + k) ≤ 127 := by
  unfold xft at h
  have := List.all_eq_true.mp h k (List.mem_range.mpr hk)
  simpa using this
/-- the builder a with the value's cell v, of cap places, holds the bytes l -/
def qSB (S : List XC) (m : XM) (a v cap : Nat) (l : List Int32) : Prop := S[a]? = some (12, 4, [some v, none, none, none]) ∧ S[v]? = some (21, cap, []) ∧ m a 1 = 0 ∧ m a 3 = n32 l.length ∧ l.length ≤ cap ∧ cap ≤ 1000 ∧ (∀ i, i < l.length → m v i = l.getD i 0) ∧ qA l ∧ xft (m v) 0 cap = true
section QSB
variable {K : XK} {d : Nat} {S : List XC} {e : Nat} {w : Nat → Value} {m : XM}
theorem qc385 {a b : Nat} {σ : XS} (ha : a < 2147483648) (hb : b < 2147483648) : qM K d 385 [.int (n32 a), .int (n32 b)] σ (qE (some (.int (n32 (max a b)))) σ) := by
  refine qL_at km385 k385_0 ?_
  repeat refine qB_one rfl rfl ?_
  refine qB_ic (fun h => ?_) (fun h => ?_)
  · have h1 : a < b := (n32_lt ha hb).mp h
    refine qL_at km385 k385_2 ?_
    repeat refine qB_one rfl rfl ?_
    refine qB_gow (qL_at km385 k385_3 ?_)
    exact qB_iret rfl ⟨by rw [show max a b = b by omega], rfl⟩
  · have h1 : ¬ a < b := fun q => h ((n32_lt ha hb).mpr q)
    refine qB_gow (qL_at km385 k385_1 ?_)
    repeat refine qB_one rfl rfl ?_
    refine qB_go (qL_at km385 k385_3 ?_)
    exact qB_iret rfl ⟨by rw [show max a b = a by omega], rfl⟩
theorem qc386 {a b : Nat} {σ : XS} (ha : a < 2147483648) (hb : b < 2147483648) : qM K d 386 [.int (n32 a), .int (n32 b)] σ (qE (some (.int (n32 (min a b)))) σ) := by
  refine qL_at km386 k386_0 ?_
  repeat refine qB_one rfl rfl ?_
  refine qB_ic (fun h => ?_) (fun h => ?_)
  · have h1 : b < a := (n32_lt hb ha).mp h
    refine qL_at km386 k386_2 ?_
    repeat refine qB_one rfl rfl ?_
    refine qB_gow (qL_at km386 k386_3 ?_)
    exact qB_iret rfl ⟨by rw [show min a b = b by omega], rfl⟩
  · have h1 : ¬ b < a := fun q => h ((n32_lt hb ha).mpr q)
    refine qB_gow (qL_at km386 k386_1 ?_)
    repeat refine qB_one rfl rfl ?_
    refine qB_go (qL_at km386 k386_3 ?_)
    exact qB_iret rfl ⟨by rw [show min a b = a by omega], rfl⟩
theorem qc214 {a g p : Nat} {σ : XS} (h1 : 1 ≤ a + max g p) (h2 : a + max g p ≤ 100000) : qM K (d + 1) 214 [.int (n32 a), .int (n32 g), .int (n32 p)] σ (qE (some (.int (n32 (a + max g p)))) σ) := by
  refine qL_at km214 k214_0 ?_
  iterate 3 refine qB_one rfl rfl ?_
  refine qB_is km385 (Nat.le_of_ble_eq_true rfl) rfl (Nat.le_of_ble_eq_true rfl) (Nat.le_of_ble_eq_true rfl) (qc385 (a := g) (b := p) (by omega) (by omega)) ?_
  rintro v1 σ1 ⟨rfl, rfl⟩
  refine ⟨Or.inl rfl, ?_⟩
  refine q_add ?_
  iterate 3 refine qB_one rfl rfl ?_
  refine qB_icF (fun h => ?_) ?_
  · have : a + max g p ≤ 0 := (n32_le (a := a + max g p) (b := 0) (by omega) (by omega)).mp h
    omega
  refine qB_gow (qL_at km214 k214_1 ?_)
  iterate 2 refine qB_one rfl rfl ?_
  refine qB_icF (fun h => ?_) ?_
  · have : 2147483639 < a + max g p := (n32_lt (a := 2147483639) (b := a + max g p) (by omega) (by omega)).mp h
    omega
  refine qB_gow (qL_at km214 k214_2 ?_)
  iterate 1 refine qB_one rfl rfl ?_
  exact qB_iret rfl ⟨rfl, rfl⟩
theorem qc202 {a v cap : Nat} {l : List Int32} (h : qSB S m a v cap l) : qM K d 202 [.ref a] (S, e, w, m) (qE (some (.int 1)) (S, e, w, m)) := by
  refine qL_at km202 k202_0 ?_
  repeat refine qB_one rfl rfl ?_
  refine qB_ifF (by unfold xct; decide) ?_
  refine qB_gow (qL_at km202 k202_1 ?_)
  repeat refine qB_one rfl rfl ?_
  refine q_getV h.1 h.2.2.1 rfl ?_
  refine qB_ifF (by unfold xct; decide) ?_
  refine qB_gow (qL_at km202 k202_2 ?_)
  repeat refine qB_one rfl rfl ?_
  refine qB_go (qL_at km202 k202_4 ?_)
  exact qB_iret rfl ⟨rfl, rfl⟩
theorem qc203 {a v cap : Nat} {l : List Int32} (h : qSB S m a v cap l) : qM K d 203 [.ref a] (S, e, w, m) (qE (some (.int (n32 l.length))) (S, e, w, m)) := by
  refine qL_at km203 k203_0 ?_
  repeat refine qB_one rfl rfl ?_
  refine q_getV h.1 h.2.2.2.1 rfl ?_
  exact qB_iret rfl ⟨rfl, rfl⟩
theorem qc221 {a v cap : Nat} {l : List Int32} (h : qSB S m a v cap l) : qM K (d + 1) 221 [.ref a] (S, e, w, m) (qE (some (.int (n32 l.length))) (S, e, w, m)) := by
  refine qL_at km221 k221_0 ?_
  repeat refine qB_one rfl rfl ?_
  refine qB_ip km203 (Nat.le_of_ble_eq_true rfl) (qrecv h.1 (by decide)) (Nat.le_of_ble_eq_true rfl) (Nat.le_of_ble_eq_true rfl) (qc203 h) ?_
  rintro v1 σ1 ⟨rfl, rfl⟩
  refine ⟨Or.inl rfl, ?_⟩
  exact qB_iret rfl ⟨rfl, rfl⟩
theorem qc204 {a v cap : Nat} {l : List Int32} (h : qSB S m a v cap l) : qM K d 204 [.ref a] (S, e, w, m) (qE (some (.ref v)) (S, e, w, m)) := by
  refine qL_at km204 k204_0 ?_
  repeat refine qB_one rfl rfl ?_
  refine q_getR h.1 rfl rfl ?_
  exact qB_aret ⟨rfl, rfl⟩
theorem qc215 {c : Int32} {σ : XS} (h : c ≤ 127) : qM K d 215 [.int c] σ (qE (some (.int 1)) σ) := by
  refine qL_at km215 k215_0 ?_
  repeat refine qB_one rfl rfl ?_
  refine qB_icF (fun q => ?_) ?_
  · have q1 : (Int32.ofInt 255) < c := q
    rw [Int32.lt_iff_toInt_lt] at q1
    rw [Int32.le_iff_toInt_le] at h
    have e1 : (Int32.ofInt 255).toInt = 255 := by decide
    have e2 : (127 : Int32).toInt = 127 := by decide
    omega
  refine qB_gow (qL_at km215 k215_1 ?_)
  repeat refine qB_one rfl rfl ?_
  refine qB_go (qL_at km215 k215_3 ?_)
  exact qB_iret rfl ⟨rfl, rfl⟩
theorem qc211 {i j : Nat} {σ : XS} (h : i ≤ j) (hj : j < 2147483648) : qM K d 211 [.int (n32 i), .int (n32 j)] σ (qE none σ) := by
  refine qL_at km211 k211_0 ?_
  repeat refine qB_one rfl rfl ?_
  refine qB_icT ((n32_le (a := i) (b := j) (by omega) hj).mpr h) ?_
  refine qL_at km211 k211_2 ?_
  exact qB_ret ⟨rfl, rfl⟩
/-- what a builder of cap places grows to, where n are asked -/
theorem qc199 {a v cap n : Nat} {l : List Int32} (h : qSB S m a v cap l) (hn : cap < n) (hn4 : n ≤ 400) : qM K (d + 2) 199 [.ref a, .int (n32 n)] (S, e, w, m) (qE (some (.int (n32 (cap + max (n - cap) (cap + 2))))) (S, e, w, m)) := by
  refine qL_at km199 k199_0 ?_
  iterate 1 refine qB_one rfl rfl ?_
  refine q_getR h.1 rfl rfl (q_alen h.2.1 (Or.inr (Or.inl rfl)) ?_)
  iterate 3 refine qB_one rfl rfl ?_
  refine q_getV h.1 h.2.2.1 rfl (q_shl0 ?_)
  iterate 3 refine qB_one rfl rfl ?_
  refine q_sub (a := n) (b := cap) (by omega) ?_
  iterate 6 refine qB_one rfl rfl ?_
  refine q_getV h.1 h.2.2.1 rfl (q_shl0 ?_)
  refine q_add (a := cap) (b := 2) ?_
  refine qB_is km214 (Nat.le_of_ble_eq_true rfl) rfl (Nat.le_of_ble_eq_true rfl) (Nat.le_of_ble_eq_true rfl) (qc214 (a := cap) (g := n - cap) (p := cap + 2) (by omega) (by omega)) ?_
  rintro v1 σ1 ⟨rfl, rfl⟩
  refine ⟨Or.inl rfl, ?_⟩
  iterate 3 refine qB_one rfl rfl ?_
  refine qB_icT ?_ ?_
  · intro q
    have q1 : n32 (cap + max (n - cap) (cap + 2)) = n32 2147483647 := q
    have := n32_inj (by omega) (by omega) q1
    omega
  refine qL_at km199 k199_2 ?_
  iterate 2 refine qB_one rfl rfl ?_
  refine q_getV h.1 h.2.2.1 rfl (q_shr0 ?_)
  exact qB_iret rfl ⟨rfl, rfl⟩
end QSB
