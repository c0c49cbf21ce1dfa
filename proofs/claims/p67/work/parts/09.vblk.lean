/-! The verification conditions of a block, of a label, of a method. -/
def xti : Value → Int32
  | .int v => v
  | _ => 0
def xtf : Value → UInt32
  | .float v => v
  | _ => 0
def xtr : Value → Nat
  | .ref v => v
  | _ => 0
def exn : XR → Nat
  | .inl _ => 0
  | .inr _ => 1
def rtOf (y : Nat) : Nat := (sg y).2.2.2
def vrt : Nat → Option Value → Prop
  | 0, v => v = none
  | 5, v => ∃ x, v = some (.long x)
  | 6, v => ∃ x, v = some (.float x)
  | 7, v => ∃ x, v = some (.double x)
  | 8, v => ∃ a, v = some (.ref a) ∧ xkd a = 5
  | _, v => ∃ x, v = some (.int x)
def vrv : Nat → Value → List AV
  | 0, _ => []
  | 5, v => [vJ (xtl v)]
  | 6, v => [vF (xtf v)]
  | 7, v => [vD (xtd v)]
  | 8, v => [vR 5 (xtr v)]
  | _, v => [vI (xti v)]
theorem vrv_ok {rt : Nat} {v : Option Value} (h : vrt rt v) : cvS (vrv rt (v.getD .null)) = v.toList ∧ wtS (vrv rt (v.getD .null)) := by
  unfold vrt at h
  split at h
  · subst h; exact ⟨rfl, fun q hq => by cases hq⟩
  · obtain ⟨x, rfl⟩ := h; exact ⟨rfl, wtS_cons (fun q hq => by cases hq) trivial⟩
  · obtain ⟨x, rfl⟩ := h; exact ⟨rfl, wtS_cons (fun q hq => by cases hq) trivial⟩
  · obtain ⟨x, rfl⟩ := h; exact ⟨rfl, wtS_cons (fun q hq => by cases hq) trivial⟩
  · obtain ⟨x, rfl, hx⟩ := h; exact ⟨rfl, wtS_cons (v := vR 5 x) (fun q hq => by cases hq) ⟨hx, by show (5 : Nat) ≠ 99; omega⟩⟩
  · obtain ⟨x, rfl⟩ := h
    unfold vrv
    split
    · rename_i h1 h2 h3 h4 h5; exact absurd rfl h1
    · rename_i h1 h2 h3 h4 h5; exact absurd rfl h2
    · rename_i h1 h2 h3 h4 h5; exact absurd rfl h3
    · rename_i h1 h2 h3 h4 h5; exact absurd rfl h4
    · rename_i h1 h2 h3 h4 h5; exact absurd rfl h5
    · exact ⟨rfl, wtS_cons (v := vI x) (fun q hq => by cases hq) trivial⟩
def vpost (rt : Nat) (r : XR) (m' : XM) (Q : Value → XM → Prop) (E : Nat → XM → Prop) : Prop := match r with
  | .inl v => vrt rt v ∧ Q (v.getD .null) m'
  | .inr x => E x m'
/-- from the label L of method y the run comes to Q, or throws as E says -/
def VL (D y L : Nat) (al : AL) (st : List AV) (m : XM) (Q : Value → XM → Prop) (E : Nat → XM → Prop) : Prop :=
  wtL al → wtS st → ∃ (n : Nat) (r : XR) (m' : XM), (∀ (e : Nat) (w : Nat → Value), xrun xK0 n D y L (cvL al) (cvS st) (S0, e, w, m) = some (r, S0, e + exn r, w, m')) ∧ vpost (rtOf y) r m' Q E
def vargs : Nat → List AV → AL
  | _, [] => []
  | i, v :: t => (i, v) :: vargs (match Nat.beq (acat v) 2 with
    | true => i + 2
    | false => i + 1) t
/-- the call of method y -/
def V (D y : Nat) (args : List AV) (m : XM) (Q : Value → XM → Prop) (E : Nat → XM → Prop) : Prop := wtS args → VL D y 0 (vargs 0 args) [] m Q E
theorem vargs_cv (args : List AV) : ∀ i, lv_args i (cvS args) = cvL (vargs i args) := by
  induction args with
  | nil => intro i; rfl
  | cons v t ih =>
    intro i
    show (i, cv v) :: lv_args (if (cv v).category = 2 then i + 2 else i + 1) (cvS t) = (i, cv v) :: cvL (vargs _ t)
    rw [cv_cat]
    cases hb : Nat.beq (acat v) 2 with
    | true => rw [if_pos (Nat.eq_of_beq_eq_true hb), ih]
    | false => rw [if_neg (Nat.ne_of_beq_eq_false hb), ih]
theorem vargs_wt {args : List AV} (h : wtS args) : ∀ i, wtL (vargs i args) := by
  induction args with
  | nil => intro i q hq; cases hq
  | cons v t ih => intro i; exact wtL_cons (ih (wtS_tl h) _) (wtS_hd h)
def vbr (c : ClassFile.Cond) (a b : Int32) (t f : Prop) : Prop :=
  match c with
  | .eq => (a = b → t) ∧ (¬ a = b → f)
  | .ne => (a = b → f) ∧ (¬ a = b → t)
  | .lt => (a < b → t) ∧ (¬ a < b → f)
  | .ge => (b ≤ a → t) ∧ (¬ b ≤ a → f)
  | .gt => (b < a → t) ∧ (¬ b < a → f)
  | .le => (a ≤ b → t) ∧ (¬ a ≤ b → f)
def acatS (st : List AV) : Nat := (st.map acat).sum
theorem acatS_cv (st : List AV) : xcat (cvS st) = acatS st := by
  unfold xcat acatS cvS
  rw [List.map_map]
  congr 1
  exact List.map_congr_left fun v _ => cv_cat v
def vrcv (rc : Nat) : List AV → Bool
  | .inr (kd, _) :: _ => match Nat.beq rc 99 with
    | true => true
    | false => Nat.beq kd rc && (Nat.blt rc 12 || Nat.beq rc 30)
  | _ => Nat.beq rc 99
theorem vrcv_ok {rc : Nat} {args : List AV} (h : vrcv rc args = true) (hs : wtS args) : xrecv rc S0 (cvS args) = true := by
  cases args with
  | nil =>
    have e : rc = 99 := Nat.eq_of_beq_eq_true h
    subst e; rfl
  | cons v t =>
    cases v with
    | inl v =>
      have e : rc = 99 := Nat.eq_of_beq_eq_true h
      subst e
      cases v <;> rfl
    | inr q =>
      obtain ⟨kd, a⟩ := q
      obtain ⟨hq1, hq2⟩ : wt (.inr (kd, a)) := wtS_hd hs
      unfold vrcv at h
      dsimp only at h
      show (if rc = 99 then true else match S0[a]? with | some (ci, _, _) => (ci == rc && decide (rc < 15)) || (rc == 30 && ci == 14) | none => (rc == 30 && decide (1000010 ≤ a) && decide (a < 1000028)) || (rc == 31 && a == 1000004)) = true
      split at h
      · rename_i hb
        rw [if_pos (Nat.eq_of_beq_eq_true hb)]
      · rename_i hb
        rw [if_neg (Nat.ne_of_beq_eq_false hb)]
        rw [Bool.and_eq_true, Bool.or_eq_true, Nat.blt_eq] at h
        have e1 := Nat.eq_of_beq_eq_true h.1
        rcases h.2 with h2 | h2
        · obtain ⟨rs, e2, -⟩ := xk_obj hq1 (by omega)
          rw [e2]
          simp [e1, Nat.lt_trans h2 (show 12 < 15 by decide)]
        · have h2 := Nat.eq_of_beq_eq_true h2
          obtain ⟨e2, e3⟩ := xk_const hq1 (by omega) (by omega)
          rw [e2]
          have : 1000010 ≤ a ∧ a < 1000028 := by omega
          simp [h2, this.1, this.2]
def naOf (y : Nat) : Nat := (sg y).1
def vcal (y : Nat) (st : List AV) : Bool := Nat.blt y 398 && Nat.ble (naOf y) st.length && vrcv (sg y).2.2.1 (st.take (naOf y)).reverse && Nat.ble (acatS (st.drop (naOf y))) 8 && Nat.ble (acatS (st.take (naOf y)).reverse) (sg y).2.1
theorem rtOf_of {y na ml rc rt : Nat} {hd : List (Nat × Nat × Nat)} {bs : List XB} (h : xmt y = some (na, ml, rc, rt, hd, bs)) : rtOf y = rt := by
  unfold rtOf; rw [sg_of h]
def vsw (x : Int32) (d : Prop) (J : Int → Prop) : Int → List Int → Prop
  | _, [] => d
  | k, L :: t => (x = xi k → J L) ∧ (¬ x = xi k → vsw x d J (k + 1) t)
def vlk (x : Int32) (d : Prop) (J : Int → Prop) : List (Int × Int) → Prop
  | [] => d
  | q :: t => (x = xi q.1 → J q.2) ∧ (¬ x = xi q.1 → vlk x d J t)
def vblk (D y : Nat) (Q : Value → XM → Prop) (E : Nat → XM → Prop) : List Instr → AL → List AV → XM → Prop
  | [], _, _, _ => False
  | i :: is, al, st, m =>
    match i with
    | .goto L => VL D y L.toNat al st m Q E
    | .goto_w L => VL D y L.toNat al st m Q E
    | .ifCond c L => match st with
      | .inl (.int x) :: r => vbr c x (n32 0) (VL D y L.toNat al r m Q E) (vblk D y Q E is al r m)
      | _ => False
    | .if_icmp c L => match st with
      | .inl (.int z) :: .inl (.int x) :: r => vbr c x z (VL D y L.toNat al r m Q E) (vblk D y Q E is al r m)
      | _ => False
    | .ifnull _ => match st with
      | .inr _ :: r => vblk D y Q E is al r m
      | _ => False
    | .tableswitch d lo hi offs => match st with
      | .inl (.int x) :: r => match decide (hi + 1 = lo + offs.toList.length) && decide (-1000 ≤ lo) && decide (hi ≤ 1000) with
        | true => vsw x (VL D y d.toNat al r m Q E) (fun L => VL D y L.toNat al r m Q E) lo offs.toList
        | false => False
      | _ => False
    | .lookupswitch d ps => match st with
      | .inl (.int x) :: r => match ps.toList.all (fun q => decide (-1000 ≤ q.1) && decide (q.1 ≤ 1000)) with
        | true => vlk x (VL D y d.toNat al r m Q E) (fun L => VL D y L.toNat al r m Q E) ps.toList
        | false => False
      | _ => False
    | .ireturn => match st with
      | [.inl (.int v)] => match rtOf y with
        | 1 => Q (.int v) m
        | 2 => xrt 2 v = true ∧ Q (.int v) m
        | 3 => xrt 3 v = true ∧ Q (.int v) m
        | 4 => xrt 4 v = true ∧ Q (.int v) m
        | _ => False
      | _ => False
    | .lreturn => match st with
      | [.inl (.long v)] => match Nat.beq (rtOf y) 5 with
        | true => Q (.long v) m
        | false => False
      | _ => False
    | .freturn => match st with
      | [.inl (.float v)] => match Nat.beq (rtOf y) 6 with
        | true => Q (.float v) m
        | false => False
      | _ => False
    | .dreturn => match st with
      | [.inl (.double v)] => match Nat.beq (rtOf y) 7 with
        | true => Q (.double v) m
        | false => False
      | _ => False
    | .areturn => match st with
      | [.inr (kd, a)] => match Nat.beq (rtOf y) 8 && Nat.beq kd 5 with
        | true => Q (.ref a) m
        | false => False
      | _ => False
    | .return_ => match st with
      | [] => match Nat.beq (rtOf y) 0 with
        | true => Q .null m
        | false => False
      | _ => False
    | .checkcast x => match st with
      | [] => E x m
      | _ => False
    | .invokevirtual z => match vcal z st with
      | true => match D with
        | 0 => False
        | D' + 1 => V D' z (st.take (naOf z)).reverse m (fun v m' => vblk (D' + 1) y Q E is al (vrv (rtOf z) v ++ st.drop (naOf z)) m') E
      | false => False
    | .invokespecial z => match vcal z st with
      | true => match D with
        | 0 => False
        | D' + 1 => V D' z (st.take (naOf z)).reverse m (fun v m' => vblk (D' + 1) y Q E is al (vrv (rtOf z) v ++ st.drop (naOf z)) m') E
      | false => False
    | .invokestatic z => match vcal z st with
      | true => match D with
        | 0 => False
        | D' + 1 => V D' z (st.take (naOf z)).reverse m (fun v m' => vblk (D' + 1) y Q E is al (vrv (rtOf z) v ++ st.drop (naOf z)) m') E
      | false => False
    | i => vone i al st m (fun al' st' m' => vblk D y Q E is al' st' m')

