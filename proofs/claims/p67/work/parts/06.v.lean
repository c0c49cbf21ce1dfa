/-! Verification conditions over X: locals and stacks whose references carry their kind. -/
abbrev AV : Type := Value ⊕ (Nat × Nat)
abbrev AL : Type := List (Nat × AV)
abbrev vI (x : Int32) : AV := Sum.inl (Value.int x)
abbrev vJ (x : Int64) : AV := Sum.inl (Value.long x)
abbrev vF (x : UInt32) : AV := Sum.inl (Value.float x)
abbrev vD (x : UInt64) : AV := Sum.inl (Value.double x)
abbrev vR (k a : Nat) : AV := Sum.inr (k, a)
def n32 (n : Nat) : Int32 := Int32.ofNat n
def ix (i : Int32) : Nat := i.toNatClampNeg
def xi : Int → Int32
  | .ofNat k => n32 k
  | .negSucc k => -(n32 (k + 1))
theorem xi_eq (n : Int) : xi n = Int32.ofInt n := by
  cases n with
  | ofNat k => rfl
  | negSucc k =>
    show -(Int32.ofNat (k + 1)) = _
    rw [Int.negSucc_eq, Int32.ofInt_neg]; rfl
def cv : AV → Value
  | .inl v => v
  | .inr q => .ref q.2
def cvL (al : AL) : XL := al.map fun q => (q.1, cv q.2)
def cvS (st : List AV) : List Value := st.map cv
def acat : AV → Nat
  | .inl v => v.category
  | .inr _ => 1
theorem cv_cat (v : AV) : (cv v).category = acat v := by cases v <;> rfl
def ak : AL → Nat → Option AV
  | [], _ => none
  | (j, v) :: t, i => match Nat.beq j i with
    | true => some v
    | false => ak t i
def adel : AL → Nat → Nat → AL
  | [], _, _ => []
  | (j, w) :: t, i, n => match Nat.blt j (i + n) && Nat.blt i (j + acat w) with
    | true => adel t i n
    | false => (j, w) :: adel t i n
def ast (al : AL) (i : Nat) (v : AV) : AL := (i, v) :: adel al i (acat v)
def anorm : List Nat → AL → AL
  | [], _ => []
  | k :: t, al => match ak al k with
    | some v => (k, v) :: anorm t al
    | none => anorm t al
theorem ak_cv (al : AL) (i : Nat) : xk (cvL al) i = (ak al i).map cv := by
  induction al with
  | nil => rfl
  | cons q t ih =>
    obtain ⟨j, v⟩ := q
    show (if j = i then some (cv v) else xk (cvL t) i) = _
    unfold ak
    cases h : Nat.beq j i with
    | true => rw [if_pos (Nat.eq_of_beq_eq_true h)]; rfl
    | false => rw [if_neg (Nat.ne_of_beq_eq_false h)]; exact ih
theorem adel_cv (al : AL) (i n : Nat) : xdel (cvL al) i n = cvL (adel al i n) := by
  induction al with
  | nil => rfl
  | cons q t ih =>
    obtain ⟨j, v⟩ := q
    show (if j < i + n ∧ i < j + (cv v).category then xdel (cvL t) i n else (j, cv v) :: xdel (cvL t) i n) = _
    unfold adel
    rw [cv_cat]
    cases h1 : Nat.blt j (i + n) <;> cases h2 : Nat.blt i (j + acat v) <;> simp only [Bool.and_true, Bool.and_false, Bool.false_and] <;>
      simp only [Nat.blt_eq, ← Bool.not_eq_true] at h1 h2
    · rw [if_neg (fun h => h1 h.1), ih]; rfl
    · rw [if_neg (fun h => h1 h.1), ih]; rfl
    · rw [if_neg (fun h => h2 h.2), ih]; rfl
    · rw [if_pos ⟨h1, h2⟩, ih]
theorem ast_cv (al : AL) (i : Nat) (v : AV) : xst (cvL al) i (cv v) = cvL (ast al i v) := by
  unfold xst ast
  rw [cv_cat, adel_cv]; rfl
theorem anorm_cv (lv : List Nat) (al : AL) : xnorm lv (cvL al) = cvL (anorm lv al) := by
  induction lv with
  | nil => rfl
  | cons k t ih =>
    unfold xnorm anorm
    rw [ak_cv]
    cases ak al k with
    | none => exact ih
    | some v => show (k, cv v) :: _ = _; rw [ih]; rfl
/-- where the cell of a reference field lies behind its object, and its kind -/
def fofT : List (List (Nat × Nat)) := [[(0, 99), (1, 200128)], [(0, 99), (1, 200012), (2, 200012), (3, 200012)], [(0, 99), (0, 99), (1, 250008), (2, 250002), (3, 220002)], [(1, 9), (3, 8), (23, 6), (0, 99), (0, 99)], [(0, 99), (1, 200012), (2, 200012), (3, 200012)], [(0, 99), (0, 99), (1, 200024), (2, 200012)], [(0, 99), (1, 200006), (2, 200006), (3, 200006), (4, 200048)], [(0, 99), (1, 200012), (2, 200012), (3, 200012), (4, 200012), (5, 200012), (6, 200012), (7, 200012), (8, 200012)], [(0, 99), (0, 99), (0, 99), (0, 99), (1, 200006), (2, 200006), (3, 7), (12, 1), (16, 4)], [(1, 200700), (0, 99), (0, 99), (0, 99), (0, 99), (0, 99), (0, 99)], [(1, 3), (29, 8), (49, 8), (69, 6), (74, 2), (278, 5), (281, 0), (0, 99)], [(0, 99), (1, 200243), (2, 200243), (3, 201944), (4, 200486), (5, 220002), (0, 99), (0, 99), (6, 210700), (0, 99), (0, 99), (0, 99), (0, 99), (0, 99), (0, 99), (0, 99), (0, 99), (7, 200024), (0, 99), (8, 200012), (9, 210120), (0, 99)]]
def fof (f : Nat) : Nat × Nat := (fofT.getD (f / 32) []).getD (f % 32) (0, 99)
/-- the kind of the cell at an address: a component's place, or 10000 times the sort of an array and its length; 30, 31: the texts and their bytes; 40, 41: the two static arrays -/
def xkd (a : Nat) : Nat := match S0[a]? with
  | some (c, n, _) => if c < 12 then c else 10000 * c + n
  | none => if a = 1000001 then 40 else if a = 1000002 then 41 else if 1000010 ≤ a ∧ a < 1000028 then 30 else if 1000040 ≤ a ∧ a < 1000058 then 31 else 99
def wt : AV → Prop
  | .inl _ => True
  | .inr q => xkd q.2 = q.1 ∧ q.1 ≠ 99
def wtL (al : AL) : Prop := ∀ q ∈ al, wt q.2
def wtS (st : List AV) : Prop := ∀ v ∈ st, wt v
theorem ak_wt {al : AL} (h : wtL al) {i : Nat} {v : AV} (e : ak al i = some v) : wt v := by
  induction al with
  | nil => cases e
  | cons q t ih =>
    obtain ⟨j, u⟩ := q
    unfold ak at e
    cases hb : Nat.beq j i with
    | true => rw [hb] at e; cases e; exact h _ List.mem_cons_self
    | false => rw [hb] at e; exact ih (fun q hq => h q (List.mem_cons_of_mem _ hq)) e
theorem adel_wt {al : AL} (h : wtL al) (i n : Nat) : wtL (adel al i n) := by
  induction al with
  | nil => exact h
  | cons q t ih =>
    obtain ⟨j, u⟩ := q
    have h1 := ih (fun q hq => h q (List.mem_cons_of_mem _ hq))
    unfold adel
    split
    · exact h1
    · intro q hq
      rcases List.mem_cons.mp hq with rfl | hq
      · exact h _ List.mem_cons_self
      · exact h1 q hq
theorem wtL_cons {al : AL} {i : Nat} {v : AV} (h : wtL al) (hv : wt v) : wtL ((i, v) :: al) := by
  intro q hq
  rcases List.mem_cons.mp hq with rfl | hq
  · exact hv
  · exact h q hq
theorem ast_wt {al : AL} (h : wtL al) {i : Nat} {v : AV} (hv : wt v) : wtL (ast al i v) := wtL_cons (adel_wt h _ _) hv
theorem anorm_wt {al : AL} (h : wtL al) (lv : List Nat) : wtL (anorm lv al) := by
  induction lv with
  | nil => intro q hq; cases hq
  | cons k t ih =>
    unfold anorm
    split
    · rename_i v e
      exact wtL_cons ih (ak_wt h e)
    · exact ih
theorem wtS_cons {st : List AV} {v : AV} (h : wtS st) (hv : wt v) : wtS (v :: st) := by
  intro q hq
  rcases List.mem_cons.mp hq with rfl | hq
  · exact hv
  · exact h q hq
theorem wtS_tl {st : List AV} {v : AV} (h : wtS (v :: st)) : wtS st := fun q hq => h q (List.mem_cons_of_mem _ hq)
theorem wtS_hd {st : List AV} {v : AV} (h : wtS (v :: st)) : wt v := h _ List.mem_cons_self
/-- what two static arrays hold -/
def c40 (k : Nat) : Int32 := [1, 0, 1, 0, 1, 0].getD k 0
def c41 (k : Nat) : Int32 := [999, 9999, 9999, 50, 100, 9999].getD k 0
/-- one instruction: what must hold for it to go on so that k holds -/
def vone (i : Instr) (al : AL) (st : List AV) (m : XM) (k : AL → List AV → XM → Prop) : Prop :=
  match i with
  | .iconst n => k al (vI (xi n) :: st) m
  | .ldc_w b => k al (vF (UInt32.ofNat b) :: st) m
  | .ldc2_w b => k al (vD (UInt64.ofNat b) :: st) m
  | .jsr n => k al (vJ (Int64.ofInt n) :: st) m
  | .ldc s => match Nat.blt s 18 with
    | true => k al (vR 30 (1000010 + s) :: st) m
    | false => False
  | .fconst n => k al (vF (if (n : Nat) = 0 then FP.fconst0 else if (n : Nat) = 1 then FP.fconst1 else FP.fconst2) :: st) m
  | .dconst n => k al (vD (if (n : Nat) = 0 then FP.dconst0 else FP.dconst1) :: st) m
  | .lconst n => k al (vJ (Int64.ofNat (n : Nat)) :: st) m
  | .iload j => match ak al j with
    | some (.inl (.int v)) => k al (vI v :: st) m
    | _ => False
  | .aload j => match ak al j with
    | some (.inr (kd, a)) => k al (vR kd a :: st) m
    | _ => False
  | .lload j => match ak al j with
    | some (.inl (.long v)) => k al (vJ v :: st) m
    | _ => False
  | .fload j => match ak al j with
    | some (.inl (.float v)) => k al (vF v :: st) m
    | _ => False
  | .dload j => match ak al j with
    | some (.inl (.double v)) => k al (vD v :: st) m
    | _ => False
  | .istore j => match st with
    | .inl (.int v) :: r => k (ast al j (vI v)) r m
    | _ => False
  | .astore j => match st with
    | .inr (kd, a) :: r => k (ast al j (vR kd a)) r m
    | _ => False
  | .lstore j => match st with
    | .inl (.long v) :: r => k (ast al j (vJ v)) r m
    | _ => False
  | .fstore j => match st with
    | .inl (.float v) :: r => k (ast al j (vF v)) r m
    | _ => False
  | .dstore j => match st with
    | .inl (.double v) :: r => k (ast al j (vD v)) r m
    | _ => False
  | .iinc j n => match ak al j with
    | some (.inl (.int v)) => k (ast al j (vI (v + xi n))) st m
    | _ => False
  | .iadd => match st with
    | .inl (.int y) :: .inl (.int x) :: r => k al (vI (x + y) :: r) m
    | _ => False
  | .isub => match st with
    | .inl (.int y) :: .inl (.int x) :: r => k al (vI (x - y) :: r) m
    | _ => False
  | .imul => match st with
    | .inl (.int y) :: .inl (.int x) :: r => k al (vI (x * y) :: r) m
    | _ => False
  | .idiv => match st with
    | .inl (.int y) :: .inl (.int x) :: r => ¬ y = 0 ∧ k al (vI (x / y) :: r) m
    | _ => False
  | .irem => match st with
    | .inl (.int y) :: .inl (.int x) :: r => ¬ y = 0 ∧ k al (vI (x - x / y * y) :: r) m
    | _ => False
  | .ineg => match st with
    | .inl (.int x) :: r => k al (vI (-x) :: r) m
    | _ => False
  | .iand => match st with
    | .inl (.int y) :: .inl (.int x) :: r => k al (vI (x &&& y) :: r) m
    | _ => False
  | .ior => match st with
    | .inl (.int y) :: .inl (.int x) :: r => k al (vI (x ||| y) :: r) m
    | _ => False
  | .ishl => match st with
    | .inl (.int y) :: .inl (.int x) :: r => k al (vI (x <<< (y &&& 31)) :: r) m
    | _ => False
  | .ishr => match st with
    | .inl (.int y) :: .inl (.int x) :: r => k al (vI (x >>> (y &&& 31)) :: r) m
    | _ => False
  | .iushr => match st with
    | .inl (.int y) :: .inl (.int x) :: r => k al (vI (x.toUInt32 >>> (y.toUInt32 &&& Int32.toUInt32 31)).toInt32 :: r) m
    | _ => False
  | .i2l => match st with
    | .inl (.int x) :: r => k al (vJ x.toInt64 :: r) m
    | _ => False
  | .i2b => match st with
    | .inl (.int x) :: r => k al (vI x.toInt8.toInt32 :: r) m
    | _ => False
  | .i2c => match st with
    | .inl (.int x) :: r => k al (vI (x.toUInt32 % 65536).toInt32 :: r) m
    | _ => False
  | .i2f => match st with
    | .inl (.int x) :: r => k al (vF (FP.i2f x) :: r) m
    | _ => False
  | .i2d => match st with
    | .inl (.int x) :: r => k al (vD (FP.i2d x) :: r) m
    | _ => False
  | .f2i => match st with
    | .inl (.float x) :: r => k al (vI (FP.f2i x) :: r) m
    | _ => False
  | .d2l => match st with
    | .inl (.double x) :: r => k al (vJ (FP.d2l x) :: r) m
    | _ => False
  | .ladd => match st with
    | .inl (.long y) :: .inl (.long x) :: r => k al (vJ (x + y) :: r) m
    | _ => False
  | .lsub => match st with
    | .inl (.long y) :: .inl (.long x) :: r => k al (vJ (x - y) :: r) m
    | _ => False
  | .lshl => match st with
    | .inl (.int y) :: .inl (.long x) :: r => k al (vJ (x <<< (y.toInt64 &&& 63)) :: r) m
    | _ => False
  | .lcmp => match st with
    | .inl (.long y) :: .inl (.long x) :: r => k al (vI (lg_cmp x y) :: r) m
    | _ => False
  | .fmul => match st with
    | .inl (.float y) :: .inl (.float x) :: r => FP.fmul x y &&& 0x7fffffff ≤ 0x7f800000 ∧ k al (vF (FP.fmul x y) :: r) m
    | _ => False
  | .fdiv => match st with
    | .inl (.float y) :: .inl (.float x) :: r => FP.fdiv x y &&& 0x7fffffff ≤ 0x7f800000 ∧ k al (vF (FP.fdiv x y) :: r) m
    | _ => False
  | .fsub => match st with
    | .inl (.float y) :: .inl (.float x) :: r => FP.fsub x y &&& 0x7fffffff ≤ 0x7f800000 ∧ k al (vF (FP.fsub x y) :: r) m
    | _ => False
  | .dmul => match st with
    | .inl (.double y) :: .inl (.double x) :: r => FP.dmul x y &&& 0x7fffffffffffffff ≤ 0x7ff0000000000000 ∧ k al (vD (FP.dmul x y) :: r) m
    | _ => False
  | .ddiv => match st with
    | .inl (.double y) :: .inl (.double x) :: r => FP.ddiv x y &&& 0x7fffffffffffffff ≤ 0x7ff0000000000000 ∧ k al (vD (FP.ddiv x y) :: r) m
    | _ => False
  | .dsub => match st with
    | .inl (.double y) :: .inl (.double x) :: r => FP.dsub x y &&& 0x7fffffffffffffff ≤ 0x7ff0000000000000 ∧ k al (vD (FP.dsub x y) :: r) m
    | _ => False
  | .fcmp op => match st with
    | .inl (.float y) :: .inl (.float x) :: r => k al (vI (Op.cmpValue (FP.fcmp x y) op) :: r) m
    | _ => False
  | .dcmp op => match st with
    | .inl (.double y) :: .inl (.double x) :: r => k al (vI (Op.cmpValue (FP.dcmp x y) op) :: r) m
    | _ => False
  | .dup => match st with
    | v :: r => match Nat.beq (acat v) 1 with
      | true => k al (v :: v :: r) m
      | false => False
    | _ => False
  | .dup2 => match st with
    | v :: u :: r => match Nat.beq (acat v) 1 && Nat.beq (acat u) 1 with
      | true => k al (v :: u :: v :: u :: r) m
      | false => False
    | _ => False
  | .pop => match st with
    | v :: r => match Nat.beq (acat v) 1 with
      | true => k al r m
      | false => False
    | _ => False
  | .frem => match st with
    | [.inl (.float z), .inl (.float x)] => (FP.fIsNaN x = false ∧ FP.fIsNaN z = false) ∧ k al [vF (Native.java_lang_Math.nans.pick32 true x z)] m
    | _ => False
  | .invokedynamic j => match st with
    | [.inl (.float x)] => match Nat.beq j 0 with
      | true => k al [vI x.toInt32] m
      | false => False
    | [.inl (.double x)] => match Nat.beq j 1 with
      | true => k al [vJ x.toInt64] m
      | false => False
    | _ => False
  | .getstatic j => match j with
    | 0 => k al (vR 40 1000001 :: st) m
    | 1 => k al (vR 41 1000002 :: st) m
    | 2 => k al (vI 1 :: st) m
    | 3 => k al (vJ (-2147483648) :: st) m
    | 4 => k al (Sum.inl (Value.retAddr 0) :: st) m
    | _ => False
  | .getfield f => match st with
    | .inr (kd, a) :: r => match Nat.beq kd (f / 32) && Nat.blt kd 12 with
      | true => match Nat.blt (f % 32) (xnf.getD kd 0) with
        | true => match xref kd (f % 32) with
          | true => k al (vR (fof f).2 (a + (fof f).1) :: r) m
          | false => k al (vI (m a (f % 32)) :: r) m
        | false => False
      | false => match Nat.beq kd 30 with
        | true => match Nat.beq f 960 with
          | true => k al (vR 31 (a + 30) :: r) m
          | false => match Nat.beq f 961 with
            | true => k al (vI 0 :: r) m
            | false => False
        | false => False
    | _ => False
  | .putfield f => match st with
    | .inl (.int v) :: .inr (kd, a) :: r => match Nat.beq kd (f / 32) && Nat.blt kd 12 && Nat.blt (f % 32) (xnf.getD kd 0) && !(xref kd (f % 32)) with
      | true => match xbl kd (f % 32) with
        | true => (v = 0 ∨ v = 1) ∧ k al r (um m a (f % 32) v)
        | false => k al r (um m a (f % 32) v)
      | false => False
    | _ => False
  | .iaload => match st with
    | .inl (.int i) :: .inr (kd, a) :: r => match Nat.beq (kd / 10000) 20 with
      | true => xin i (kd % 10000) = true ∧ k al (vI (m a (ix i)) :: r) m
      | false => match Nat.beq kd 40 with
        | true => xin i 6 = true ∧ k al (vI (c40 (ix i)) :: r) m
        | false => match Nat.beq kd 41 with
          | true => xin i 6 = true ∧ k al (vI (c41 (ix i)) :: r) m
          | false => False
    | _ => False
  | .iastore => match st with
    | .inl (.int v) :: .inl (.int i) :: .inr (kd, a) :: r => match Nat.beq (kd / 10000) 20 with
      | true => xin i (kd % 10000) = true ∧ k al r (um m a (ix i) v)
      | false => False
    | _ => False
  | .baload => match st with
    | .inl (.int i) :: .inr (kd, a) :: r => match Nat.beq (kd / 10000) 21 || Nat.beq (kd / 10000) 22 with
      | true => xin i (kd % 10000) = true ∧ k al (vI (m a (ix i)) :: r) m
      | false => match Nat.beq kd 31 with
        | true => match xcb a with
          | some z => xin i z.1 = true ∧ k al (vI (z.2 (ix i)) :: r) m
          | none => False
        | false => False
    | _ => False
  | .bastore => match st with
    | .inl (.int v) :: .inl (.int i) :: .inr (kd, a) :: r => match Nat.beq (kd / 10000) 21 with
      | true => xin i (kd % 10000) = true ∧ k al r (um m a (ix i) v.toInt8.toInt32)
      | false => match Nat.beq (kd / 10000) 22 with
        | true => xin i (kd % 10000) = true ∧ (v = 0 ∨ v = 1) ∧ k al r (um m a (ix i) v)
        | false => False
    | _ => False
  | .aaload => match st with
    | .inl (.int i) :: .inr (kd, a) :: r => match Nat.beq kd 250008 with
      | true => xin i 8 = true ∧ k al (vR 8 (a + 3 + 20 * ix i) :: r) m
      | false => match Nat.beq kd 250002 with
        | true => xin i 2 = true ∧ k al (vR 8 (a + 162 + 20 * ix i) :: r) m
        | false => False
    | _ => False
  | .arraylength => match st with
    | .inr (kd, a) :: r => match Nat.beq (kd / 10000) 20 || Nat.beq (kd / 10000) 21 || Nat.beq (kd / 10000) 22 || Nat.beq (kd / 10000) 25 with
      | true => k al (vI (n32 (kd % 10000)) :: r) m
      | false => match Nat.beq kd 31 with
        | true => match xcb a with
          | some z => k al (vI (n32 z.1) :: r) m
          | none => False
        | false => False
    | _ => False
  | _ => False

