/-! X: a small machine over the tables of 02.xcode. Its heap: a list of cells (a cell's address is its place), the whole numbers that they hold (XM), and what a long[1] or double[1] holds. -/
/-- a cell: kind (a component's place, 0 to 11; 20 int[], 21 byte[], 22 boolean[], 23 long[], 24 double[], 25 State[]), length, references -/
abbrev XC : Type := Nat × Nat × List (Option Nat)
abbrev XM : Type := Nat → Nat → Int32
/-- the cells; the exceptions that were made; the wide cells; the whole numbers -/
abbrev XS : Type := List XC × Nat × (Nat → Value) × XM
abbrev XL : Type := List (Nat × Value)
abbrev XR : Type := Option Value ⊕ Nat
abbrev XK : Type := Nat × (Nat → Int32)
abbrev XO : Type := Option (XR × XS)
def um (m : XM) (a k : Nat) (v : Int32) : XM := fun a' k' => if a' = a ∧ k' = k then v else m a' k'
def uz (m : XM) (a : Nat) : XM := fun a' k' => if a' = a then 0 else m a' k'
def uw (w : Nat → Value) (a : Nat) (v : Value) : Nat → Value := fun a' => if a' = a then v else w a'
def xk : XL → Nat → Option Value
  | [], _ => none
  | (j, v) :: t, i => if j = i then some v else xk t i
def xdel : XL → Nat → Nat → XL
  | [], _, _ => []
  | (j, w) :: t, i, n => if j < i + n ∧ i < j + w.category then xdel t i n else (j, w) :: xdel t i n
def xst (ls : XL) (i : Nat) (v : Value) : XL := (i, v) :: xdel ls i v.category
def xnorm : List Nat → XL → XL
  | [], _ => []
  | k :: t, ls => match xk ls k with
    | some v => (k, v) :: xnorm t ls
    | none => xnorm t ls
def xtl : Value → Int64
  | .long v => v
  | _ => 0
def xtd : Value → UInt64
  | .double v => v
  | _ => 0
def xbr (c : ClassFile.Cond) (a b : Int32) (t f : XO) : XO :=
  match c with
  | .eq => if a = b then t else f
  | .ne => if a = b then f else t
  | .lt => if a < b then t else f
  | .ge => if b ≤ a then t else f
  | .gt => if b < a then t else f
  | .le => if a ≤ b then t else f
/-- constant cells: 1000000 the law's script, 1000001 and 1000002 two static arrays, 1000003 a list's first array, 1000004 the memory's object, from 1000010 on the texts, from 1000040 on their bytes, 1000058 and 1000059 the digits -/
def xK0 : XK := (0, fun _ => 0)
def xstr : List (List Int32) := [[110, 111, 116, 32, 115, 111, 32, 109, 97, 110, 121, 32, 98, 121, 116, 101, 115, 32, 105, 110, 32, 116, 104, 101, 32, 98, 117, 102, 102, 101, 114], [112, 97, 114, 97, 100, 101], [98, 101, 97, 114, 101, 114], [115, 116, 97, 110, 100], [114, 105, 103, 104, 116], [108, 101, 102, 116], [112, 108, 97, 110], [97, 110, 32, 97, 114, 103, 117, 109, 101, 110, 116, 32, 100, 111, 101, 115, 32, 110, 111, 116, 32, 102, 105, 116], [110, 111, 32, 116, 101, 120, 116, 32, 119, 97, 115, 32, 108, 111, 97, 100, 101, 100], [110, 111, 32, 115, 117, 99, 104, 32, 105, 110, 100, 101, 120], [110, 111, 32, 99, 104, 97, 110, 103, 101, 32, 99, 97, 110, 32, 98, 101, 32, 117, 110, 100, 111, 110, 101], [110, 111, 116, 104, 105, 110, 103, 32, 105, 115, 32, 115, 97, 118, 101, 100, 32, 116, 104, 101, 114, 101], [112, 97, 114, 97, 100, 101], [59, 98, 101, 97, 114, 101, 114, 32], [59, 112, 108, 97, 110, 32], [59, 115, 116, 97, 110, 100, 32], [108, 101, 102, 116, 32], [114, 105, 103, 104, 116, 32], [48, 48, 48, 48, 48, 48, 48, 48, 48, 48, 49, 49, 49, 49, 49, 49, 49, 49, 49, 49, 50, 50, 50, 50, 50, 50, 50, 50, 50, 50, 51, 51, 51, 51, 51, 51, 51, 51, 51, 51, 52, 52, 52, 52, 52, 52, 52, 52, 52, 52, 53, 53, 53, 53, 53, 53, 53, 53, 53, 53, 54, 54, 54, 54, 54, 54, 54, 54, 54, 54, 55, 55, 55, 55, 55, 55, 55, 55, 55, 55, 56, 56, 56, 56, 56, 56, 56, 56, 56, 56, 57, 57, 57, 57, 57, 57, 57, 57, 57, 57], [48, 49, 50, 51, 52, 53, 54, 55, 56, 57, 48, 49, 50, 51, 52, 53, 54, 55, 56, 57, 48, 49, 50, 51, 52, 53, 54, 55, 56, 57, 48, 49, 50, 51, 52, 53, 54, 55, 56, 57, 48, 49, 50, 51, 52, 53, 54, 55, 56, 57, 48, 49, 50, 51, 52, 53, 54, 55, 56, 57, 48, 49, 50, 51, 52, 53, 54, 55, 56, 57, 48, 49, 50, 51, 52, 53, 54, 55, 56, 57, 48, 49, 50, 51, 52, 53, 54, 55, 56, 57, 48, 49, 50, 51, 52, 53, 54, 55, 56, 57]]
def xci (K : XK) (a : Nat) : Option XK :=
  if a = 1000000 then (if K.1 = 0 then none else some (K.1 - 1, K.2))
  else if a = 1000001 then some (6, fun j => [1, 0, 1, 0, 1, 0].getD j 0)
  else if a = 1000002 then some (6, fun j => [999, 9999, 9999, 50, 100, 9999].getD j 0)
  else none
def xcb (a : Nat) : Option XK :=
  if 1000040 ≤ a then (xstr[a - 1000040]?).map (fun l => (l.length, fun j => l.getD j 0)) else none
/-- which fields are references; which are boolean -/
def xrefs : List (List Bool) := [[false, true], [false, true, true, true], [false, false, true, true, true], [true, true, true, false, false], [false, true, true, true], [false, false, true, true], [false, true, true, true, true], [false, true, true, true, true, true, true, true, true], [false, false, false, false, true, true, true, true, true], [true, false, false, false, false, false, false], [true, true, true, true, true, true, true, false], [true, true, true, true, true, true, true, true, true, true, true, true, true, true, true, true, false, false, false, false, false, false, false, false], [true, false, false, false], [false, true, false], [true, false, false, false]]
def xref (c k : Nat) : Bool := (xrefs.getD c []).getD k false
def xbl (c k : Nat) : Bool := (c == 10 && k == 7) || (c == 12 && (k == 1 || k == 2)) || (c == 14 && (k == 1 || k == 3))
def xnf : List Nat := [2, 4, 5, 5, 4, 4, 5, 9, 9, 7, 8, 24, 4, 3, 4]
def xin (i : Int32) (n : Nat) : Bool := decide (0 ≤ i) && decide (i.toNatClampNeg < n)
def xkind : ArrayType → Nat
  | .int => 20
  | .byte => 21
  | .boolean => 22
  | .long => 23
  | .double => 24
  | _ => 0
/-- a text that was made has its fields' numbers of its own: 960, 961 -/
def xgetS (ci n : Nat) (rs : List (Option Nat)) (m : XM) (f a : Nat) : Option Value :=
  if ci = 14 ∧ n = 4 then (if f = 960 then (match rs[0]? with
      | some (some b) => some (.ref b)
      | _ => none) else if f = 961 then some (.int (m a 1)) else none) else none
def xget (S : List XC) (m : XM) (f a : Nat) : Option Value :=
  match S[a]? with
  | some (ci, n, rs) => if ci = f / 32 ∧ f % 32 < n ∧ ci < 15 then (if xref ci (f % 32) then
      (match rs[f % 32]? with
      | some (some b) => some (.ref b)
      | _ => none) else some (.int (m a (f % 32)))) else xgetS ci n rs m f a
  | none => if 1000010 ≤ a ∧ a < 1000028 then (if f = 960 then some (.ref (a + 30)) else if f = 961 then some (.int 0) else none) else none
def xok (n : Nat) : Value → Bool
  | .ref a => decide (a < n) || decide (1000000 ≤ a)
  | _ => true
/-- a new cell has a place of its own: no value speaks of it yet -/
def xfresh (S : List XC) (ls : XL) (st : List Value) : Bool :=
  decide (S.length < 1000000) && st.all (xok S.length) && ls.all (fun q => xok S.length q.2) && S.all (fun x => x.2.2.all (fun r => match r with
    | some b => decide (b < S.length) || decide (1000000 ≤ b)
    | none => true))
/-- putting into a text that is being made -/
def xputI (ci n : Nat) (f : Nat) (v : Int32) (a : Nat) (m : XM) : Option XM := if ci = 14 ∧ n = 4 ∧ f = 961 ∧ v = 0 then some (um m a 1 v) else none
def xputR (ci n : Nat) (rs : List (Option Nat)) (f v : Nat) (S : List XC) (a : Nat) : Option (List XC) := if ci = 14 ∧ n = 4 ∧ f = 960 ∧ rs.length = n ∧ v < S.length then some (S.set a (ci, n, rs.set 0 (some v))) else none
/-- what is copied: from place i of f to place j of the cell b, n of them -/
def ucp (m : XM) (b j n : Nat) (f : Nat → Int32) (i : Nat) : XM := fun a k => if a = b ∧ j ≤ k ∧ k < j + n then f (k - j + i) else m a k
/-- a cell that is a copy of another -/
def ucl (m : XM) (q a : Nat) : XM := fun a' k => if a' = q then m a k else m a' k
/-- n numbers from place i on are bytes -/
def xft (f : Nat → Int32) (i n : Nat) : Bool := (List.range n).all fun k => decide (-128 ≤ f (i + k)) && decide (f (i + k) ≤ 127)
/-- the source of a copy: its kind, length and numbers -/
def xsrc (S : List XC) (m : XM) (a : Nat) : Option (Nat × Nat × (Nat → Int32)) :=
  match S[a]? with
  | some (ci, n, _) => if ci = 20 ∨ ci = 21 then some (ci, n, m a) else none
  | none => match xcb a with
    | some (n, f) => some (21, n, f)
    | none => none
/-- the byte k of a whole number -/
def xby (x : Int32) (k : Nat) : Nat := x.toUInt32.toNat / 2 ^ (8 * k) % 256
/-- eight bytes of two whole numbers as the machine reads them -/
def xgl (x y : Int32) : Int64 := (xby x 0 * 2 ^ 0 + (xby x 1 * 2 ^ 8 + (xby x 2 * 2 ^ 16 + (xby x 3 * 2 ^ 24 + (xby y 0 * 2 ^ 32 + (xby y 1 * 2 ^ 40 + (xby y 2 * 2 ^ 48 + (xby y 3 * 2 ^ 56 + 0)))))))).toUInt64.toInt64
/-- the instructions that only go on -/
def xone (K : XK) (i : Instr) (ls : XL) (st : List Value) (σ : XS) : Option (XL × List Value × XS) :=
  match i with
  | .iconst n => some (ls, .int (Int32.ofInt n) :: st, σ)
  | .ldc_w b => some (ls, .float (UInt32.ofNat b) :: st, σ)
  | .ldc2_w b => some (ls, .double (UInt64.ofNat b) :: st, σ)
  | .jsr n => some (ls, .long (Int64.ofInt n) :: st, σ)
  | .ldc k => some (ls, .ref (1000010 + k) :: st, σ)
  | .fconst n => some (ls, .float (if (n : Nat) = 0 then FP.fconst0 else if (n : Nat) = 1 then FP.fconst1 else FP.fconst2) :: st, σ)
  | .dconst n => some (ls, .double (if (n : Nat) = 0 then FP.dconst0 else FP.dconst1) :: st, σ)
  | .lconst n => some (ls, .long (Int64.ofNat (n : Nat)) :: st, σ)
  | .iload k => match xk ls k with
    | some (.int v) => some (ls, .int v :: st, σ)
    | _ => none
  | .aload k => match xk ls k with
    | some (.ref v) => some (ls, .ref v :: st, σ)
    | _ => none
  | .lload k => match xk ls k with
    | some (.long v) => some (ls, .long v :: st, σ)
    | _ => none
  | .fload k => match xk ls k with
    | some (.float v) => some (ls, .float v :: st, σ)
    | _ => none
  | .dload k => match xk ls k with
    | some (.double v) => some (ls, .double v :: st, σ)
    | _ => none
  | .istore k => match st with
    | .int v :: r => some (xst ls k (.int v), r, σ)
    | _ => none
  | .astore k => match st with
    | .ref v :: r => some (xst ls k (.ref v), r, σ)
    | _ => none
  | .lstore k => match st with
    | .long v :: r => some (xst ls k (.long v), r, σ)
    | _ => none
  | .fstore k => match st with
    | .float v :: r => some (xst ls k (.float v), r, σ)
    | _ => none
  | .dstore k => match st with
    | .double v :: r => some (xst ls k (.double v), r, σ)
    | _ => none
  | .iinc k n => match xk ls k with
    | some (.int v) => some (xst ls k (.int (v + Int32.ofInt n)), st, σ)
    | _ => none
  | .iadd => match st with
    | .int y :: .int x :: r => some (ls, .int (x + y) :: r, σ)
    | _ => none
  | .isub => match st with
    | .int y :: .int x :: r => some (ls, .int (x - y) :: r, σ)
    | _ => none
  | .imul => match st with
    | .int y :: .int x :: r => some (ls, .int (x * y) :: r, σ)
    | _ => none
  | .idiv => match st with
    | .int y :: .int x :: r => if y = 0 then none else some (ls, .int (x / y) :: r, σ)
    | _ => none
  | .irem => match st with
    | .int y :: .int x :: r => if y = 0 then none else some (ls, .int (x - x / y * y) :: r, σ)
    | _ => none
  | .ineg => match st with
    | .int x :: r => some (ls, .int (-x) :: r, σ)
    | _ => none
  | .ixor => match st with
    | .int y :: .int x :: r => some (ls, .int (x ^^^ y) :: r, σ)
    | _ => none
  | .land => match st with
    | .long y :: .long x :: r => some (ls, .long (x &&& y) :: r, σ)
    | _ => none
  | .aconst_null => some (ls, .null :: st, σ)
  | .dup_x1 => match st with
    | v :: u :: r => if v.category = 1 ∧ u.category = 1 then some (ls, v :: u :: v :: r, σ) else none
    | _ => none
  | .monitorenter => match st with
    | .ref a :: r => match σ.1[a]? with
      | some (ci, _, _) => if ci = 21 then some (ls, .ref a :: r, σ) else none
      | none => none
    | _ => none
  | .lneg => match st with
    | .ref a :: r => match σ.1[a]? with
      | some (ci, n, _) => if ci = 21 ∧ n ≤ 5000 ∧ xft (σ.2.2.2 a) 0 n = true ∧ xfresh σ.1 ls r = true ∧ (r.map fun v => v.category).sum ≤ 8 then
          some (ls, .ref σ.1.length :: r, σ.1 ++ [(21, n, [])], σ.2.1, σ.2.2.1, ucl σ.2.2.2 σ.1.length a) else none
      | none => none
    | _ => none
  | .lrem => match st with
    | .int n :: .int j :: .ref b :: .int i :: .ref a :: r => match xsrc σ.1 σ.2.2.2 a with
      | some (ca, na, f) => match σ.1[b]? with
        | some (cb, nb, _) => if ca = cb ∧ (cb = 20 ∨ (cb = 21 ∧ xft f i.toNatClampNeg n.toNatClampNeg = true)) ∧ a ≠ b ∧ 0 ≤ n ∧ 0 ≤ i ∧ 0 ≤ j ∧ i.toNatClampNeg + n.toNatClampNeg ≤ na ∧ j.toNatClampNeg + n.toNatClampNeg ≤ nb ∧ (r.map fun v => v.category).sum ≤ 8 then
            some (ls, r, σ.1, σ.2.1, σ.2.2.1, ucp σ.2.2.2 b j.toNatClampNeg n.toNatClampNeg f i.toNatClampNeg) else none
        | none => none
      | none => none
    | _ => none
  | .ldiv => match st with
    | .long off :: .ref a :: .ref u :: r => match σ.1[a]? with
      | some (ci, n, _) => if ci = 20 ∧ u = 1000004 ∧ 0 ≤ off ∧ 16 ≤ off.toNatClampNeg ∧ off.toNatClampNeg % 8 = 0 ∧ off.toNatClampNeg + 8 ≤ 16 + 4 * n ∧ (r.map fun v => v.category).sum ≤ 8 then
          some (ls, .long (xgl (σ.2.2.2 a ((off.toNatClampNeg - 16) / 4)) (σ.2.2.2 a ((off.toNatClampNeg - 16) / 4 + 1))) :: r, σ) else none
      | none => none
    | _ => none
  | .iand => match st with
    | .int y :: .int x :: r => some (ls, .int (x &&& y) :: r, σ)
    | _ => none
  | .ior => match st with
    | .int y :: .int x :: r => some (ls, .int (x ||| y) :: r, σ)
    | _ => none
  | .ishl => match st with
    | .int y :: .int x :: r => some (ls, .int (x <<< (y &&& 31)) :: r, σ)
    | _ => none
  | .ishr => match st with
    | .int y :: .int x :: r => some (ls, .int (x >>> (y &&& 31)) :: r, σ)
    | _ => none
  | .iushr => match st with
    | .int y :: .int x :: r => some (ls, .int (x.toUInt32 >>> (y.toUInt32 &&& Int32.toUInt32 31)).toInt32 :: r, σ)
    | _ => none
  | .i2l => match st with
    | .int x :: r => some (ls, .long x.toInt64 :: r, σ)
    | _ => none
  | .i2b => match st with
    | .int x :: r => some (ls, .int x.toInt8.toInt32 :: r, σ)
    | _ => none
  | .i2c => match st with
    | .int x :: r => some (ls, .int (x.toUInt32 % 65536).toInt32 :: r, σ)
    | _ => none
  | .i2f => match st with
    | .int x :: r => some (ls, .float (FP.i2f x) :: r, σ)
    | _ => none
  | .i2d => match st with
    | .int x :: r => some (ls, .double (FP.i2d x) :: r, σ)
    | _ => none
  | .f2i => match st with
    | .float x :: r => some (ls, .int (FP.f2i x) :: r, σ)
    | _ => none
  | .f2d => match st with
    | .float x :: r => if FP.f2d x &&& 0x7fffffffffffffff ≤ 0x7ff0000000000000 then some (ls, .double (FP.f2d x) :: r, σ) else none
    | _ => none
  | .d2l => match st with
    | .double x :: r => some (ls, .long (FP.d2l x) :: r, σ)
    | _ => none
  | .ladd => match st with
    | .long y :: .long x :: r => some (ls, .long (x + y) :: r, σ)
    | _ => none
  | .lsub => match st with
    | .long y :: .long x :: r => some (ls, .long (x - y) :: r, σ)
    | _ => none
  | .lshl => match st with
    | .int y :: .long x :: r => some (ls, .long (x <<< (y.toInt64 &&& 63)) :: r, σ)
    | _ => none
  | .lcmp => match st with
    | .long y :: .long x :: r => some (ls, .int (lg_cmp x y) :: r, σ)
    | _ => none
  | .fmul => match st with
    | .float y :: .float x :: r => if FP.fmul x y &&& 0x7fffffff ≤ 0x7f800000 then some (ls, .float (FP.fmul x y) :: r, σ) else none
    | _ => none
  | .fdiv => match st with
    | .float y :: .float x :: r => if FP.fdiv x y &&& 0x7fffffff ≤ 0x7f800000 then some (ls, .float (FP.fdiv x y) :: r, σ) else none
    | _ => none
  | .fsub => match st with
    | .float y :: .float x :: r => if FP.fsub x y &&& 0x7fffffff ≤ 0x7f800000 then some (ls, .float (FP.fsub x y) :: r, σ) else none
    | _ => none
  | .dmul => match st with
    | .double y :: .double x :: r => if FP.dmul x y &&& 0x7fffffffffffffff ≤ 0x7ff0000000000000 then some (ls, .double (FP.dmul x y) :: r, σ) else none
    | _ => none
  | .ddiv => match st with
    | .double y :: .double x :: r => if FP.ddiv x y &&& 0x7fffffffffffffff ≤ 0x7ff0000000000000 then some (ls, .double (FP.ddiv x y) :: r, σ) else none
    | _ => none
  | .dsub => match st with
    | .double y :: .double x :: r => if FP.dsub x y &&& 0x7fffffffffffffff ≤ 0x7ff0000000000000 then some (ls, .double (FP.dsub x y) :: r, σ) else none
    | _ => none
  | .fcmp op => match st with
    | .float y :: .float x :: r => some (ls, .int (Op.cmpValue (FP.fcmp x y) op) :: r, σ)
    | _ => none
  | .dcmp op => match st with
    | .double y :: .double x :: r => some (ls, .int (Op.cmpValue (FP.dcmp x y) op) :: r, σ)
    | _ => none
  | .dup => match st with
    | v :: r => if v.category = 1 then some (ls, v :: v :: r, σ) else none
    | _ => none
  | .dup2 => match st with
    | v :: u :: r => if v.category = 1 ∧ u.category = 1 then some (ls, v :: u :: v :: u :: r, σ) else none
    | _ => none
  | .monitorexit => match st with
    | .ref _ :: r => if (r.map fun v => v.category).sum ≤ 8 then some (ls, r, σ) else none
    | _ => none
  | .pop => match st with
    | v :: r => if v.category = 1 then some (ls, r, σ) else none
    | _ => none
  | .frem => match st with
    | .float z :: .float x :: r => if FP.fIsNaN x = false ∧ FP.fIsNaN z = false ∧ (r.map fun v => v.category).sum ≤ 8 then some (ls, .float (Native.java_lang_Math.nans.pick32 true x z) :: r, σ) else none
    | _ => none
  | .invokedynamic k => match st with
    | .float x :: r => if k = 0 ∧ (r.map fun v => v.category).sum ≤ 8 then some (ls, .int x.toInt32 :: r, σ) else none
    | .double x :: r => if k = 1 ∧ (r.map fun v => v.category).sum ≤ 8 then some (ls, .long x.toInt64 :: r, σ) else none
    | _ => none
  | .getstatic k =>
    if k = 0 then some (ls, .ref 1000001 :: st, σ)
    else if k = 1 then some (ls, .ref 1000002 :: st, σ)
    else if k = 2 then some (ls, .int 1 :: st, σ)
    else if k = 3 then some (ls, .long (-2147483648) :: st, σ)
    else if k = 4 then some (ls, .retAddr 0 :: st, σ)
    else if k = 5 then some (ls, .ref 1000058 :: st, σ)
    else if k = 6 then some (ls, .ref 1000059 :: st, σ)
    else if k = 7 then some (ls, .ref 1000003 :: st, σ)
    else if k = 8 then some (ls, .ref 1000004 :: st, σ)
    else if k = 9 then some (ls, .int 16 :: st, σ)
    else if k = 10 then some (ls, .int 2 :: st, σ)
    else if k = 11 then some (ls, .int 3 :: st, σ)
    else none
  | .getfield f => match st with
    | .ref a :: r => match xget σ.1 σ.2.2.2 f a with
      | some v => some (ls, v :: r, σ)
      | none => none
    | _ => none
  | .putfield f => match st with
    | .int v :: .ref a :: r => match σ.1[a]? with
      | some (ci, n, _) => if ci = f / 32 ∧ ci < 15 ∧ f % 32 < n ∧ xref ci (f % 32) = false ∧ (xbl ci (f % 32) = false ∨ v = 0 ∨ v = 1) then
          some (ls, r, σ.1, σ.2.1, σ.2.2.1, um σ.2.2.2 a (f % 32) v) else (match xputI ci n f v a σ.2.2.2 with
          | some m' => some (ls, r, σ.1, σ.2.1, σ.2.2.1, m')
          | none => none)
      | none => none
    | .ref v :: .ref a :: r => match σ.1[a]? with
      | some (ci, n, rs) => if ci = f / 32 ∧ ci < 15 ∧ f % 32 < n ∧ xref ci (f % 32) = true ∧ rs.length = n ∧ (v < σ.1.length ∨ (v = 1000003 ∧ ci = 13)) then
          some (ls, r, σ.1.set a (ci, n, rs.set (f % 32) (some v)), σ.2.1, σ.2.2.1, σ.2.2.2) else (match xputR ci n rs f v σ.1 a with
          | some S' => some (ls, r, S', σ.2.1, σ.2.2.1, σ.2.2.2)
          | none => none)
      | none => none
    | _ => none
  | .iaload => match st with
    | .int i :: .ref a :: r => match σ.1[a]? with
      | some (ci, n, _) => if ci = 20 ∧ xin i n = true then some (ls, .int (σ.2.2.2 a i.toNatClampNeg) :: r, σ) else none
      | none => match xci K a with
        | some (n, f) => if xin i n = true then some (ls, .int (f i.toNatClampNeg) :: r, σ) else none
        | none => none
    | _ => none
  | .iastore => match st with
    | .int v :: .int i :: .ref a :: r => match σ.1[a]? with
      | some (ci, n, _) => if ci = 20 ∧ xin i n = true then some (ls, r, σ.1, σ.2.1, σ.2.2.1, um σ.2.2.2 a i.toNatClampNeg v) else none
      | none => none
    | _ => none
  | .baload => match st with
    | .int i :: .ref a :: r => match σ.1[a]? with
      | some (ci, n, _) => if (ci = 21 ∨ ci = 22) ∧ xin i n = true then some (ls, .int (σ.2.2.2 a i.toNatClampNeg) :: r, σ) else none
      | none => match xcb a with
        | some (n, f) => if xin i n = true then some (ls, .int (f i.toNatClampNeg) :: r, σ) else none
        | none => none
    | _ => none
  | .bastore => match st with
    | .int v :: .int i :: .ref a :: r => match σ.1[a]? with
      | some (ci, n, _) => if ci = 21 ∧ xin i n = true then some (ls, r, σ.1, σ.2.1, σ.2.2.1, um σ.2.2.2 a i.toNatClampNeg v.toInt8.toInt32)
        else if ci = 22 ∧ xin i n = true ∧ (v = 0 ∨ v = 1) then some (ls, r, σ.1, σ.2.1, σ.2.2.1, um σ.2.2.2 a i.toNatClampNeg v) else none
      | none => none
    | _ => none
  | .aaload => match st with
    | .int i :: .ref a :: r => match σ.1[a]? with
      | some (ci, n, rs) => if (ci = 25 ∨ ci = 26) ∧ xin i n = true then
          (match rs[i.toNatClampNeg]? with
          | some (some b) => some (ls, .ref b :: r, σ)
          | _ => none) else none
      | none => none
    | _ => none
  | .aastore => match st with
    | .ref v :: .int i :: .ref a :: r => match σ.1[a]? with
      | some (ci, n, rs) => match σ.1[v]? with
        | some (cv, _, _) => if (ci = 25 ∧ cv = 8 ∨ ci = 26 ∧ cv = 14) ∧ xin i n = true ∧ rs.length = n then
            some (ls, r, σ.1.set a (ci, n, rs.set i.toNatClampNeg (some v)), σ.2.1, σ.2.2.1, σ.2.2.2) else none
        | none => none
      | none => none
    | _ => none
  | .laload => match st with
    | .int i :: .ref a :: r => match σ.1[a]? with
      | some (ci, n, _) => if ci = 23 ∧ i = 0 ∧ n = 1 then some (ls, .long (xtl (σ.2.2.1 a)) :: r, σ) else none
      | none => none
    | _ => none
  | .lastore => match st with
    | .long v :: .int i :: .ref a :: r => match σ.1[a]? with
      | some (ci, n, _) => if ci = 23 ∧ i = 0 ∧ n = 1 then some (ls, r, σ.1, σ.2.1, uw σ.2.2.1 a (.long v), σ.2.2.2) else none
      | none => none
    | _ => none
  | .daload => match st with
    | .int i :: .ref a :: r => match σ.1[a]? with
      | some (ci, n, _) => if ci = 24 ∧ i = 0 ∧ n = 1 then some (ls, .double (xtd (σ.2.2.1 a)) :: r, σ) else none
      | none => none
    | _ => none
  | .dastore => match st with
    | .double v :: .int i :: .ref a :: r => match σ.1[a]? with
      | some (ci, n, _) => if ci = 24 ∧ i = 0 ∧ n = 1 then some (ls, r, σ.1, σ.2.1, uw σ.2.2.1 a (.double v), σ.2.2.2) else none
      | none => none
    | _ => none
  | .arraylength => match st with
    | .ref a :: r => match σ.1[a]? with
      | some (ci, n, _) => if ci = 20 ∨ ci = 21 ∨ ci = 22 ∨ ci = 25 then some (ls, .int (Int32.ofNat n) :: r, σ) else none
      | none => match xci K a with
        | some (n, _) => some (ls, .int (Int32.ofNat n) :: r, σ)
        | none => match xcb a with
          | some (n, _) => some (ls, .int (Int32.ofNat n) :: r, σ)
          | none => none
    | _ => none
  | .new c => if c < 15 ∧ xfresh σ.1 ls st = true then some (ls, .ref σ.1.length :: st, σ.1 ++ [(c, xnf.getD c 0, List.replicate (xnf.getD c 0) none)], σ.2.1, σ.2.2.1, uz σ.2.2.2 σ.1.length) else none
  | .newarray t => match st with
    | .int n :: r => if 0 ≤ n ∧ n.toNatClampNeg ≤ 5000 ∧ xfresh σ.1 ls r = true then
        (if xkind t = 23 ∨ xkind t = 24 then (if n = 1 then some (ls, .ref σ.1.length :: r, σ.1 ++ [(xkind t, 1, [])], σ.2.1, uw σ.2.2.1 σ.1.length .null, uz σ.2.2.2 σ.1.length) else none)
        else if xkind t = 0 then none
        else some (ls, .ref σ.1.length :: r, σ.1 ++ [(xkind t, n.toNatClampNeg, [])], σ.2.1, σ.2.2.1, uz σ.2.2.2 σ.1.length)) else none
    | _ => none
  | .anewarray c => match st with
    | .int n :: r => if (c = 8 ∨ c = 14) ∧ 0 ≤ n ∧ n.toNatClampNeg ≤ 5000 ∧ xfresh σ.1 ls r = true then
        some (ls, .ref σ.1.length :: r, σ.1 ++ [(if c = 8 then 25 else 26, n.toNatClampNeg, List.replicate n.toNatClampNeg none)], σ.2.1, σ.2.2.1, uz σ.2.2.2 σ.1.length) else none
    | _ => none
  | _ => none
/-- what a return of this kind takes -/
def xrt : Nat → Int32 → Bool
  | 1, _ => true
  | 2, v => v == 0 || v == 1
  | 3, v => v == 0
  | 4, v => (v.toUInt32 % 65536).toInt32 == v
  | _, _ => false
def xrecv (rc : Nat) (S : List XC) : List Value → Bool
  | .ref a :: _ => if rc = 99 then true else match S[a]? with
    | some (ci, _, _) => (ci == rc && decide (rc < 15)) || (rc == 30 && ci == 14)
    | none => (rc == 30 && decide (1000010 ≤ a) && decide (a < 1000028)) || (rc == 31 && a == 1000004)
  | _ => rc == 99
def xcat (st : List Value) : Nat := (st.map fun v => v.category).sum
/-- the call of method y, with the stack st -/
def xcall (C : Nat → List Value → XS → XO) (hd : List (Nat × Nat × Nat)) (J : Nat → XL → List Value → XS → XO) (y : Nat) (ls : XL) (st : List Value) (σ : XS) (k : List Value → XS → XO) : XO :=
  match xmt y with
  | none => none
  | some (na, ml, rc, _, _, _) =>
    if na ≤ st.length ∧ xrecv rc σ.1 (st.take na).reverse = true ∧ xcat (st.drop na) ≤ 8 ∧ xcat (st.take na).reverse ≤ ml then
      (match C y (st.take na).reverse σ with
      | none => none
      | some (.inl v, σ') => if σ'.1.length = σ.1.length ∨ (ls.all (fun q => xok σ.1.length q.2) = true ∧ (st.drop na).all (xok σ.1.length) = true) then k (v.toList ++ st.drop na) σ' else none
      | some (.inr E, σ') => match hd.find? (fun h => h.1 == E) with
        | some (_, L, x) => if σ'.1.length = σ.1.length then J L (xdel ls x 1) [] σ' else none
        | none => if hd.isEmpty then some (.inr E, σ') else none)
    else none
def xblk (K : XK) (rt : Nat) (hd : List (Nat × Nat × Nat)) (J : Nat → XL → List Value → XS → XO) (C : Nat → List Value → XS → XO) : List Instr → XL → List Value → XS → XO
  | [], _, _, _ => none
  | i :: is, ls, st, σ =>
    match i with
    | .goto L => J L.toNat ls st σ
    | .goto_w L => J L.toNat ls st σ
    | .ifCond c L => match st with
      | .int x :: r => xbr c x 0 (J L.toNat ls r σ) (xblk K rt hd J C is ls r σ)
      | _ => none
    | .if_icmp c L => match st with
      | .int y :: .int x :: r => xbr c x y (J L.toNat ls r σ) (xblk K rt hd J C is ls r σ)
      | _ => none
    | .ifnull _ => match st with
      | .ref _ :: r => xblk K rt hd J C is ls r σ
      | _ => none
    | .ifnonnull L => match st with
      | .ref _ :: r => J L.toNat ls r σ
      | _ => none
    | .if_acmp eq L => match st with
      | .ref y :: .ref x :: r => if x < σ.1.length ∧ y < σ.1.length ∧ x ≠ y ∧ eq = .ne then J L.toNat ls r σ else none
      | _ => none
    | .tableswitch d lo hi offs => match st with
      | .int x :: r => if lo ≤ x.toInt ∧ x.toInt ≤ hi then
          (match offs[(x.toInt - lo).toNat]? with
          | some L => J L.toNat ls r σ
          | none => none) else J d.toNat ls r σ
      | _ => none
    | .lookupswitch d ps => match st with
      | .int x :: r => match ps.toList.find? (fun q => q.1 == x.toInt) with
        | some (_, L) => J L.toNat ls r σ
        | none => J d.toNat ls r σ
      | _ => none
    | .ireturn => match st with
      | [.int v] => if xrt rt v = true then some (.inl (some (.int v)), σ) else none
      | _ => none
    | .lreturn => match st with
      | [.long v] => if rt = 5 then some (.inl (some (.long v)), σ) else none
      | _ => none
    | .freturn => match st with
      | [.float v] => if rt = 6 then some (.inl (some (.float v)), σ) else none
      | _ => none
    | .dreturn => match st with
      | [.double v] => if rt = 7 then some (.inl (some (.double v)), σ) else none
      | _ => none
    | .areturn => match st with
      | [.ref v] => if rt = 8 then some (.inl (some (.ref v)), σ) else none
      | _ => none
    | .return_ => match st with
      | [] => if rt = 0 then some (.inl none, σ) else none
      | _ => none
    | .checkcast E => match st with
      | [] => if hd.isEmpty then some (.inr E, σ.1, σ.2.1 + 1, σ.2.2.1, σ.2.2.2) else none
      | _ => none
    | .invokevirtual y => xcall C hd J y ls st σ (fun st' σ' => xblk K rt hd J C is ls st' σ')
    | .invokespecial y => xcall C hd J y ls st σ (fun st' σ' => xblk K rt hd J C is ls st' σ')
    | .invokestatic y => xcall C hd J y ls st σ (fun st' σ' => xblk K rt hd J C is ls st' σ')
    | i => match xone K i ls st σ with
      | some (ls', st', σ') => xblk K rt hd J C is ls' st' σ'
      | none => none
/-- a run: fuel, depth left, method, label -/
def xrun (K : XK) : Nat → Nat → Nat → Nat → XL → List Value → XS → XO
  | 0, _, _, _, _, _, _ => none
  | n + 1, d, y, L, ls, st, σ => match xmt y with
    | none => none
    | some (_, _, _, rt, hd, bs) => match bs[L]? with
      | none => none
      | some (lv, is) => xblk K rt hd (fun L' ls' st' σ' => xrun K n d y L' ls' st' σ')
          (fun y' args σ' => match d with
            | 0 => none
            | d' + 1 => xrun K n d' y' 0 (lv_args 0 args) [] σ') is (xnorm lv ls) st σ
