/-! The body of the law is its bytecode: piece by piece. -/
def zpcs : List Nat := xR382.2.2.2.2.2.2
def zL := zpcs.zip xM382.2.2.2.2.2
def zf (q : Nat × List Nat × List Instr) : Bool := xchk 12 9 false code zpcs [] q.1 q.2.2
theorem zall {α : Type} {f : α → Bool} {l : List α} (i n j : Nat) (hj : j = i + n) (h1 : ((l.drop i).take n).all f = true) (h2 : (l.drop j).all f = true) : (l.drop i).all f = true := by
  subst hj
  have e : (l.drop i).drop n = l.drop (i + n) := by rw [List.drop_drop]
  rw [← List.take_append_drop n (l.drop i), List.all_append, h1, e, h2]
  rfl
theorem zc0 : ((zL.drop 0).take 3).all zf = true := by decide +kernel
theorem zc1 : ((zL.drop 3).take 15).all zf = true := by decide +kernel
theorem zc2 : ((zL.drop 18).take 17).all zf = true := by decide +kernel
theorem zc3 : ((zL.drop 35).take 12).all zf = true := by decide +kernel
theorem zc4 : ((zL.drop 47).take 9).all zf = true := by decide +kernel
theorem zc5 : ((zL.drop 56).take 9).all zf = true := by decide +kernel
theorem zc6 : ((zL.drop 65).take 9).all zf = true := by decide +kernel
theorem zc7 : ((zL.drop 74).take 12).all zf = true := by decide +kernel
theorem zc8 : ((zL.drop 86).take 8).all zf = true := by decide +kernel
theorem zc9 : ((zL.drop 94).take 6).all zf = true := by decide +kernel
theorem zc10 : ((zL.drop 100).take 6).all zf = true := by decide +kernel
theorem zc11 : ((zL.drop 106).take 6).all zf = true := by decide +kernel
theorem zc12 : ((zL.drop 112).take 6).all zf = true := by decide +kernel
theorem zc13 : ((zL.drop 118).take 6).all zf = true := by decide +kernel
theorem zc14 : ((zL.drop 124).take 6).all zf = true := by decide +kernel
theorem zc15 : ((zL.drop 130).take 6).all zf = true := by decide +kernel
theorem zc16 : ((zL.drop 136).take 6).all zf = true := by decide +kernel
theorem zc17 : ((zL.drop 142).take 8).all zf = true := by decide +kernel
theorem zc18 : ((zL.drop 150).take 5).all zf = true := by decide +kernel
