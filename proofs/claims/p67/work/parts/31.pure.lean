/-! The picture: 243 ints laid out as the reference lays them; what a tick does to it. -/
abbrev PG : Type := Nat → Int32
def gup (g : PG) (k : Nat) (v : Int32) : PG := fun j => if j = k then v else g j
theorem gup_eq (g : PG) (k : Nat) (v : Int32) : gup g k v k = v := if_pos rfl
theorem gup_ne {g : PG} {k j : Nat} {v : Int32} (h : j ≠ k) : gup g k v j = g j := if_neg h
theorem gup_same (g : PG) (k : Nat) : gup g k (g k) = g := by
  funext j; unfold gup; split
  · rename_i h; rw [h]
  · rfl
theorem gup_comm {g : PG} {j k : Nat} {v w : Int32} (h : j ≠ k) : gup (gup g j v) k w = gup (gup g k w) j v := by
  funext i; unfold gup
  by_cases h1 : i = j <;> by_cases h2 : i = k <;> simp [h1, h2]
  · exact absurd (h1.symm.trans h2) h
  · intro h3; exact absurd h3 h
  · intro h3; exact absurd h3.symm h
/-- a memory whose reference array holds g -/
def smg (m : XM) (g : PG) : XM := fun a k => if a = 284 then g k else m a k
theorem smg_at (m : XM) (g : PG) (k : Nat) : smg m g 284 k = g k := if_pos rfl
theorem smg_ne {m : XM} {g : PG} {a k : Nat} (h : a ≠ 284) : smg m g a k = m a k := if_neg h
theorem smg_self (m : XM) : smg m (m 284) = m := by
  funext a k; unfold smg; split
  · rename_i h; rw [h]
  · rfl
theorem um_smg (m : XM) (g : PG) (k : Nat) (v : Int32) : um (smg m g) 284 k v = smg m (gup g k v) := by
  funext a j; unfold um smg gup
  by_cases h1 : a = 284 <;> by_cases h2 : j = k <;> simp [h1, h2]
theorem um_smg_ne {m : XM} {g : PG} {a k : Nat} {v : Int32} (h : a ≠ 284) : um (smg m g) a k v = smg (um m a k v) g := by
  funext b j; unfold um smg
  by_cases h1 : b = 284
  · subst h1
    rw [if_neg (fun e => h e.1.symm), if_pos rfl, if_pos rfl]
  · rw [if_neg h1, if_neg h1]
def strG (g : PG) (b : Nat) (by_ : Int32) : PG := gup g (15 + 7 * b + 4) (imax (n32 0) (imin (n32 100) (g (15 + 7 * b + 4) + by_)))
def exchG (g : PG) (b : Nat) : PG := gup (gup g (15 + 7 * b) (g (15 + 7 * (b + 1)))) (15 + 7 * (b + 1)) (g (15 + 7 * b))
def swapsG (g : PG) (b : Nat) : PG := gup (strG (strG (exchG g b) b (-(n32 2))) (b + 1) (-(n32 2))) 11 (strG (strG (exchG g b) b (-(n32 2))) (b + 1) (-(n32 2)) 11 + n32 1)
/-- may the bearers b and b + 1 swap? (both are there) -/
def mayG (g : PG) (b : Nat) : Bool := decide (¬ g 5 < g (15 + 7 * b + 1) - g (15 + 7 * (b + 1) + 1)) && decide (¬ g (15 + 7 * b + 4) ≤ n32 0) && decide (¬ g (15 + 7 * (b + 1) + 4) ≤ n32 0)
def aheadG (g : PG) (k : Nat) : Nat := ix (g (171 + 3 * k + 1))
def planG (k : Nat) (g : PG) : PG :=
  if g (171 + 3 * k) = g 9 ∧ g (171 + 3 * k + 2) = n32 0 then
    (if mayG g (aheadG g k) = true then gup (swapsG g (aheadG g k)) (171 + 3 * k + 2) (n32 1)
    else gup (gup g 12 (g 12 + n32 1)) (171 + 3 * k + 2) (n32 2))
  else g
def goalG (g : PG) (b : Nat) : Int32 :=
  if b = 0 then g (15 + 7 * b + 1) + stride (g (15 + 7 * b + 2)) (g (15 + 7 * b + 4))
  else imin (g (15 + 7 * b + 1) + stride (g (15 + 7 * b + 2)) (g (15 + 7 * b + 4))) (g (15 + 7 * (b - 1) + 1) - g 0)
def moveG (b : Nat) (g : PG) : PG :=
  if goalG g b ≤ g (15 + 7 * b + 1) then strG g b (g 3)
  else gup (strG (gup g (15 + 7 * b + 1) (goalG g b)) b (-(g (15 + 7 * b + 3)))) (15 + 7 * b + 5) (g (15 + 7 * b + 5) + n32 1)
def nL (g : PG) : Nat := ix (g 10)
def dropG (g : PG) (b : Nat) : PG :=
  gup (gup (gup (gup (gup (gup g (207 + 3 * nL g) (g (15 + 7 * b))) (207 + 3 * nL g + 1) (g (15 + 7 * b + 1))) (207 + 3 * nL g + 2) (g 9)) 10 (g 10 + n32 1)) 13 (g 13 + n32 1)) (15 + 7 * b) (n32 0)
def weakG (b : Nat) (g : PG) : PG := if ¬ g (15 + 7 * b) ≤ n32 0 ∧ g (15 + 7 * b + 4) = n32 0 then dropG g b else g
def shiftG (g : PG) (lo hi : Nat) : PG := fun i => if lo ≤ i ∧ i < hi then g (i + 3) else g i
/-- bearer b picks up the j-th banner that lies -/
def pickG (g : PG) (b j : Nat) : PG :=
  let g1 := gup (gup g (15 + 7 * b) (g (207 + 3 * j))) 10 (g 10 - n32 1)
  let g2 := shiftG g1 (207 + 3 * j) (207 + 3 * (nL g - 1))
  gup g2 14 (g2 14 + n32 1)
/-- of the banners that lie between two places the one with the greatest place -/
def lieG (g : PG) (lo hi : Int32) : Int32 := bst (nL g) (fun k => decide (¬ g (207 + 3 * k + 1) < lo) && decide (¬ hi < g (207 + 3 * k + 1))) (fun k b => decide (¬ g (207 + 3 * k + 1) ≤ g (207 + 3 * b + 1)))
/-- bearer b lifts what lies on its way from a place on -/
def liftG (bf : Nat → Int32) (b : Nat) (g : PG) : PG :=
  if n32 0 < g (15 + 7 * b) then g
  else if g 4 ≤ g (15 + 7 * b + 4) then
    (if lieG g (bf b) (g (15 + 7 * b + 1)) = -(n32 1) then g else pickG g b (ix (lieG g (bf b) (g (15 + 7 * b + 1)))))
  else g
def nBr (g : PG) : Nat := ix (g 6)
def nSt (g : PG) : Nat := ix (g 7)
def nPl (g : PG) : Nat := ix (g 8)
/-- a tick but for the reading of words -/
def plansG (g : PG) : PG := itr (nPl g) planG g
def movesG (g : PG) : PG := itr (nBr g) moveG g
def weaksG (g : PG) : PG := itr (nBr g) weakG g
def liftsG (bf : Nat → Int32) (g : PG) : PG := itr (nBr g) (liftG bf) g
def tkG (g : PG) : PG :=
  let g1 := plansG (gup g 9 (g 9 + n32 1))
  liftsG (fun b => g1 (15 + 7 * b + 1)) (weaksG (movesG g1))
