/-! What a method takes and returns, by rows of twenty (written by program: wip/p67/mk02.py). -/
def sgT : List (List (Nat × Nat × Nat × Nat)) := [[(1, 1, 0, 0), (2, 2, 0, 0), (2, 6, 0, 0), (1, 1, 1, 0), (2, 2, 1, 0), (4, 4, 1, 0), (2, 3, 1, 0), (3, 5, 1, 1), (3, 6, 1, 1), (2, 4, 1, 1), (1, 2, 2, 0), (1, 1, 2, 0), (1, 2, 2, 0), (2, 2, 2, 0), (2, 2, 2, 0), (3, 3, 2, 0), (3, 3, 2, 0), (2, 2, 99, 0), (1, 1, 3, 0), (2, 3, 3, 2)], [(2, 2, 3, 2), (1, 2, 3, 2), (1, 1, 3, 2), (1, 3, 3, 2), (1, 4, 3, 2), (1, 2, 3, 2), (3, 3, 3, 2), (1, 1, 4, 0), (2, 2, 4, 0), (3, 3, 4, 0), (2, 4, 4, 1), (1, 3, 4, 1), (1, 1, 5, 0), (4, 7, 5, 0), (4, 4, 5, 0), (2, 2, 5, 1), (2, 2, 5, 1), (3, 5, 5, 1), (3, 5, 5, 1), (3, 3, 5, 2)], [(3, 4, 5, 6), (1, 1, 6, 0), (2, 2, 6, 0), (3, 3, 6, 0), (2, 3, 6, 0), (3, 3, 6, 1), (3, 5, 6, 1), (1, 1, 7, 0), (2, 2, 7, 0), (5, 5, 7, 0), (2, 2, 7, 1), (2, 2, 7, 1), (3, 3, 7, 0), (2, 3, 7, 0), (3, 5, 7, 0), (1, 3, 7, 1), (2, 4, 7, 1), (1, 3, 7, 1), (2, 4, 7, 1), (1, 3, 7, 1)], [(1, 3, 7, 1), (1, 1, 7, 7), (2, 4, 7, 1), (2, 4, 7, 1), (2, 4, 7, 1), (2, 4, 7, 1), (2, 5, 7, 1), (1, 1, 8, 0), (2, 2, 8, 0), (1, 2, 8, 0), (1, 1, 8, 0), (1, 3, 8, 0), (1, 2, 8, 0), (1, 2, 8, 0), (2, 2, 8, 2), (2, 2, 8, 0), (2, 2, 8, 0), (2, 2, 8, 2), (3, 3, 8, 0), (3, 3, 8, 2)], [(1, 1, 9, 0), (6, 6, 9, 1), (2, 3, 9, 0), (2, 2, 9, 0), (1, 1, 9, 0), (1, 1, 9, 0), (1, 1, 9, 0), (1, 1, 9, 1), (2, 3, 9, 1), (2, 3, 9, 2), (1, 1, 10, 0), (6, 6, 10, 1), (2, 3, 10, 1), (1, 1, 10, 1), (1, 1, 10, 1), (1, 1, 10, 1), (2, 2, 10, 1), (2, 2, 10, 1), (3, 4, 10, 1), (3, 4, 10, 1)], [(3, 4, 10, 1), (3, 4, 10, 1), (3, 3, 10, 1), (3, 3, 10, 1), (2, 2, 10, 1), (2, 2, 10, 1), (2, 2, 10, 2), (2, 2, 10, 6), (2, 2, 10, 1), (2, 4, 10, 1), (3, 3, 10, 1), (2, 3, 10, 1), (2, 2, 10, 1), (2, 3, 10, 1), (2, 2, 10, 1), (2, 2, 10, 1), (1, 3, 10, 1), (1, 1, 10, 1), (3, 3, 10, 1), (1, 5, 10, 1)], [(1, 1, 10, 1), (1, 3, 10, 1), (1, 3, 10, 1), (1, 2, 10, 1), (1, 1, 10, 7), (1, 1, 10, 5), (2, 3, 10, 1), (2, 4, 10, 1), (3, 3, 10, 1), (3, 3, 10, 1), (3, 3, 10, 1), (2, 2, 10, 1), (1, 1, 10, 1), (3, 3, 10, 6), (3, 6, 10, 6), (2, 6, 10, 1), (2, 4, 10, 1), (1, 2, 10, 1), (2, 4, 10, 1), (1, 3, 10, 1)], [(1, 2, 10, 1), (2, 2, 10, 1), (2, 4, 10, 1), (2, 2, 10, 1), (2, 2, 10, 1), (2, 3, 10, 1), (3, 3, 10, 1), (2, 3, 10, 1), (3, 4, 10, 1), (3, 3, 10, 1), (3, 4, 10, 1), (1, 1, 10, 1), (1, 1, 10, 1), (2, 2, 10, 1), (2, 2, 10, 1), (1, 1, 10, 0), (2, 2, 10, 0), (2, 2, 10, 0), (2, 2, 99, 0), (3, 3, 99, 0)], [(1, 1, 99, 0), (2, 2, 10, 8), (2, 2, 10, 8), (2, 3, 10, 0), (2, 3, 10, 1), (1, 2, 10, 0), (1, 3, 10, 1), (1, 3, 10, 1), (2, 4, 10, 1), (2, 4, 10, 1), (1, 4, 99, 1), (1, 7, 99, 5), (2, 3, 99, 0), (1, 1, 11, 0), (3, 4, 99, 0), (2, 3, 99, 0), (2, 3, 99, 1), (2, 2, 99, 1), (1, 8, 99, 8), (1, 6, 99, 8)], [(3, 5, 99, 1), (1, 16, 99, 2), (1, 5, 99, 2), (1, 4, 99, 8), (1, 1, 13, 0), (1, 1, 13, 0), (1, 1, 13, 0), (1, 1, 12, 0), (2, 2, 12, 0), (2, 2, 12, 0), (2, 5, 12, 0), (2, 2, 12, 8), (2, 2, 12, 8), (2, 2, 12, 8), (1, 1, 12, 8), (2, 2, 12, 8), (2, 4, 12, 8), (2, 3, 12, 8), (2, 3, 12, 0), (2, 6, 12, 1)], [(3, 3, 12, 0), (2, 2, 12, 0), (1, 1, 12, 2), (1, 1, 12, 1), (1, 1, 12, 8), (4, 4, 30, 0), (2, 2, 30, 0), (3, 5, 30, 0), (2, 3, 99, 8), (3, 3, 99, 8), (3, 5, 99, 8), (2, 2, 99, 0), (3, 7, 99, 1), (1, 4, 99, 1), (3, 4, 99, 1), (1, 1, 99, 2), (2, 3, 99, 2), (3, 4, 99, 1), (6, 19, 99, 1), (3, 4, 31, 5)], [(2, 2, 12, 8), (1, 1, 12, 1), (0, 0, 99, 0), (0, 0, 99, 0), (0, 0, 99, 0), (0, 0, 99, 0), (0, 0, 99, 0), (0, 0, 99, 0), (0, 0, 99, 0), (0, 0, 99, 0), (0, 0, 99, 0), (0, 0, 99, 0), (0, 0, 99, 0), (0, 0, 99, 0), (0, 0, 99, 0), (0, 0, 99, 0), (0, 0, 99, 0), (0, 0, 99, 0), (0, 0, 99, 0), (0, 0, 99, 0)], [(0, 0, 99, 0), (0, 0, 99, 0), (0, 0, 99, 0), (0, 0, 99, 0), (0, 0, 99, 0), (0, 0, 99, 0), (0, 0, 99, 0), (0, 0, 99, 0), (0, 0, 99, 0), (0, 0, 99, 0), (0, 0, 99, 0), (0, 0, 99, 0), (0, 0, 99, 0), (0, 0, 99, 0), (0, 0, 99, 0), (0, 0, 99, 0), (0, 0, 99, 0), (0, 0, 99, 0), (0, 0, 99, 0), (0, 0, 99, 0)], [(0, 0, 99, 0), (0, 0, 99, 0), (0, 0, 99, 0), (0, 0, 99, 0), (0, 0, 99, 0), (0, 0, 99, 0), (0, 0, 99, 0), (0, 0, 99, 0), (0, 0, 99, 0), (0, 0, 99, 0), (0, 0, 99, 0), (0, 0, 99, 0), (0, 0, 99, 0), (0, 0, 99, 0), (0, 0, 99, 0), (0, 0, 99, 0), (0, 0, 99, 0), (0, 0, 99, 0), (0, 0, 99, 0), (0, 0, 99, 0)], [(0, 0, 99, 0), (0, 0, 99, 0), (0, 0, 99, 0), (0, 0, 99, 0), (0, 0, 99, 0), (0, 0, 99, 0), (0, 0, 99, 0), (0, 0, 99, 0), (0, 0, 99, 0), (0, 0, 99, 0), (0, 0, 99, 0), (0, 0, 99, 0), (0, 0, 99, 0), (0, 0, 99, 0), (0, 0, 99, 0), (0, 0, 99, 0), (0, 0, 99, 0), (0, 0, 99, 0), (0, 0, 99, 0), (0, 0, 99, 0)], [(0, 0, 99, 0), (0, 0, 99, 0), (0, 0, 99, 0), (0, 0, 99, 0), (0, 0, 99, 0), (0, 0, 99, 0), (0, 0, 99, 0), (0, 0, 99, 0), (0, 0, 99, 0), (0, 0, 99, 0), (0, 0, 99, 0), (0, 0, 99, 0), (0, 0, 99, 0), (0, 0, 99, 0), (0, 0, 99, 0), (0, 0, 99, 0), (0, 0, 99, 0), (0, 0, 99, 0), (0, 0, 99, 0), (0, 0, 99, 0)], [(0, 0, 99, 0), (0, 0, 99, 0), (0, 0, 99, 0), (0, 0, 99, 0), (0, 0, 99, 0), (0, 0, 99, 0), (0, 0, 99, 0), (0, 0, 99, 0), (0, 0, 99, 0), (0, 0, 99, 0), (0, 0, 99, 0), (0, 0, 99, 0), (0, 0, 99, 0), (0, 0, 99, 0), (0, 0, 99, 0), (0, 0, 99, 0), (0, 0, 99, 0), (0, 0, 99, 0), (0, 0, 99, 0), (0, 0, 99, 0)], [(0, 0, 99, 0), (0, 0, 99, 0), (0, 0, 99, 0), (0, 0, 99, 0), (0, 0, 99, 0), (0, 0, 99, 0), (0, 0, 99, 0), (0, 0, 99, 0), (0, 0, 99, 0), (0, 0, 99, 0), (0, 0, 99, 0), (0, 0, 99, 0), (0, 0, 99, 0), (0, 0, 99, 0), (0, 0, 99, 0), (0, 0, 99, 0), (0, 0, 99, 0), (0, 0, 99, 0), (0, 0, 99, 0), (0, 0, 99, 0)], [(0, 0, 99, 0), (0, 0, 99, 0), (0, 0, 99, 0), (0, 0, 99, 0), (0, 0, 99, 0), (0, 0, 99, 0), (0, 0, 99, 0), (0, 0, 99, 0), (0, 0, 99, 0), (0, 0, 99, 0), (0, 0, 99, 0), (0, 0, 99, 0), (0, 0, 99, 0), (0, 0, 99, 0), (0, 0, 99, 0), (0, 0, 99, 0), (0, 0, 99, 0), (0, 0, 99, 0), (0, 0, 99, 0), (0, 0, 99, 0)], [(0, 0, 99, 0), (0, 0, 99, 0), (0, 0, 99, 0), (1, 1, 99, 1), (1, 1, 99, 1), (2, 2, 99, 1), (2, 2, 99, 1), (1, 1, 99, 2), (1, 1, 99, 1), (1, 2, 99, 2), (1, 2, 99, 5), (1, 1, 30, 1), (2, 2, 30, 4), (1, 1, 30, 3), (1, 1, 30, 2), (2, 2, 99, 0), (2, 2, 99, 4), (3, 3, 99, 1)]]
def sg (y : Nat) : Nat × Nat × Nat × Nat := (sgT.getD (y / 20) []).getD (y % 20) (0, 0, 0, 0)
def xmc0 : List XT := [xM0, xM1, xM2, xM3, xM4, xM5, xM6, xM7, xM8, xM9, xM10, xM11, xM12, xM13, xM14, xM15, xM16, xM17, xM18, xM19]
def xmc1 : List XT := [xM20, xM21, xM22, xM23, xM24, xM25, xM26, xM27, xM28, xM29, xM30, xM31, xM32, xM33, xM34, xM35, xM36, xM37, xM38, xM39]
def xmc2 : List XT := [xM40, xM41, xM42, xM43, xM44, xM45, xM46, xM47, xM48, xM49, xM50, xM51, xM52, xM53, xM54, xM55, xM56, xM57, xM58, xM59]
def xmc3 : List XT := [xM60, xM61, xM62, xM63, xM64, xM65, xM66, xM67, xM68, xM69, xM70, xM71, xM72, xM73, xM74, xM75, xM76, xM77, xM78, xM79]
def xmc4 : List XT := [xM80, xM81, xM82, xM83, xM84, xM85, xM86, xM87, xM88, xM89, xM90, xM91, xM92, xM93, xM94, xM95, xM96, xM97, xM98, xM99]
def xmc5 : List XT := [xM100, xM101, xM102, xM103, xM104, xM105, xM106, xM107, xM108, xM109, xM110, xM111, xM112, xM113, xM114, xM115, xM116, xM117, xM118, xM119]
def xmc6 : List XT := [xM120, xM121, xM122, xM123, xM124, xM125, xM126, xM127, xM128, xM129, xM130, xM131, xM132, xM133, xM134, xM135, xM136, xM137, xM138, xM139]
def xmc7 : List XT := [xM140, xM141, xM142, xM143, xM144, xM145, xM146, xM147, xM148, xM149, xM150, xM151, xM152, xM153, xM154, xM155, xM156, xM157, xM158, xM159]
def xmc8 : List XT := [xM160, xM161, xM162, xM163, xM164, xM165, xM166, xM167, xM168, xM169, xM170, xM171, xM172, xM173, xM174, xM175, xM176, xM177, xM178, xM179]
def xmc9 : List XT := [xM180, xM181, xM182, xM183, xM184, xM185, xM186, xM187, xM188, xM189, xM190, xM191, xM192, xM193, xM194, xM195, xM196, xM197, xM198, xM199]
def xmc10 : List XT := [xM200, xM201, xM202, xM203, xM204, xM205, xM206, xM207, xM208, xM209, xM210, xM211, xM212, xM213, xM214, xM215, xM216, xM217, xM218, xM219]
def xmc11 : List XT := [xM220, xM221, xMd, xMd, xMd, xMd, xMd, xMd, xMd, xMd, xMd, xMd, xMd, xMd, xMd, xMd, xMd, xMd, xMd, xMd]
def xmc12 : List XT := [xMd, xMd, xMd, xMd, xMd, xMd, xMd, xMd, xMd, xMd, xMd, xMd, xMd, xMd, xMd, xMd, xMd, xMd, xMd, xMd]
def xmc13 : List XT := [xMd, xMd, xMd, xMd, xMd, xMd, xMd, xMd, xMd, xMd, xMd, xMd, xMd, xMd, xMd, xMd, xMd, xMd, xMd, xMd]
def xmc14 : List XT := [xMd, xMd, xMd, xMd, xMd, xMd, xMd, xMd, xMd, xMd, xMd, xMd, xMd, xMd, xMd, xMd, xMd, xMd, xMd, xMd]
def xmc15 : List XT := [xMd, xMd, xMd, xMd, xMd, xMd, xMd, xMd, xMd, xMd, xMd, xMd, xMd, xMd, xMd, xMd, xMd, xMd, xMd, xMd]
def xmc16 : List XT := [xMd, xMd, xMd, xMd, xMd, xMd, xMd, xMd, xMd, xMd, xMd, xMd, xMd, xMd, xMd, xMd, xMd, xMd, xMd, xMd]
def xmc17 : List XT := [xMd, xMd, xMd, xMd, xMd, xMd, xMd, xMd, xMd, xMd, xMd, xMd, xMd, xMd, xMd, xMd, xMd, xMd, xMd, xMd]
def xmc18 : List XT := [xMd, xMd, xMd, xMd, xMd, xMd, xMd, xMd, xMd, xMd, xMd, xMd, xMd, xMd, xMd, xMd, xMd, xMd, xMd, xMd]
def xmc19 : List XT := [xMd, xMd, xMd, xM383, xM384, xM385, xM386, xM387, xM388, xM389, xM390, xM391, xM392, xM393, xM394, xM395, xM396, xM397]
def xmC : List (List XT) := [xmc0, xmc1, xmc2, xmc3, xmc4, xmc5, xmc6, xmc7, xmc8, xmc9, xmc10, xmc11, xmc12, xmc13, xmc14, xmc15, xmc16, xmc17, xmc18, xmc19]
set_option maxRecDepth 100000 in
theorem xmts_C : xmts = xmC.flatten := rfl
theorem flat_at {α : Type} : ∀ (l : List (List α)) (q r : Nat) (z : α), (∀ j, j + 1 < l.length → (l.getD j []).length = 20) → r < 20 → (l.getD q [])[r]? = some z → l.flatten[20 * q + r]? = some z := by
  intro l
  induction l with
  | nil => intro q r z _ _ h; simp at h
  | cons c t ih =>
    intro q r z hl hr h
    cases q with
    | zero =>
      rw [List.flatten_cons, List.getElem?_append_left]
      · rw [Nat.mul_zero, Nat.zero_add]; exact h
      · have := (List.getElem?_eq_some_iff.mp h).1
        rw [Nat.mul_zero, Nat.zero_add]; exact this
    | succ q =>
      have ht : t ≠ [] := by
        rintro rfl
        simp at h
      have hc : c.length = 20 := hl 0 (by cases t with | nil => exact absurd rfl ht | cons a b => simp)
      rw [List.flatten_cons, List.getElem?_append_right (by omega)]
      rw [show 20 * (q + 1) + r - c.length = 20 * q + r by omega]
      exact ih q r z (fun j hj => by have := hl (j + 1) (by rw [List.length_cons]; omega); exact this) hr h
theorem xmC_len : ((List.range 19).all fun j => (xmC.getD j []).length == 20) = true := by decide +kernel
theorem xmt_at {q r : Nat} {z : XT} (hr : Nat.blt r 20 = true) (h : (xmC.getD q [])[r]? = some z) : xmt (20 * q + r) = some z := by
  unfold xmt
  rw [xmts_C]
  refine flat_at xmC q r z ?_ (by rw [Nat.blt_eq] at hr; exact hr) h
  intro j hj
  have := List.all_eq_true.mp xmC_len j (List.mem_range.mpr (by
    have : xmC.length = 20 := rfl
    omega))
  simpa using this
theorem xmt_len : xmts.length = 398 := by decide +kernel
theorem sg_all : ((List.range 398).all fun y => (xmt y).map (fun z => (z.1, z.2.1, z.2.2.1, z.2.2.2.1)) == some (sg y)) = true := by decide +kernel
theorem sg_of {y : Nat} {z : XT} (h : xmt y = some z) : sg y = (z.1, z.2.1, z.2.2.1, z.2.2.2.1) := by
  have hy : y < 398 := by
    rw [← xmt_len]
    exact (List.getElem?_eq_some_iff.mp h).1
  have := List.all_eq_true.mp sg_all y (List.mem_range.mpr hy)
  rw [h] at this
  simpa using (beq_iff_eq.mp this).symm
theorem sg_some {y : Nat} (h : Nat.blt y 398 = true) : ∃ (hd : List (Nat × Nat × Nat)) (bs : List XB), xmt y = some ((sg y).1, (sg y).2.1, (sg y).2.2.1, (sg y).2.2.2, hd, bs) := by
  have hy : y < 398 := by rw [Nat.blt_eq] at h; exact h
  cases hm : xmt y with
  | none =>
    have := List.all_eq_true.mp sg_all y (List.mem_range.mpr hy)
    rw [hm] at this
    simp at this
  | some z =>
    have := sg_of hm
    obtain ⟨a, b, c, d, e, f⟩ := z
    rw [this]
    exact ⟨e, f, rfl⟩
