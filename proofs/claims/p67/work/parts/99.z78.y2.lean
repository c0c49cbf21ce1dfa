/-! Methods 200 to 299, checked. -/
theorem yk200 : xyok 200 = true := by decide +kernel
theorem yw200 : xyw 200 = true := by decide +kernel
theorem yk201 : xyok 201 = true := by decide +kernel
theorem yw201 : xyw 201 = true := by decide +kernel
theorem yk202 : xyok 202 = true := by decide +kernel
theorem yw202 : xyw 202 = true := by decide +kernel
theorem yk203 : xyok 203 = true := by decide +kernel
theorem yw203 : xyw 203 = true := by decide +kernel
theorem yk204 : xyok 204 = true := by decide +kernel
theorem yw204 : xyw 204 = true := by decide +kernel
theorem yk205 : xyok 205 = true := by decide +kernel
theorem yw205 : xyw 205 = true := by decide +kernel
theorem yk206 : xyok 206 = true := by decide +kernel
theorem yw206 : xyw 206 = true := by decide +kernel
theorem yk207 : xyok 207 = true := by decide +kernel
theorem yw207 : xyw 207 = true := by decide +kernel
theorem yk208 : xyok 208 = true := by decide +kernel
theorem yw208 : xyw 208 = true := by decide +kernel
theorem yk209 : xyok 209 = true := by decide +kernel
theorem yw209 : xyw 209 = true := by decide +kernel
theorem yk210 : xyok 210 = true := by decide +kernel
theorem yw210 : xyw 210 = true := by decide +kernel
theorem yk211 : xyok 211 = true := by decide +kernel
theorem yw211 : xyw 211 = true := by decide +kernel
theorem yk212 : xyok 212 = true := by decide +kernel
theorem yw212 : xyw 212 = true := by decide +kernel
theorem yk213 : xyok 213 = true := by decide +kernel
theorem yw213 : xyw 213 = true := by decide +kernel
theorem yk214 : xyok 214 = true := by decide +kernel
theorem yw214 : xyw 214 = true := by decide +kernel
theorem yk215 : xyok 215 = true := by decide +kernel
theorem yw215 : xyw 215 = true := by decide +kernel
theorem yk216 : xyok 216 = true := by decide +kernel
theorem yw216 : xyw 216 = true := by decide +kernel
theorem yk217 : xyok 217 = true := by decide +kernel
theorem yw217 : xyw 217 = true := by decide +kernel
theorem yk218 : xyok 218 = true := by decide +kernel
theorem yw218 : xyw 218 = true := by decide +kernel
theorem yk219 : xyok 219 = true := by decide +kernel
theorem yw219 : xyw 219 = true := by decide +kernel
theorem yk220 : xyok 220 = true := by decide +kernel
theorem yw220 : xyw 220 = true := by decide +kernel
theorem yk221 : xyok 221 = true := by decide +kernel
theorem yw221 : xyw 221 = true := by decide +kernel
theorem yblk10 : ∀ r : Nat, r < 20 → yr (200 + r) = true → xyok (200 + r) = true ∧ xyw (200 + r) = true := by
  intro r h h2
  match r, h with
  | 0, _ => exact ⟨yk200, yw200⟩
  | 1, _ => exact ⟨yk201, yw201⟩
  | 2, _ => exact ⟨yk202, yw202⟩
  | 3, _ => exact ⟨yk203, yw203⟩
  | 4, _ => exact ⟨yk204, yw204⟩
  | 5, _ => exact ⟨yk205, yw205⟩
  | 6, _ => exact ⟨yk206, yw206⟩
  | 7, _ => exact ⟨yk207, yw207⟩
  | 8, _ => exact ⟨yk208, yw208⟩
  | 9, _ => exact ⟨yk209, yw209⟩
  | 10, _ => exact ⟨yk210, yw210⟩
  | 11, _ => exact ⟨yk211, yw211⟩
  | 12, _ => exact ⟨yk212, yw212⟩
  | 13, _ => exact ⟨yk213, yw213⟩
  | 14, _ => exact ⟨yk214, yw214⟩
  | 15, _ => exact ⟨yk215, yw215⟩
  | 16, _ => exact ⟨yk216, yw216⟩
  | 17, _ => exact ⟨yk217, yw217⟩
  | 18, _ => exact ⟨yk218, yw218⟩
  | 19, _ => exact ⟨yk219, yw219⟩
  | r + 20, h => exact absurd h (by omega)
theorem yblk11 : ∀ r : Nat, r < 20 → yr (220 + r) = true → xyok (220 + r) = true ∧ xyw (220 + r) = true := by
  intro r h h2
  match r, h with
  | 0, _ => exact ⟨yk220, yw220⟩
  | 1, _ => exact ⟨yk221, yw221⟩
  | 2, _ => exact absurd h2 (by decide +kernel)
  | 3, _ => exact absurd h2 (by decide +kernel)
  | 4, _ => exact absurd h2 (by decide +kernel)
  | 5, _ => exact absurd h2 (by decide +kernel)
  | 6, _ => exact absurd h2 (by decide +kernel)
  | 7, _ => exact absurd h2 (by decide +kernel)
  | 8, _ => exact absurd h2 (by decide +kernel)
  | 9, _ => exact absurd h2 (by decide +kernel)
  | 10, _ => exact absurd h2 (by decide +kernel)
  | 11, _ => exact absurd h2 (by decide +kernel)
  | 12, _ => exact absurd h2 (by decide +kernel)
  | 13, _ => exact absurd h2 (by decide +kernel)
  | 14, _ => exact absurd h2 (by decide +kernel)
  | 15, _ => exact absurd h2 (by decide +kernel)
  | 16, _ => exact absurd h2 (by decide +kernel)
  | 17, _ => exact absurd h2 (by decide +kernel)
  | 18, _ => exact absurd h2 (by decide +kernel)
  | 19, _ => exact absurd h2 (by decide +kernel)
  | r + 20, h => exact absurd h (by omega)
theorem yblk12 : ∀ r : Nat, r < 20 → yr (240 + r) = true → xyok (240 + r) = true ∧ xyw (240 + r) = true := by
  intro r h h2
  match r, h with
  | 0, _ => exact absurd h2 (by decide +kernel)
  | 1, _ => exact absurd h2 (by decide +kernel)
  | 2, _ => exact absurd h2 (by decide +kernel)
  | 3, _ => exact absurd h2 (by decide +kernel)
  | 4, _ => exact absurd h2 (by decide +kernel)
  | 5, _ => exact absurd h2 (by decide +kernel)
  | 6, _ => exact absurd h2 (by decide +kernel)
  | 7, _ => exact absurd h2 (by decide +kernel)
  | 8, _ => exact absurd h2 (by decide +kernel)
  | 9, _ => exact absurd h2 (by decide +kernel)
  | 10, _ => exact absurd h2 (by decide +kernel)
  | 11, _ => exact absurd h2 (by decide +kernel)
  | 12, _ => exact absurd h2 (by decide +kernel)
  | 13, _ => exact absurd h2 (by decide +kernel)
  | 14, _ => exact absurd h2 (by decide +kernel)
  | 15, _ => exact absurd h2 (by decide +kernel)
  | 16, _ => exact absurd h2 (by decide +kernel)
  | 17, _ => exact absurd h2 (by decide +kernel)
  | 18, _ => exact absurd h2 (by decide +kernel)
  | 19, _ => exact absurd h2 (by decide +kernel)
  | r + 20, h => exact absurd h (by omega)
theorem yblk13 : ∀ r : Nat, r < 20 → yr (260 + r) = true → xyok (260 + r) = true ∧ xyw (260 + r) = true := by
  intro r h h2
  match r, h with
  | 0, _ => exact absurd h2 (by decide +kernel)
  | 1, _ => exact absurd h2 (by decide +kernel)
  | 2, _ => exact absurd h2 (by decide +kernel)
  | 3, _ => exact absurd h2 (by decide +kernel)
  | 4, _ => exact absurd h2 (by decide +kernel)
  | 5, _ => exact absurd h2 (by decide +kernel)
  | 6, _ => exact absurd h2 (by decide +kernel)
  | 7, _ => exact absurd h2 (by decide +kernel)
  | 8, _ => exact absurd h2 (by decide +kernel)
  | 9, _ => exact absurd h2 (by decide +kernel)
  | 10, _ => exact absurd h2 (by decide +kernel)
  | 11, _ => exact absurd h2 (by decide +kernel)
  | 12, _ => exact absurd h2 (by decide +kernel)
  | 13, _ => exact absurd h2 (by decide +kernel)
  | 14, _ => exact absurd h2 (by decide +kernel)
  | 15, _ => exact absurd h2 (by decide +kernel)
  | 16, _ => exact absurd h2 (by decide +kernel)
  | 17, _ => exact absurd h2 (by decide +kernel)
  | 18, _ => exact absurd h2 (by decide +kernel)
  | 19, _ => exact absurd h2 (by decide +kernel)
  | r + 20, h => exact absurd h (by omega)
theorem yblk14 : ∀ r : Nat, r < 20 → yr (280 + r) = true → xyok (280 + r) = true ∧ xyw (280 + r) = true := by
  intro r h h2
  match r, h with
  | 0, _ => exact absurd h2 (by decide +kernel)
  | 1, _ => exact absurd h2 (by decide +kernel)
  | 2, _ => exact absurd h2 (by decide +kernel)
  | 3, _ => exact absurd h2 (by decide +kernel)
  | 4, _ => exact absurd h2 (by decide +kernel)
  | 5, _ => exact absurd h2 (by decide +kernel)
  | 6, _ => exact absurd h2 (by decide +kernel)
  | 7, _ => exact absurd h2 (by decide +kernel)
  | 8, _ => exact absurd h2 (by decide +kernel)
  | 9, _ => exact absurd h2 (by decide +kernel)
  | 10, _ => exact absurd h2 (by decide +kernel)
  | 11, _ => exact absurd h2 (by decide +kernel)
  | 12, _ => exact absurd h2 (by decide +kernel)
  | 13, _ => exact absurd h2 (by decide +kernel)
  | 14, _ => exact absurd h2 (by decide +kernel)
  | 15, _ => exact absurd h2 (by decide +kernel)
  | 16, _ => exact absurd h2 (by decide +kernel)
  | 17, _ => exact absurd h2 (by decide +kernel)
  | 18, _ => exact absurd h2 (by decide +kernel)
  | 19, _ => exact absurd h2 (by decide +kernel)
  | r + 20, h => exact absurd h (by omega)
