/-! Methods 300 to 397, checked. -/
theorem yk383 : xyok 383 = true := by decide +kernel
theorem yw383 : xyw 383 = true := by decide +kernel
theorem yk384 : xyok 384 = true := by decide +kernel
theorem yw384 : xyw 384 = true := by decide +kernel
theorem yk385 : xyok 385 = true := by decide +kernel
theorem yw385 : xyw 385 = true := by decide +kernel
theorem yk386 : xyok 386 = true := by decide +kernel
theorem yw386 : xyw 386 = true := by decide +kernel
theorem yk391 : xyok 391 = true := by decide +kernel
theorem yw391 : xyw 391 = true := by decide +kernel
theorem yk392 : xyok 392 = true := by decide +kernel
theorem yw392 : xyw 392 = true := by decide +kernel
theorem yk393 : xyok 393 = true := by decide +kernel
theorem yw393 : xyw 393 = true := by decide +kernel
theorem yk394 : xyok 394 = true := by decide +kernel
theorem yw394 : xyw 394 = true := by decide +kernel
theorem yk395 : xyok 395 = true := by decide +kernel
theorem yw395 : xyw 395 = true := by decide +kernel
theorem yk396 : xyok 396 = true := by decide +kernel
theorem yw396 : xyw 396 = true := by decide +kernel
theorem yk397 : xyok 397 = true := by decide +kernel
theorem yw397 : xyw 397 = true := by decide +kernel
theorem yblk15 : ∀ r : Nat, r < 20 → yr (300 + r) = true → xyok (300 + r) = true ∧ xyw (300 + r) = true := by
  intro r h h2
  match r, h with
  | 0, _ => exact absurd h2 (by decide +kernel)
  | 1, _ => exact absurd h2 (by decide +kernel)
  | 2, _ => exact absurd h2 (by decide +kernel)
  | 3, _ => exact absurd h2 (by decide +kernel)
  | 4, _ => exact absurd h2 (by decide +kernel)
  | 5, _ => exact absurd h2 (by decide +kernel)
  | 6, _ => exact absurd h2 (by decide +kernel)
  | 7, _ => exact absurd h2 (by decide +kernel)
  | 8, _ => exact absurd h2 (by decide +kernel)
  | 9, _ => exact absurd h2 (by decide +kernel)
  | 10, _ => exact absurd h2 (by decide +kernel)
  | 11, _ => exact absurd h2 (by decide +kernel)
  | 12, _ => exact absurd h2 (by decide +kernel)
  | 13, _ => exact absurd h2 (by decide +kernel)
  | 14, _ => exact absurd h2 (by decide +kernel)
  | 15, _ => exact absurd h2 (by decide +kernel)
  | 16, _ => exact absurd h2 (by decide +kernel)
  | 17, _ => exact absurd h2 (by decide +kernel)
  | 18, _ => exact absurd h2 (by decide +kernel)
  | 19, _ => exact absurd h2 (by decide +kernel)
  | r + 20, h => exact absurd h (by omega)
theorem yblk16 : ∀ r : Nat, r < 20 → yr (320 + r) = true → xyok (320 + r) = true ∧ xyw (320 + r) = true := by
  intro r h h2
  match r, h with
  | 0, _ => exact absurd h2 (by decide +kernel)
  | 1, _ => exact absurd h2 (by decide +kernel)
  | 2, _ => exact absurd h2 (by decide +kernel)
  | 3, _ => exact absurd h2 (by decide +kernel)
  | 4, _ => exact absurd h2 (by decide +kernel)
  | 5, _ => exact absurd h2 (by decide +kernel)
  | 6, _ => exact absurd h2 (by decide +kernel)
  | 7, _ => exact absurd h2 (by decide +kernel)
  | 8, _ => exact absurd h2 (by decide +kernel)
  | 9, _ => exact absurd h2 (by decide +kernel)
  | 10, _ => exact absurd h2 (by decide +kernel)
  | 11, _ => exact absurd h2 (by decide +kernel)
  | 12, _ => exact absurd h2 (by decide +kernel)
  | 13, _ => exact absurd h2 (by decide +kernel)
  | 14, _ => exact absurd h2 (by decide +kernel)
  | 15, _ => exact absurd h2 (by decide +kernel)
  | 16, _ => exact absurd h2 (by decide +kernel)
  | 17, _ => exact absurd h2 (by decide +kernel)
  | 18, _ => exact absurd h2 (by decide +kernel)
  | 19, _ => exact absurd h2 (by decide +kernel)
  | r + 20, h => exact absurd h (by omega)
theorem yblk17 : ∀ r : Nat, r < 20 → yr (340 + r) = true → xyok (340 + r) = true ∧ xyw (340 + r) = true := by
  intro r h h2
  match r, h with
  | 0, _ => exact absurd h2 (by decide +kernel)
  | 1, _ => exact absurd h2 (by decide +kernel)
  | 2, _ => exact absurd h2 (by decide +kernel)
  | 3, _ => exact absurd h2 (by decide +kernel)
  | 4, _ => exact absurd h2 (by decide +kernel)
  | 5, _ => exact absurd h2 (by decide +kernel)
  | 6, _ => exact absurd h2 (by decide +kernel)
  | 7, _ => exact absurd h2 (by decide +kernel)
  | 8, _ => exact absurd h2 (by decide +kernel)
  | 9, _ => exact absurd h2 (by decide +kernel)
  | 10, _ => exact absurd h2 (by decide +kernel)
  | 11, _ => exact absurd h2 (by decide +kernel)
  | 12, _ => exact absurd h2 (by decide +kernel)
  | 13, _ => exact absurd h2 (by decide +kernel)
  | 14, _ => exact absurd h2 (by decide +kernel)
  | 15, _ => exact absurd h2 (by decide +kernel)
  | 16, _ => exact absurd h2 (by decide +kernel)
  | 17, _ => exact absurd h2 (by decide +kernel)
  | 18, _ => exact absurd h2 (by decide +kernel)
  | 19, _ => exact absurd h2 (by decide +kernel)
  | r + 20, h => exact absurd h (by omega)
theorem yblk18 : ∀ r : Nat, r < 20 → yr (360 + r) = true → xyok (360 + r) = true ∧ xyw (360 + r) = true := by
  intro r h h2
  match r, h with
  | 0, _ => exact absurd h2 (by decide +kernel)
  | 1, _ => exact absurd h2 (by decide +kernel)
  | 2, _ => exact absurd h2 (by decide +kernel)
  | 3, _ => exact absurd h2 (by decide +kernel)
  | 4, _ => exact absurd h2 (by decide +kernel)
  | 5, _ => exact absurd h2 (by decide +kernel)
  | 6, _ => exact absurd h2 (by decide +kernel)
  | 7, _ => exact absurd h2 (by decide +kernel)
  | 8, _ => exact absurd h2 (by decide +kernel)
  | 9, _ => exact absurd h2 (by decide +kernel)
  | 10, _ => exact absurd h2 (by decide +kernel)
  | 11, _ => exact absurd h2 (by decide +kernel)
  | 12, _ => exact absurd h2 (by decide +kernel)
  | 13, _ => exact absurd h2 (by decide +kernel)
  | 14, _ => exact absurd h2 (by decide +kernel)
  | 15, _ => exact absurd h2 (by decide +kernel)
  | 16, _ => exact absurd h2 (by decide +kernel)
  | 17, _ => exact absurd h2 (by decide +kernel)
  | 18, _ => exact absurd h2 (by decide +kernel)
  | 19, _ => exact absurd h2 (by decide +kernel)
  | r + 20, h => exact absurd h (by omega)
theorem yblk19 : ∀ r : Nat, r < 18 → yr (380 + r) = true → xyok (380 + r) = true ∧ xyw (380 + r) = true := by
  intro r h h2
  match r, h with
  | 0, _ => exact absurd h2 (by decide +kernel)
  | 1, _ => exact absurd h2 (by decide +kernel)
  | 2, _ => exact absurd h2 (by decide +kernel)
  | 3, _ => exact ⟨yk383, yw383⟩
  | 4, _ => exact ⟨yk384, yw384⟩
  | 5, _ => exact ⟨yk385, yw385⟩
  | 6, _ => exact ⟨yk386, yw386⟩
  | 7, _ => exact absurd h2 (by decide +kernel)
  | 8, _ => exact absurd h2 (by decide +kernel)
  | 9, _ => exact absurd h2 (by decide +kernel)
  | 10, _ => exact absurd h2 (by decide +kernel)
  | 11, _ => exact ⟨yk391, yw391⟩
  | 12, _ => exact ⟨yk392, yw392⟩
  | 13, _ => exact ⟨yk393, yw393⟩
  | 14, _ => exact ⟨yk394, yw394⟩
  | 15, _ => exact ⟨yk395, yw395⟩
  | 16, _ => exact ⟨yk396, yw396⟩
  | 17, _ => exact ⟨yk397, yw397⟩
  | r + 18, h => exact absurd h (by omega)
