theorem yok {y : Nat} (h2 : yr y = true) : xyok y = true ∧ xyw y = true := by
  have h := yr_lt h2
  obtain ⟨q, r, rfl, hr⟩ : ∃ q r, y = 20 * q + r ∧ r < 20 := ⟨y / 20, y % 20, by omega, by omega⟩
  have hq : q < 20 := by omega
  match q, hq with
  | 0, _ => exact yblk0 r hr h2
  | 1, _ => exact yblk1 r hr h2
  | 2, _ => exact yblk2 r hr h2
  | 3, _ => exact yblk3 r hr h2
  | 4, _ => exact yblk4 r hr h2
  | 5, _ => exact yblk5 r hr h2
  | 6, _ => exact yblk6 r hr h2
  | 7, _ => exact yblk7 r hr h2
  | 8, _ => exact yblk8 r hr h2
  | 9, _ => exact yblk9 r hr h2
  | 10, _ => exact yblk10 r hr h2
  | 11, _ => exact yblk11 r hr h2
  | 12, _ => exact yblk12 r hr h2
  | 13, _ => exact yblk13 r hr h2
  | 14, _ => exact yblk14 r hr h2
  | 15, _ => exact yblk15 r hr h2
  | 16, _ => exact yblk16 r hr h2
  | 17, _ => exact yblk17 r hr h2
  | 18, _ => exact yblk18 r hr h2
  | 19, _ => exact yblk19 r (by omega) h2
  | q + 20, hq => exact absurd hq (by omega)
