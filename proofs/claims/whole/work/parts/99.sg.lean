/-! The law: its 64 cases, its loop. -/
section LAWG
variable {len : Nat} {f : Nat → Int32} {D : Nat} {e i : Nat} {w : Nat → Value} {m : XM} {B N : Nat}
set_option maxRecDepth 20000 in
theorem lc0 (h : CPL m N) (hN : N ≤ 1000) (hi : i + 6 ≤ len) (hl : len ≤ 3072) (g : ∀ e' w' m', e' ≤ e + 1 → CPL m' (N + 1) → LX (len + 1, f) (D + 22) 378 (lsL i) [] e' w' m' B) : LX (len + 1, f) (D + 22) 3 (lsL i) [] e w m B :=
  cX5 (L := 3) (y := 91) (z := 179) (X := 4) rfl km91 (Nat.le_of_ble_eq_true rfl) (fun _ q => q) km179 (Nat.le_of_ble_eq_true rfl) (fun _ q => q) rfl (p_append (v1 := f (i + 1)) (v2 := f (i + 2)) (v3 := f (i + 3)) (v4 := f (i + 4)) (v5 := f (i + 5)) (D := D + 8) h) hi hl (fun e' w' m' he hc => g e' w' m' he (CPL_le hc (Nat.le_succ N)))
set_option maxRecDepth 20000 in
theorem lc1 (h : CPL m N) (hN : N ≤ 1000) (hi : i + 6 ≤ len) (hl : len ≤ 3072) (g : ∀ e' w' m', e' ≤ e + 1 → CPL m' (N + 1) → LX (len + 1, f) (D + 22) 378 (lsL i) [] e' w' m' B) : LX (len + 1, f) (D + 22) 5 (lsL i) [] e w m B :=
  cI1 (L := 5) (A := 7) (B5 := 10) (C := 8) (X := 6) (W := 323) (z := 201) (X2 := 9) rfl rfl rfl rfl kw323 (Nat.le_of_ble_eq_true rfl) km201 (Nat.le_of_ble_eq_true rfl) (fun _ q => q) (wr323 (p1 := f (i + 1)) (D := D) h) hi hl (fun e' w' m' he hc => g e' w' m' he (CPL_le hc (Nat.le_succ N)))
set_option maxRecDepth 20000 in
theorem lc2 (h : CPL m N) (hN : N ≤ 1000) (hi : i + 6 ≤ len) (hl : len ≤ 3072) (g : ∀ e' w' m', e' ≤ e + 1 → CPL m' (N + 1) → LX (len + 1, f) (D + 22) 378 (lsL i) [] e' w' m' B) : LX (len + 1, f) (D + 22) 11 (lsL i) [] e w m B :=
  cX0 (L := 11) (y := 93) (z := 181) (X := 12) rfl km93 (Nat.le_of_ble_eq_true rfl) (fun _ q => q) km181 (Nat.le_of_ble_eq_true rfl) (fun _ q => q) rfl (p_parseError (D := D + 8) h) hi hl (fun e' w' m' he hc => g e' w' m' he (CPL_le hc (Nat.le_succ N)))
set_option maxRecDepth 20000 in
theorem lc3 (h : CPL m N) (hN : N ≤ 1000) (hi : i + 6 ≤ len) (hl : len ≤ 3072) (g : ∀ e' w' m', e' ≤ e + 1 → CPL m' (N + 1) → LX (len + 1, f) (D + 22) 378 (lsL i) [] e' w' m' B) : LX (len + 1, f) (D + 22) 13 (lsL i) [] e w m B :=
  cX0 (L := 13) (y := 94) (z := 182) (X := 14) rfl km94 (Nat.le_of_ble_eq_true rfl) (fun _ q => q) km182 (Nat.le_of_ble_eq_true rfl) (fun _ q => q) rfl (p_errorPosition (D := D + 8) h) hi hl (fun e' w' m' he hc => g e' w' m' he (CPL_le hc (Nat.le_succ N)))
set_option maxRecDepth 20000 in
theorem lc4 (h : CPL m N) (hN : N ≤ 1000) (hi : i + 6 ≤ len) (hl : len ≤ 3072) (g : ∀ e' w' m', e' ≤ e + 1 → CPL m' (N + 1) → LX (len + 1, f) (D + 22) 378 (lsL i) [] e' w' m' B) : LX (len + 1, f) (D + 22) 15 (lsL i) [] e w m B :=
  cX0 (L := 15) (y := 95) (z := 183) (X := 16) rfl km95 (Nat.le_of_ble_eq_true rfl) (fun _ q => q) km183 (Nat.le_of_ble_eq_true rfl) (fun _ q => q) rfl (p_buffered (D := D + 8) h) hi hl (fun e' w' m' he hc => g e' w' m' he (CPL_le hc (Nat.le_succ N)))
set_option maxRecDepth 20000 in
theorem lc5 (h : CPL m N) (hN : N ≤ 1000) (hi : i + 6 ≤ len) (hl : len ≤ 3072) (g : ∀ e' w' m', e' ≤ e + 1 → CPL m' (N + 1) → LX (len + 1, f) (D + 22) 378 (lsL i) [] e' w' m' B) : LX (len + 1, f) (D + 22) 17 (lsL i) [] e w m B :=
  cI1 (L := 17) (A := 19) (B5 := 22) (C := 20) (X := 18) (W := 324) (z := 239) (X2 := 21) rfl rfl rfl rfl kw324 (Nat.le_of_ble_eq_true rfl) km239 (Nat.le_of_ble_eq_true rfl) (fun _ q => q) (wr324 (p1 := f (i + 1)) (D := D) h) hi hl (fun e' w' m' he hc => g e' w' m' he (CPL_le hc (Nat.le_succ N)))
set_option maxRecDepth 20000 in
theorem lc6 (h : CPL m N) (hN : N ≤ 1000) (hi : i + 6 ≤ len) (hl : len ≤ 3072) (g : ∀ e' w' m', e' ≤ e + 1 → CPL m' (N + 1) → LX (len + 1, f) (D + 22) 378 (lsL i) [] e' w' m' B) : LX (len + 1, f) (D + 22) 23 (lsL i) [] e w m B :=
  cI1 (L := 23) (A := 25) (B5 := 28) (C := 26) (X := 24) (W := 325) (z := 240) (X2 := 27) rfl rfl rfl rfl kw325 (Nat.le_of_ble_eq_true rfl) km240 (Nat.le_of_ble_eq_true rfl) (fun _ q => q) (wr325 (p1 := f (i + 1)) (D := D) h) hi hl (fun e' w' m' he hc => g e' w' m' he (CPL_le hc (Nat.le_succ N)))
set_option maxRecDepth 20000 in
theorem lc7 (h : CPL m N) (hN : N ≤ 1000) (hi : i + 6 ≤ len) (hl : len ≤ 3072) (g : ∀ e' w' m', e' ≤ e + 1 → CPL m' (N + 1) → LX (len + 1, f) (D + 22) 378 (lsL i) [] e' w' m' B) : LX (len + 1, f) (D + 22) 29 (lsL i) [] e w m B :=
  cI2 (L := 29) (A := 31) (B5 := 34) (C := 32) (X := 30) (W := 326) (z := 246) (X2 := 33) rfl rfl rfl rfl kw326 (Nat.le_of_ble_eq_true rfl) km246 (Nat.le_of_ble_eq_true rfl) (fun _ q => q) (wr326 (p1 := f (i + 1)) (p2 := f (i + 2)) (D := D) h) hi hl (fun e' w' m' he hc => g e' w' m' he (CPL_le hc (Nat.le_succ N)))
set_option maxRecDepth 20000 in
theorem lc8 (h : CPL m N) (hN : N ≤ 1000) (hi : i + 6 ≤ len) (hl : len ≤ 3072) (g : ∀ e' w' m', e' ≤ e + 1 → CPL m' (N + 1) → LX (len + 1, f) (D + 22) 378 (lsL i) [] e' w' m' B) : LX (len + 1, f) (D + 22) 35 (lsL i) [] e w m B :=
  cI2 (L := 35) (A := 37) (B5 := 40) (C := 38) (X := 36) (W := 327) (z := 253) (X2 := 39) rfl rfl rfl rfl kw327 (Nat.le_of_ble_eq_true rfl) km253 (Nat.le_of_ble_eq_true rfl) (fun _ q => q) (wr327 (p1 := f (i + 1)) (p2 := f (i + 2)) (D := D) h) hi hl (fun e' w' m' he hc => g e' w' m' he (CPL_le hc (Nat.le_succ N)))
set_option maxRecDepth 20000 in
theorem lc9 (h : CPL m N) (hN : N ≤ 1000) (hi : i + 6 ≤ len) (hl : len ≤ 3072) (g : ∀ e' w' m', e' ≤ e + 1 → CPL m' (N + 1) → LX (len + 1, f) (D + 22) 378 (lsL i) [] e' w' m' B) : LX (len + 1, f) (D + 22) 41 (lsL i) [] e w m B :=
  cI2 (L := 41) (A := 43) (B5 := 46) (C := 44) (X := 42) (W := 328) (z := 254) (X2 := 45) rfl rfl rfl rfl kw328 (Nat.le_of_ble_eq_true rfl) km254 (Nat.le_of_ble_eq_true rfl) (fun _ q => q) (wr328 (p1 := f (i + 1)) (p2 := f (i + 2)) (D := D) h) hi hl (fun e' w' m' he hc => g e' w' m' he (CPL_le hc (Nat.le_succ N)))
set_option maxRecDepth 20000 in
theorem lc10 (h : CPL m N) (hN : N ≤ 1000) (hi : i + 6 ≤ len) (hl : len ≤ 3072) (g : ∀ e' w' m', e' ≤ e + 1 → CPL m' (N + 1) → LX (len + 1, f) (D + 22) 378 (lsL i) [] e' w' m' B) : LX (len + 1, f) (D + 22) 47 (lsL i) [] e w m B :=
  cI2 (L := 47) (A := 49) (B5 := 52) (C := 50) (X := 48) (W := 329) (z := 255) (X2 := 51) rfl rfl rfl rfl kw329 (Nat.le_of_ble_eq_true rfl) km255 (Nat.le_of_ble_eq_true rfl) (fun _ q => q) (wr329 (p1 := f (i + 1)) (p2 := f (i + 2)) (D := D) h) hi hl (fun e' w' m' he hc => g e' w' m' he (CPL_le hc (Nat.le_succ N)))
set_option maxRecDepth 20000 in
theorem lc11 (h : CPL m N) (hN : N ≤ 1000) (hi : i + 6 ≤ len) (hl : len ≤ 3072) (g : ∀ e' w' m', e' ≤ e + 1 → CPL m' (N + 1) → LX (len + 1, f) (D + 22) 378 (lsL i) [] e' w' m' B) : LX (len + 1, f) (D + 22) 53 (lsL i) [] e w m B :=
  cI2 (L := 53) (A := 55) (B5 := 58) (C := 56) (X := 54) (W := 330) (z := 256) (X2 := 57) rfl rfl rfl rfl kw330 (Nat.le_of_ble_eq_true rfl) km256 (Nat.le_of_ble_eq_true rfl) (fun _ q => q) (wr330 (p1 := f (i + 1)) (p2 := f (i + 2)) (D := D) h) hi hl (fun e' w' m' he hc => g e' w' m' he (CPL_le hc (Nat.le_succ N)))
set_option maxRecDepth 20000 in
theorem lc12 (h : CPL m N) (hN : N ≤ 1000) (hi : i + 6 ≤ len) (hl : len ≤ 3072) (g : ∀ e' w' m', e' ≤ e + 1 → CPL m' (N + 1) → LX (len + 1, f) (D + 22) 378 (lsL i) [] e' w' m' B) : LX (len + 1, f) (D + 22) 59 (lsL i) [] e w m B :=
  cI2 (L := 59) (A := 61) (B5 := 64) (C := 62) (X := 60) (W := 331) (z := 257) (X2 := 63) rfl rfl rfl rfl kw331 (Nat.le_of_ble_eq_true rfl) km257 (Nat.le_of_ble_eq_true rfl) (fun _ q => q) (wr331 (p1 := f (i + 1)) (p2 := f (i + 2)) (D := D) h) hi hl (fun e' w' m' he hc => g e' w' m' he (CPL_le hc (Nat.le_succ N)))
set_option maxRecDepth 20000 in
theorem lc13 (h : CPL m N) (hN : N ≤ 1000) (hi : i + 6 ≤ len) (hl : len ≤ 3072) (g : ∀ e' w' m', e' ≤ e + 1 → CPL m' (N + 1) → LX (len + 1, f) (D + 22) 378 (lsL i) [] e' w' m' B) : LX (len + 1, f) (D + 22) 65 (lsL i) [] e w m B :=
  cI1 (L := 65) (A := 67) (B5 := 70) (C := 68) (X := 66) (W := 332) (z := 258) (X2 := 69) rfl rfl rfl rfl kw332 (Nat.le_of_ble_eq_true rfl) km258 (Nat.le_of_ble_eq_true rfl) (fun _ q => q) (wr332 (p1 := f (i + 1)) (D := D) h) hi hl (fun e' w' m' he hc => g e' w' m' he (CPL_le hc (Nat.le_succ N)))
set_option maxRecDepth 20000 in
theorem lc14 (h : CPL m N) (hN : N ≤ 1000) (hi : i + 6 ≤ len) (hl : len ≤ 3072) (g : ∀ e' w' m', e' ≤ e + 1 → CPL m' (N + 1) → LX (len + 1, f) (D + 22) 378 (lsL i) [] e' w' m' B) : LX (len + 1, f) (D + 22) 71 (lsL i) [] e w m B :=
  cI1 (L := 71) (A := 73) (B5 := 76) (C := 74) (X := 72) (W := 333) (z := 259) (X2 := 75) rfl rfl rfl rfl kw333 (Nat.le_of_ble_eq_true rfl) km259 (Nat.le_of_ble_eq_true rfl) (fun _ q => q) (wr333 (p1 := f (i + 1)) (D := D) h) hi hl (fun e' w' m' he hc => g e' w' m' he (CPL_le hc (Nat.le_succ N)))
set_option maxRecDepth 20000 in
theorem lc15 (h : CPL m N) (hN : N ≤ 1000) (hi : i + 6 ≤ len) (hl : len ≤ 3072) (g : ∀ e' w' m', e' ≤ e + 1 → CPL m' (N + 1) → LX (len + 1, f) (D + 22) 378 (lsL i) [] e' w' m' B) : LX (len + 1, f) (D + 22) 77 (lsL i) [] e w m B :=
  cB1 (L := 77) (A := 79) (B5 := 85) (C := 80) (X := 78) (W := 334) (z := 260) (C4 := 81) (C5 := 82) (C6 := 83) (X2 := 84) rfl rfl rfl rfl rfl rfl rfl kw334 (Nat.le_of_ble_eq_true rfl) km260 (Nat.le_of_ble_eq_true rfl) (fun _ q => q) (wr334 (p1 := f (i + 1)) (D := D) h) hi hl (fun e' w' m' he hc => g e' w' m' he (CPL_le hc (Nat.le_succ N)))
set_option maxRecDepth 20000 in
theorem lc16 (h : CPL m N) (hN : N ≤ 1000) (hi : i + 6 ≤ len) (hl : len ≤ 3072) (g : ∀ e' w' m', e' ≤ e + 1 → CPL m' (N + 1) → LX (len + 1, f) (D + 22) 378 (lsL i) [] e' w' m' B) : LX (len + 1, f) (D + 22) 86 (lsL i) [] e w m B :=
  cF1 (L := 86) (A := 88) (B5 := 93) (C := 89) (X := 87) (W := 335) (z := 272) (C4 := 90) rfl rfl rfl rfl kw335 (Nat.le_of_ble_eq_true rfl) km272 (Nat.le_of_ble_eq_true rfl) (fun _ q => q) (wr335 (p1 := f (i + 1)) (D := D) h) hi hl (fun e' w' m' he hc => g e' w' m' he (CPL_le hc (Nat.le_succ N)))
set_option maxRecDepth 20000 in
theorem lc17 (h : CPL m N) (hN : N ≤ 1000) (hi : i + 6 ≤ len) (hl : len ≤ 3072) (g : ∀ e' w' m', e' ≤ e + 1 → CPL m' (N + 1) → LX (len + 1, f) (D + 22) 378 (lsL i) [] e' w' m' B) : LX (len + 1, f) (D + 22) 94 (lsL i) [] e w m B :=
  cI1 (L := 94) (A := 96) (B5 := 99) (C := 97) (X := 95) (W := 336) (z := 273) (X2 := 98) rfl rfl rfl rfl kw336 (Nat.le_of_ble_eq_true rfl) km273 (Nat.le_of_ble_eq_true rfl) (fun _ q => q) (wr336 (p1 := f (i + 1)) (D := D) h) hi hl (fun e' w' m' he hc => g e' w' m' he (CPL_le hc (Nat.le_succ N)))
set_option maxRecDepth 20000 in
theorem lc18 (h : CPL m N) (hN : N ≤ 1000) (hi : i + 6 ≤ len) (hl : len ≤ 3072) (g : ∀ e' w' m', e' ≤ e + 1 → CPL m' (N + 1) → LX (len + 1, f) (D + 22) 378 (lsL i) [] e' w' m' B) : LX (len + 1, f) (D + 22) 100 (lsL i) [] e w m B :=
  cI1 (L := 100) (A := 102) (B5 := 105) (C := 103) (X := 101) (W := 337) (z := 274) (X2 := 104) rfl rfl rfl rfl kw337 (Nat.le_of_ble_eq_true rfl) km274 (Nat.le_of_ble_eq_true rfl) (fun _ q => q) (wr337 (p1 := f (i + 1)) (D := D) h) hi hl (fun e' w' m' he hc => g e' w' m' he (CPL_le hc (Nat.le_succ N)))
set_option maxRecDepth 20000 in
theorem lc19 (h : CPL m N) (hN : N ≤ 1000) (hi : i + 6 ≤ len) (hl : len ≤ 3072) (g : ∀ e' w' m', e' ≤ e + 1 → CPL m' (N + 1) → LX (len + 1, f) (D + 22) 378 (lsL i) [] e' w' m' B) : LX (len + 1, f) (D + 22) 106 (lsL i) [] e w m B :=
  cI2 (L := 106) (A := 108) (B5 := 111) (C := 109) (X := 107) (W := 338) (z := 262) (X2 := 110) rfl rfl rfl rfl kw338 (Nat.le_of_ble_eq_true rfl) km262 (Nat.le_of_ble_eq_true rfl) (fun _ q => q) (wr338 (p1 := f (i + 1)) (p2 := f (i + 2)) (D := D) h) hi hl (fun e' w' m' he hc => g e' w' m' he (CPL_le hc (Nat.le_succ N)))
set_option maxRecDepth 20000 in
theorem lc20 (h : CPL m N) (hN : N ≤ 1000) (hi : i + 6 ≤ len) (hl : len ≤ 3072) (g : ∀ e' w' m', e' ≤ e + 1 → CPL m' (N + 1) → LX (len + 1, f) (D + 22) 378 (lsL i) [] e' w' m' B) : LX (len + 1, f) (D + 22) 112 (lsL i) [] e w m B :=
  cI1 (L := 112) (A := 114) (B5 := 117) (C := 115) (X := 113) (W := 339) (z := 263) (X2 := 116) rfl rfl rfl rfl kw339 (Nat.le_of_ble_eq_true rfl) km263 (Nat.le_of_ble_eq_true rfl) (fun _ q => q) (wr339 (p1 := f (i + 1)) (D := D) h) hi hl (fun e' w' m' he hc => g e' w' m' he (CPL_le hc (Nat.le_succ N)))
set_option maxRecDepth 20000 in
theorem lc21 (h : CPL m N) (hN : N ≤ 1000) (hi : i + 6 ≤ len) (hl : len ≤ 3072) (g : ∀ e' w' m', e' ≤ e + 1 → CPL m' (N + 1) → LX (len + 1, f) (D + 22) 378 (lsL i) [] e' w' m' B) : LX (len + 1, f) (D + 22) 118 (lsL i) [] e w m B :=
  cI1 (L := 118) (A := 120) (B5 := 123) (C := 121) (X := 119) (W := 340) (z := 264) (X2 := 122) rfl rfl rfl rfl kw340 (Nat.le_of_ble_eq_true rfl) km264 (Nat.le_of_ble_eq_true rfl) (fun _ q => q) (wr340 (p1 := f (i + 1)) (D := D) h) hi hl (fun e' w' m' he hc => g e' w' m' he (CPL_le hc (Nat.le_succ N)))
set_option maxRecDepth 20000 in
theorem lc22 (h : CPL m N) (hN : N ≤ 1000) (hi : i + 6 ≤ len) (hl : len ≤ 3072) (g : ∀ e' w' m', e' ≤ e + 1 → CPL m' (N + 1) → LX (len + 1, f) (D + 22) 378 (lsL i) [] e' w' m' B) : LX (len + 1, f) (D + 22) 124 (lsL i) [] e w m B :=
  cI1 (L := 124) (A := 126) (B5 := 129) (C := 127) (X := 125) (W := 341) (z := 266) (X2 := 128) rfl rfl rfl rfl kw341 (Nat.le_of_ble_eq_true rfl) km266 (Nat.le_of_ble_eq_true rfl) (fun _ q => q) (wr341 (p1 := f (i + 1)) (D := D) h) hi hl (fun e' w' m' he hc => g e' w' m' he (CPL_le hc (Nat.le_succ N)))
set_option maxRecDepth 20000 in
theorem lc23 (h : CPL m N) (hN : N ≤ 1000) (hi : i + 6 ≤ len) (hl : len ≤ 3072) (g : ∀ e' w' m', e' ≤ e + 1 → CPL m' (N + 1) → LX (len + 1, f) (D + 22) 378 (lsL i) [] e' w' m' B) : LX (len + 1, f) (D + 22) 130 (lsL i) [] e w m B :=
  cI1 (L := 130) (A := 132) (B5 := 135) (C := 133) (X := 131) (W := 342) (z := 267) (X2 := 134) rfl rfl rfl rfl kw342 (Nat.le_of_ble_eq_true rfl) km267 (Nat.le_of_ble_eq_true rfl) (fun _ q => q) (wr342 (p1 := f (i + 1)) (D := D) h) hi hl (fun e' w' m' he hc => g e' w' m' he (CPL_le hc (Nat.le_succ N)))
set_option maxRecDepth 20000 in
theorem lc24 (h : CPL m N) (hN : N ≤ 1000) (hi : i + 6 ≤ len) (hl : len ≤ 3072) (g : ∀ e' w' m', e' ≤ e + 1 → CPL m' (N + 1) → LX (len + 1, f) (D + 22) 378 (lsL i) [] e' w' m' B) : LX (len + 1, f) (D + 22) 136 (lsL i) [] e w m B :=
  cI1 (L := 136) (A := 138) (B5 := 141) (C := 139) (X := 137) (W := 343) (z := 268) (X2 := 140) rfl rfl rfl rfl kw343 (Nat.le_of_ble_eq_true rfl) km268 (Nat.le_of_ble_eq_true rfl) (fun _ q => q) (wr343 (p1 := f (i + 1)) (D := D) h) hi hl (fun e' w' m' he hc => g e' w' m' he (CPL_le hc (Nat.le_succ N)))
set_option maxRecDepth 20000 in
theorem lc25 (h : CPL m N) (hN : N ≤ 1000) (hi : i + 6 ≤ len) (hl : len ≤ 3072) (g : ∀ e' w' m', e' ≤ e + 1 → CPL m' (N + 1) → LX (len + 1, f) (D + 22) 378 (lsL i) [] e' w' m' B) : LX (len + 1, f) (D + 22) 142 (lsL i) [] e w m B :=
  cI0 (L := 142) (A := 144) (B5 := 147) (C := 145) (X := 143) (W := 344) (z := 269) (X2 := 146) rfl rfl rfl rfl kw344 (Nat.le_of_ble_eq_true rfl) km269 (Nat.le_of_ble_eq_true rfl) (fun _ q => q) (wr344 (D := D) h) hi hl (fun e' w' m' he hc => g e' w' m' he (CPL_le hc (Nat.le_succ N)))
set_option maxRecDepth 20000 in
theorem lc26 (h : CPL m N) (hN : N ≤ 1000) (hi : i + 6 ≤ len) (hl : len ≤ 3072) (g : ∀ e' w' m', e' ≤ e + 1 → CPL m' (N + 1) → LX (len + 1, f) (D + 22) 378 (lsL i) [] e' w' m' B) : LX (len + 1, f) (D + 22) 148 (lsL i) [] e w m B :=
  cI0 (L := 148) (A := 150) (B5 := 153) (C := 151) (X := 149) (W := 345) (z := 270) (X2 := 152) rfl rfl rfl rfl kw345 (Nat.le_of_ble_eq_true rfl) km270 (Nat.le_of_ble_eq_true rfl) (fun _ q => q) (wr345 (D := D) h) hi hl (fun e' w' m' he hc => g e' w' m' he (CPL_le hc (Nat.le_succ N)))
set_option maxRecDepth 20000 in
theorem lc27 (h : CPL m N) (hN : N ≤ 1000) (hi : i + 6 ≤ len) (hl : len ≤ 3072) (g : ∀ e' w' m', e' ≤ e + 1 → CPL m' (N + 1) → LX (len + 1, f) (D + 22) 378 (lsL i) [] e' w' m' B) : LX (len + 1, f) (D + 22) 154 (lsL i) [] e w m B :=
  cI2 (L := 154) (A := 156) (B5 := 159) (C := 157) (X := 155) (W := 346) (z := 271) (X2 := 158) rfl rfl rfl rfl kw346 (Nat.le_of_ble_eq_true rfl) km271 (Nat.le_of_ble_eq_true rfl) (fun _ q => q) (wr346 (p1 := f (i + 1)) (p2 := f (i + 2)) (D := D) h) hi hl (fun e' w' m' he hc => g e' w' m' he (CPL_le hc (Nat.le_succ N)))
set_option maxRecDepth 20000 in
theorem lc28 (h : CPL m N) (hN : N ≤ 1000) (hi : i + 6 ≤ len) (hl : len ≤ 3072) (g : ∀ e' w' m', e' ≤ e + 1 → CPL m' (N + 1) → LX (len + 1, f) (D + 22) 378 (lsL i) [] e' w' m' B) : LX (len + 1, f) (D + 22) 160 (lsL i) [] e w m B :=
  cI0 (L := 160) (A := 162) (B5 := 165) (C := 163) (X := 161) (W := 347) (z := 276) (X2 := 164) rfl rfl rfl rfl kw347 (Nat.le_of_ble_eq_true rfl) km276 (Nat.le_of_ble_eq_true rfl) (fun _ q => q) (wr347 (D := D) h) hi hl (fun e' w' m' he hc => g e' w' m' he (CPL_le hc (Nat.le_succ N)))
set_option maxRecDepth 20000 in
theorem lc29 (h : CPL m N) (hN : N ≤ 1000) (hi : i + 6 ≤ len) (hl : len ≤ 3072) (g : ∀ e' w' m', e' ≤ e + 1 → CPL m' (N + 1) → LX (len + 1, f) (D + 22) 378 (lsL i) [] e' w' m' B) : LX (len + 1, f) (D + 22) 166 (lsL i) [] e w m B :=
  cI0 (L := 166) (A := 168) (B5 := 171) (C := 169) (X := 167) (W := 348) (z := 277) (X2 := 170) rfl rfl rfl rfl kw348 (Nat.le_of_ble_eq_true rfl) km277 (Nat.le_of_ble_eq_true rfl) (fun _ q => q) (wr348 (D := D) h) hi hl (fun e' w' m' he hc => g e' w' m' he (CPL_le hc (Nat.le_succ N)))
set_option maxRecDepth 20000 in
theorem lc30 (h : CPL m N) (hN : N ≤ 1000) (hi : i + 6 ≤ len) (hl : len ≤ 3072) (g : ∀ e' w' m', e' ≤ e + 1 → CPL m' (N + 1) → LX (len + 1, f) (D + 22) 378 (lsL i) [] e' w' m' B) : LX (len + 1, f) (D + 22) 172 (lsL i) [] e w m B :=
  cI0 (L := 172) (A := 174) (B5 := 177) (C := 175) (X := 173) (W := 349) (z := 278) (X2 := 176) rfl rfl rfl rfl kw349 (Nat.le_of_ble_eq_true rfl) km278 (Nat.le_of_ble_eq_true rfl) (fun _ q => q) (wr349 (D := D) h) hi hl (fun e' w' m' he hc => g e' w' m' he (CPL_le hc (Nat.le_succ N)))
set_option maxRecDepth 20000 in
theorem lc31 (h : CPL m N) (hN : N ≤ 1000) (hi : i + 6 ≤ len) (hl : len ≤ 3072) (g : ∀ e' w' m', e' ≤ e + 1 → CPL m' (N + 1) → LX (len + 1, f) (D + 22) 378 (lsL i) [] e' w' m' B) : LX (len + 1, f) (D + 22) 178 (lsL i) [] e w m B :=
  cI0 (L := 178) (A := 180) (B5 := 183) (C := 181) (X := 179) (W := 350) (z := 279) (X2 := 182) rfl rfl rfl rfl kw350 (Nat.le_of_ble_eq_true rfl) km279 (Nat.le_of_ble_eq_true rfl) (fun _ q => q) (wr350 (D := D) h) hi hl (fun e' w' m' he hc => g e' w' m' he (CPL_le hc (Nat.le_succ N)))
set_option maxRecDepth 20000 in
theorem lc32 (h : CPL m N) (hN : N ≤ 1000) (hi : i + 6 ≤ len) (hl : len ≤ 3072) (g : ∀ e' w' m', e' ≤ e + 1 → CPL m' (N + 1) → LX (len + 1, f) (D + 22) 378 (lsL i) [] e' w' m' B) : LX (len + 1, f) (D + 22) 184 (lsL i) [] e w m B :=
  cI0 (L := 184) (A := 186) (B5 := 189) (C := 187) (X := 185) (W := 351) (z := 280) (X2 := 188) rfl rfl rfl rfl kw351 (Nat.le_of_ble_eq_true rfl) km280 (Nat.le_of_ble_eq_true rfl) (fun _ q => q) (wr351 (D := D) h) hi hl (fun e' w' m' he hc => g e' w' m' he (CPL_le hc (Nat.le_succ N)))
set_option maxRecDepth 20000 in
theorem lc33 (h : CPL m N) (hN : N ≤ 1000) (hi : i + 6 ≤ len) (hl : len ≤ 3072) (g : ∀ e' w' m', e' ≤ e + 1 → CPL m' (N + 1) → LX (len + 1, f) (D + 22) 378 (lsL i) [] e' w' m' B) : LX (len + 1, f) (D + 22) 190 (lsL i) [] e w m B :=
  cD0 (L := 190) (A := 192) (B5 := 197) (C := 193) (X := 191) (W := 352) (z := 282) (C4 := 194) (C5 := 195) (C6 := 196) rfl rfl rfl rfl rfl rfl kw352 (Nat.le_of_ble_eq_true rfl) km282 (Nat.le_of_ble_eq_true rfl) (fun _ q => q) (wr352 (D := D) h) hi hl (fun e' w' m' he hc => g e' w' m' he (CPL_le hc (Nat.le_succ N)))
set_option maxRecDepth 20000 in
theorem lc34 (h : CPL m N) (hN : N ≤ 1000) (hi : i + 6 ≤ len) (hl : len ≤ 3072) (g : ∀ e' w' m', e' ≤ e + 1 → CPL m' (N + 1) → LX (len + 1, f) (D + 22) 378 (lsL i) [] e' w' m' B) : LX (len + 1, f) (D + 22) 198 (lsL i) [] e w m B :=
  cJ0 (L := 198) (A := 200) (B5 := 203) (C := 201) (X := 199) (W := 353) (z := 283) (X2 := 202) rfl rfl rfl rfl kw353 (Nat.le_of_ble_eq_true rfl) km283 (Nat.le_of_ble_eq_true rfl) (fun _ q => q) (wr353 (D := D) h) hi hl (fun e' w' m' he hc => g e' w' m' he (CPL_le hc (Nat.le_succ N)))
set_option maxRecDepth 20000 in
theorem lc35 (h : CPL m N) (hN : N ≤ 1000) (hi : i + 6 ≤ len) (hl : len ≤ 3072) (g : ∀ e' w' m', e' ≤ e + 1 → CPL m' (N + 1) → LX (len + 1, f) (D + 22) 378 (lsL i) [] e' w' m' B) : LX (len + 1, f) (D + 22) 204 (lsL i) [] e w m B :=
  cI1 (L := 204) (A := 206) (B5 := 209) (C := 207) (X := 205) (W := 354) (z := 287) (X2 := 208) rfl rfl rfl rfl kw354 (Nat.le_of_ble_eq_true rfl) km287 (Nat.le_of_ble_eq_true rfl) (fun _ q => q) (wr354 (p1 := f (i + 1)) (D := D) h) hi hl (fun e' w' m' he hc => g e' w' m' he (CPL_le hc (Nat.le_succ N)))
set_option maxRecDepth 20000 in
theorem lc36 (h : CPL m N) (hN : N ≤ 1000) (hi : i + 6 ≤ len) (hl : len ≤ 3072) (g : ∀ e' w' m', e' ≤ e + 1 → CPL m' (N + 1) → LX (len + 1, f) (D + 22) 378 (lsL i) [] e' w' m' B) : LX (len + 1, f) (D + 22) 210 (lsL i) [] e w m B :=
  cI1 (L := 210) (A := 212) (B5 := 215) (C := 213) (X := 211) (W := 355) (z := 289) (X2 := 214) rfl rfl rfl rfl kw355 (Nat.le_of_ble_eq_true rfl) km289 (Nat.le_of_ble_eq_true rfl) (fun _ q => q) (wr355 (p1 := f (i + 1)) (D := D) h) hi hl (fun e' w' m' he hc => g e' w' m' he (CPL_le hc (Nat.le_succ N)))
set_option maxRecDepth 20000 in
theorem lc37 (h : CPL m N) (hN : N ≤ 1000) (hi : i + 6 ≤ len) (hl : len ≤ 3072) (g : ∀ e' w' m', e' ≤ e + 1 → CPL m' (N + 1) → LX (len + 1, f) (D + 22) 378 (lsL i) [] e' w' m' B) : LX (len + 1, f) (D + 22) 216 (lsL i) [] e w m B :=
  cI2 (L := 216) (A := 218) (B5 := 221) (C := 219) (X := 217) (W := 356) (z := 292) (X2 := 220) rfl rfl rfl rfl kw356 (Nat.le_of_ble_eq_true rfl) km292 (Nat.le_of_ble_eq_true rfl) (fun _ q => q) (wr356 (p1 := f (i + 1)) (p2 := f (i + 2)) (D := D) h) hi hl (fun e' w' m' he hc => g e' w' m' he (CPL_le hc (Nat.le_succ N)))
set_option maxRecDepth 20000 in
theorem lc38 (h : CPL m N) (hN : N ≤ 1000) (hi : i + 6 ≤ len) (hl : len ≤ 3072) (g : ∀ e' w' m', e' ≤ e + 1 → CPL m' (N + 1) → LX (len + 1, f) (D + 22) 378 (lsL i) [] e' w' m' B) : LX (len + 1, f) (D + 22) 222 (lsL i) [] e w m B :=
  cI2 (L := 222) (A := 224) (B5 := 227) (C := 225) (X := 223) (W := 357) (z := 293) (X2 := 226) rfl rfl rfl rfl kw357 (Nat.le_of_ble_eq_true rfl) km293 (Nat.le_of_ble_eq_true rfl) (fun _ q => q) (wr357 (p1 := f (i + 1)) (p2 := f (i + 2)) (D := D) h) hi hl (fun e' w' m' he hc => g e' w' m' he (CPL_le hc (Nat.le_succ N)))
set_option maxRecDepth 20000 in
theorem lc39 (h : CPL m N) (hN : N ≤ 1000) (hi : i + 6 ≤ len) (hl : len ≤ 3072) (g : ∀ e' w' m', e' ≤ e + 1 → CPL m' (N + 1) → LX (len + 1, f) (D + 22) 378 (lsL i) [] e' w' m' B) : LX (len + 1, f) (D + 22) 228 (lsL i) [] e w m B :=
  cI2 (L := 228) (A := 230) (B5 := 233) (C := 231) (X := 229) (W := 358) (z := 294) (X2 := 232) rfl rfl rfl rfl kw358 (Nat.le_of_ble_eq_true rfl) km294 (Nat.le_of_ble_eq_true rfl) (fun _ q => q) (wr358 (p1 := f (i + 1)) (p2 := f (i + 2)) (D := D) h) hi hl (fun e' w' m' he hc => g e' w' m' he (CPL_le hc (Nat.le_succ N)))
set_option maxRecDepth 20000 in
theorem lc40 (h : CPL m N) (hN : N ≤ 1000) (hi : i + 6 ≤ len) (hl : len ≤ 3072) (g : ∀ e' w' m', e' ≤ e + 1 → CPL m' (N + 1) → LX (len + 1, f) (D + 22) 378 (lsL i) [] e' w' m' B) : LX (len + 1, f) (D + 22) 234 (lsL i) [] e w m B :=
  cI1 (L := 234) (A := 236) (B5 := 239) (C := 237) (X := 235) (W := 359) (z := 295) (X2 := 238) rfl rfl rfl rfl kw359 (Nat.le_of_ble_eq_true rfl) km295 (Nat.le_of_ble_eq_true rfl) (fun _ q => q) (wr359 (p1 := f (i + 1)) (D := D) h) hi hl (fun e' w' m' he hc => g e' w' m' he (CPL_le hc (Nat.le_succ N)))
set_option maxRecDepth 20000 in
theorem lc41 (h : CPL m N) (hN : N ≤ 1000) (hi : i + 6 ≤ len) (hl : len ≤ 3072) (g : ∀ e' w' m', e' ≤ e + 1 → CPL m' (N + 1) → LX (len + 1, f) (D + 22) 378 (lsL i) [] e' w' m' B) : LX (len + 1, f) (D + 22) 240 (lsL i) [] e w m B :=
  cI0 (L := 240) (A := 242) (B5 := 245) (C := 243) (X := 241) (W := 360) (z := 296) (X2 := 244) rfl rfl rfl rfl kw360 (Nat.le_of_ble_eq_true rfl) km296 (Nat.le_of_ble_eq_true rfl) (fun _ q => q) (wr360 (D := D) h) hi hl (fun e' w' m' he hc => g e' w' m' he (CPL_le hc (Nat.le_succ N)))
set_option maxRecDepth 20000 in
theorem lc42 (h : CPL m N) (hN : N ≤ 1000) (hi : i + 6 ≤ len) (hl : len ≤ 3072) (g : ∀ e' w' m', e' ≤ e + 1 → CPL m' (N + 1) → LX (len + 1, f) (D + 22) 378 (lsL i) [] e' w' m' B) : LX (len + 1, f) (D + 22) 246 (lsL i) [] e w m B :=
  cF2 (L := 246) (A := 248) (B5 := 253) (C := 249) (X := 247) (W := 361) (z := 298) (C4 := 250) rfl rfl rfl rfl kw361 (Nat.le_of_ble_eq_true rfl) km298 (Nat.le_of_ble_eq_true rfl) (fun _ q => q) (wr361 (p1 := f (i + 1)) (p2 := f (i + 2)) (D := D) h) hi hl (fun e' w' m' he hc => g e' w' m' he (CPL_le hc (Nat.le_succ N)))
set_option maxRecDepth 20000 in
theorem lc43 (h : CPL m N) (hN : N ≤ 1000) (hi : i + 6 ≤ len) (hl : len ≤ 3072) (g : ∀ e' w' m', e' ≤ e + 1 → CPL m' (N + 1) → LX (len + 1, f) (D + 22) 378 (lsL i) [] e' w' m' B) : LX (len + 1, f) (D + 22) 254 (lsL i) [] e w m B :=
  cF2 (L := 254) (A := 256) (B5 := 261) (C := 257) (X := 255) (W := 362) (z := 299) (C4 := 258) rfl rfl rfl rfl kw362 (Nat.le_of_ble_eq_true rfl) km299 (Nat.le_of_ble_eq_true rfl) (fun _ q => q) (wr362 (p1 := f (i + 1)) (p2 := f (i + 2)) (D := D) h) hi hl (fun e' w' m' he hc => g e' w' m' he (CPL_le hc (Nat.le_succ N)))
set_option maxRecDepth 20000 in
theorem lc44 (h : CPL m N) (hN : N ≤ 1000) (hi : i + 6 ≤ len) (hl : len ≤ 3072) (g : ∀ e' w' m', e' ≤ e + 1 → CPL m' (N + 1) → LX (len + 1, f) (D + 22) 378 (lsL i) [] e' w' m' B) : LX (len + 1, f) (D + 22) 262 (lsL i) [] e w m B :=
  cI1 (L := 262) (A := 264) (B5 := 267) (C := 265) (X := 263) (W := 363) (z := 300) (X2 := 266) rfl rfl rfl rfl kw363 (Nat.le_of_ble_eq_true rfl) km300 (Nat.le_of_ble_eq_true rfl) (fun _ q => q) (wr363 (p1 := f (i + 1)) (D := D) h) hi hl (fun e' w' m' he hc => g e' w' m' he (CPL_le hc (Nat.le_succ N)))
set_option maxRecDepth 20000 in
theorem lc45 (h : CPL m N) (hN : N ≤ 1000) (hi : i + 6 ≤ len) (hl : len ≤ 3072) (g : ∀ e' w' m', e' ≤ e + 1 → CPL m' (N + 1) → LX (len + 1, f) (D + 22) 378 (lsL i) [] e' w' m' B) : LX (len + 1, f) (D + 22) 268 (lsL i) [] e w m B :=
  cI1 (L := 268) (A := 270) (B5 := 273) (C := 271) (X := 269) (W := 364) (z := 301) (X2 := 272) rfl rfl rfl rfl kw364 (Nat.le_of_ble_eq_true rfl) km301 (Nat.le_of_ble_eq_true rfl) (fun _ q => q) (wr364 (p1 := f (i + 1)) (D := D) h) hi hl (fun e' w' m' he hc => g e' w' m' he (CPL_le hc (Nat.le_succ N)))
set_option maxRecDepth 20000 in
theorem lc46 (h : CPL m N) (hN : N ≤ 1000) (hi : i + 6 ≤ len) (hl : len ≤ 3072) (g : ∀ e' w' m', e' ≤ e + 1 → CPL m' (N + 1) → LX (len + 1, f) (D + 22) 378 (lsL i) [] e' w' m' B) : LX (len + 1, f) (D + 22) 274 (lsL i) [] e w m B :=
  cI0 (L := 274) (A := 276) (B5 := 279) (C := 277) (X := 275) (W := 365) (z := 302) (X2 := 278) rfl rfl rfl rfl kw365 (Nat.le_of_ble_eq_true rfl) km302 (Nat.le_of_ble_eq_true rfl) (fun _ q => q) (wr365 (D := D) h hN) hi hl (fun e' w' m' he hc => g e' w' m' he (CPL_le hc (Nat.le_succ N)))
set_option maxRecDepth 20000 in
theorem lc47 (h : CPL m N) (hN : N ≤ 1000) (hi : i + 6 ≤ len) (hl : len ≤ 3072) (g : ∀ e' w' m', e' ≤ e + 1 → CPL m' (N + 1) → LX (len + 1, f) (D + 22) 378 (lsL i) [] e' w' m' B) : LX (len + 1, f) (D + 22) 280 (lsL i) [] e w m B :=
  cI1 (L := 280) (A := 282) (B5 := 285) (C := 283) (X := 281) (W := 366) (z := 305) (X2 := 284) rfl rfl rfl rfl kw366 (Nat.le_of_ble_eq_true rfl) km305 (Nat.le_of_ble_eq_true rfl) (fun _ q => q) (wr366 (p1 := f (i + 1)) (D := D) h) hi hl (fun e' w' m' he hc => g e' w' m' he (CPL_le hc (Nat.le_succ N)))
set_option maxRecDepth 20000 in
theorem lc48 (h : CPL m N) (hN : N ≤ 1000) (hi : i + 6 ≤ len) (hl : len ≤ 3072) (g : ∀ e' w' m', e' ≤ e + 1 → CPL m' (N + 1) → LX (len + 1, f) (D + 22) 378 (lsL i) [] e' w' m' B) : LX (len + 1, f) (D + 22) 286 (lsL i) [] e w m B :=
  cI0 (L := 286) (A := 288) (B5 := 291) (C := 289) (X := 287) (W := 367) (z := 306) (X2 := 290) rfl rfl rfl rfl kw367 (Nat.le_of_ble_eq_true rfl) km306 (Nat.le_of_ble_eq_true rfl) (fun _ q => q) (wr367 (D := D) h) hi hl (fun e' w' m' he hc => g e' w' m' he (CPL_le hc (Nat.le_succ N)))
set_option maxRecDepth 20000 in
theorem lc49 (h : CPL m N) (hN : N ≤ 1000) (hi : i + 6 ≤ len) (hl : len ≤ 3072) (g : ∀ e' w' m', e' ≤ e + 1 → CPL m' (N + 1) → LX (len + 1, f) (D + 22) 378 (lsL i) [] e' w' m' B) : LX (len + 1, f) (D + 22) 292 (lsL i) [] e w m B :=
  cI0 (L := 292) (A := 294) (B5 := 297) (C := 295) (X := 293) (W := 368) (z := 307) (X2 := 296) rfl rfl rfl rfl kw368 (Nat.le_of_ble_eq_true rfl) km307 (Nat.le_of_ble_eq_true rfl) (fun _ q => q) (wr368 (D := D) h) hi hl (fun e' w' m' he hc => g e' w' m' he (CPL_le hc (Nat.le_succ N)))
set_option maxRecDepth 20000 in
theorem lc50 (h : CPL m N) (hN : N ≤ 1000) (hi : i + 6 ≤ len) (hl : len ≤ 3072) (g : ∀ e' w' m', e' ≤ e + 1 → CPL m' (N + 1) → LX (len + 1, f) (D + 22) 378 (lsL i) [] e' w' m' B) : LX (len + 1, f) (D + 22) 298 (lsL i) [] e w m B :=
  cI1 (L := 298) (A := 300) (B5 := 303) (C := 301) (X := 299) (W := 369) (z := 308) (X2 := 302) rfl rfl rfl rfl kw369 (Nat.le_of_ble_eq_true rfl) km308 (Nat.le_of_ble_eq_true rfl) (fun _ q => q) (wr369 (p1 := f (i + 1)) (D := D) h) hi hl (fun e' w' m' he hc => g e' w' m' he (CPL_le hc (Nat.le_succ N)))
set_option maxRecDepth 20000 in
theorem lc51 (h : CPL m N) (hN : N ≤ 1000) (hi : i + 6 ≤ len) (hl : len ≤ 3072) (g : ∀ e' w' m', e' ≤ e + 1 → CPL m' (N + 1) → LX (len + 1, f) (D + 22) 378 (lsL i) [] e' w' m' B) : LX (len + 1, f) (D + 22) 304 (lsL i) [] e w m B :=
  cI1 (L := 304) (A := 306) (B5 := 309) (C := 307) (X := 305) (W := 370) (z := 310) (X2 := 308) rfl rfl rfl rfl kw370 (Nat.le_of_ble_eq_true rfl) km310 (Nat.le_of_ble_eq_true rfl) (fun _ q => q) (wr370 (p1 := f (i + 1)) (D := D) h) hi hl (fun e' w' m' he hc => g e' w' m' he (CPL_le hc (Nat.le_succ N)))
set_option maxRecDepth 20000 in
theorem lc52 (h : CPL m N) (hN : N ≤ 1000) (hi : i + 6 ≤ len) (hl : len ≤ 3072) (g : ∀ e' w' m', e' ≤ e + 1 → CPL m' (N + 1) → LX (len + 1, f) (D + 22) 378 (lsL i) [] e' w' m' B) : LX (len + 1, f) (D + 22) 310 (lsL i) [] e w m B :=
  cI1 (L := 310) (A := 312) (B5 := 315) (C := 313) (X := 311) (W := 371) (z := 311) (X2 := 314) rfl rfl rfl rfl kw371 (Nat.le_of_ble_eq_true rfl) km311 (Nat.le_of_ble_eq_true rfl) (fun _ q => q) (wr371 (p1 := f (i + 1)) (D := D) h) hi hl (fun e' w' m' he hc => g e' w' m' he (CPL_le hc (Nat.le_succ N)))
set_option maxRecDepth 20000 in
theorem lc53 (h : CPL m N) (hN : N ≤ 1000) (hi : i + 6 ≤ len) (hl : len ≤ 3072) (g : ∀ e' w' m', e' ≤ e + 1 → CPL m' (N + 1) → LX (len + 1, f) (D + 22) 378 (lsL i) [] e' w' m' B) : LX (len + 1, f) (D + 22) 316 (lsL i) [] e w m B :=
  cI1 (L := 316) (A := 318) (B5 := 321) (C := 319) (X := 317) (W := 372) (z := 312) (X2 := 320) rfl rfl rfl rfl kw372 (Nat.le_of_ble_eq_true rfl) km312 (Nat.le_of_ble_eq_true rfl) (fun _ q => q) (wr372 (p1 := f (i + 1)) (D := D) h) hi hl g
set_option maxRecDepth 20000 in
theorem lc54 (h : CPL m N) (hN : N ≤ 1000) (hi : i + 6 ≤ len) (hl : len ≤ 3072) (g : ∀ e' w' m', e' ≤ e + 1 → CPL m' (N + 1) → LX (len + 1, f) (D + 22) 378 (lsL i) [] e' w' m' B) : LX (len + 1, f) (D + 22) 322 (lsL i) [] e w m B :=
  cI1 (L := 322) (A := 324) (B5 := 327) (C := 325) (X := 323) (W := 373) (z := 313) (X2 := 326) rfl rfl rfl rfl kw373 (Nat.le_of_ble_eq_true rfl) km313 (Nat.le_of_ble_eq_true rfl) (fun _ q => q) (wr373 (p1 := f (i + 1)) (D := D) h) hi hl (fun e' w' m' he hc => g e' w' m' he (CPL_le hc (Nat.le_succ N)))
set_option maxRecDepth 20000 in
theorem lc55 (h : CPL m N) (hN : N ≤ 1000) (hi : i + 6 ≤ len) (hl : len ≤ 3072) (g : ∀ e' w' m', e' ≤ e + 1 → CPL m' (N + 1) → LX (len + 1, f) (D + 22) 378 (lsL i) [] e' w' m' B) : LX (len + 1, f) (D + 22) 328 (lsL i) [] e w m B :=
  cI2 (L := 328) (A := 330) (B5 := 333) (C := 331) (X := 329) (W := 374) (z := 314) (X2 := 332) rfl rfl rfl rfl kw374 (Nat.le_of_ble_eq_true rfl) km314 (Nat.le_of_ble_eq_true rfl) (fun _ q => q) (wr374 (p1 := f (i + 1)) (p2 := f (i + 2)) (D := D) h) hi hl (fun e' w' m' he hc => g e' w' m' he (CPL_le hc (Nat.le_succ N)))
set_option maxRecDepth 20000 in
theorem lc56 (h : CPL m N) (hN : N ≤ 1000) (hi : i + 6 ≤ len) (hl : len ≤ 3072) (g : ∀ e' w' m', e' ≤ e + 1 → CPL m' (N + 1) → LX (len + 1, f) (D + 22) 378 (lsL i) [] e' w' m' B) : LX (len + 1, f) (D + 22) 334 (lsL i) [] e w m B :=
  cI1 (L := 334) (A := 336) (B5 := 339) (C := 337) (X := 335) (W := 375) (z := 315) (X2 := 338) rfl rfl rfl rfl kw375 (Nat.le_of_ble_eq_true rfl) km315 (Nat.le_of_ble_eq_true rfl) (fun _ q => q) (wr375 (p1 := f (i + 1)) (D := D) h) hi hl (fun e' w' m' he hc => g e' w' m' he (CPL_le hc (Nat.le_succ N)))
set_option maxRecDepth 20000 in
theorem lc57 (h : CPL m N) (hN : N ≤ 1000) (hi : i + 6 ≤ len) (hl : len ≤ 3072) (g : ∀ e' w' m', e' ≤ e + 1 → CPL m' (N + 1) → LX (len + 1, f) (D + 22) 378 (lsL i) [] e' w' m' B) : LX (len + 1, f) (D + 22) 340 (lsL i) [] e w m B :=
  cI2 (L := 340) (A := 342) (B5 := 345) (C := 343) (X := 341) (W := 376) (z := 316) (X2 := 344) rfl rfl rfl rfl kw376 (Nat.le_of_ble_eq_true rfl) km316 (Nat.le_of_ble_eq_true rfl) (fun _ q => q) (wr376 (p1 := f (i + 1)) (p2 := f (i + 2)) (D := D) h) hi hl (fun e' w' m' he hc => g e' w' m' he (CPL_le hc (Nat.le_succ N)))
set_option maxRecDepth 20000 in
theorem lc58 (h : CPL m N) (hN : N ≤ 1000) (hi : i + 6 ≤ len) (hl : len ≤ 3072) (g : ∀ e' w' m', e' ≤ e + 1 → CPL m' (N + 1) → LX (len + 1, f) (D + 22) 378 (lsL i) [] e' w' m' B) : LX (len + 1, f) (D + 22) 346 (lsL i) [] e w m B :=
  cI2 (L := 346) (A := 348) (B5 := 351) (C := 349) (X := 347) (W := 377) (z := 317) (X2 := 350) rfl rfl rfl rfl kw377 (Nat.le_of_ble_eq_true rfl) km317 (Nat.le_of_ble_eq_true rfl) (fun _ q => q) (wr377 (p1 := f (i + 1)) (p2 := f (i + 2)) (D := D) h) hi hl (fun e' w' m' he hc => g e' w' m' he (CPL_le hc (Nat.le_succ N)))
set_option maxRecDepth 20000 in
theorem lc59 (h : CPL m N) (hN : N ≤ 1000) (hi : i + 6 ≤ len) (hl : len ≤ 3072) (g : ∀ e' w' m', e' ≤ e + 1 → CPL m' (N + 1) → LX (len + 1, f) (D + 22) 378 (lsL i) [] e' w' m' B) : LX (len + 1, f) (D + 22) 352 (lsL i) [] e w m B :=
  cI2 (L := 352) (A := 354) (B5 := 357) (C := 355) (X := 353) (W := 378) (z := 318) (X2 := 356) rfl rfl rfl rfl kw378 (Nat.le_of_ble_eq_true rfl) km318 (Nat.le_of_ble_eq_true rfl) (fun _ q => q) (wr378 (p1 := f (i + 1)) (p2 := f (i + 2)) (D := D) h) hi hl (fun e' w' m' he hc => g e' w' m' he (CPL_le hc (Nat.le_succ N)))
set_option maxRecDepth 20000 in
theorem lc60 (h : CPL m N) (hN : N ≤ 1000) (hi : i + 6 ≤ len) (hl : len ≤ 3072) (g : ∀ e' w' m', e' ≤ e + 1 → CPL m' (N + 1) → LX (len + 1, f) (D + 22) 378 (lsL i) [] e' w' m' B) : LX (len + 1, f) (D + 22) 358 (lsL i) [] e w m B :=
  cI0 (L := 358) (A := 360) (B5 := 363) (C := 361) (X := 359) (W := 379) (z := 319) (X2 := 362) rfl rfl rfl rfl kw379 (Nat.le_of_ble_eq_true rfl) km319 (Nat.le_of_ble_eq_true rfl) (fun _ q => q) (wr379 (D := D) h) hi hl (fun e' w' m' he hc => g e' w' m' he (CPL_le hc (Nat.le_succ N)))
set_option maxRecDepth 20000 in
theorem lc61 (h : CPL m N) (hN : N ≤ 1000) (hi : i + 6 ≤ len) (hl : len ≤ 3072) (g : ∀ e' w' m', e' ≤ e + 1 → CPL m' (N + 1) → LX (len + 1, f) (D + 22) 378 (lsL i) [] e' w' m' B) : LX (len + 1, f) (D + 22) 364 (lsL i) [] e w m B :=
  cX0 (L := 364) (y := 152) (z := 320) (X := 365) rfl km152 (Nat.le_of_ble_eq_true rfl) (fun _ q => q) km320 (Nat.le_of_ble_eq_true rfl) (fun _ q => q) rfl (p_undoable (D := D + 8) h) hi hl (fun e' w' m' he hc => g e' w' m' he (CPL_le hc (Nat.le_succ N)))
set_option maxRecDepth 20000 in
theorem lc62 (h : CPL m N) (hN : N ≤ 1000) (hi : i + 6 ≤ len) (hl : len ≤ 3072) (g : ∀ e' w' m', e' ≤ e + 1 → CPL m' (N + 1) → LX (len + 1, f) (D + 22) 378 (lsL i) [] e' w' m' B) : LX (len + 1, f) (D + 22) 366 (lsL i) [] e w m B :=
  cI1 (L := 366) (A := 368) (B5 := 371) (C := 369) (X := 367) (W := 380) (z := 321) (X2 := 370) rfl rfl rfl rfl kw380 (Nat.le_of_ble_eq_true rfl) km321 (Nat.le_of_ble_eq_true rfl) (fun _ q => q) (wr380 (p1 := f (i + 1)) (D := D) h) hi hl (fun e' w' m' he hc => g e' w' m' he (CPL_le hc (Nat.le_succ N)))
set_option maxRecDepth 20000 in
theorem lc63 (h : CPL m N) (hN : N ≤ 1000) (hi : i + 6 ≤ len) (hl : len ≤ 3072) (g : ∀ e' w' m', e' ≤ e + 1 → CPL m' (N + 1) → LX (len + 1, f) (D + 22) 378 (lsL i) [] e' w' m' B) : LX (len + 1, f) (D + 22) 372 (lsL i) [] e w m B :=
  cI1 (L := 372) (A := 374) (B5 := 377) (C := 375) (X := 373) (W := 381) (z := 322) (X2 := 376) rfl rfl rfl rfl kw381 (Nat.le_of_ble_eq_true rfl) km322 (Nat.le_of_ble_eq_true rfl) (fun _ q => q) (wr381 (p1 := f (i + 1)) (D := D) h) hi hl (fun e' w' m' he hc => g e' w' m' he (CPL_le hc (Nat.le_succ N)))
theorem and63 (x : Int32) : ∃ k, k < 64 ∧ x &&& n32 63 = n32 k := by
  refine ⟨x.toUInt32.toNat % 64, Nat.mod_lt _ (by omega), ?_⟩
  apply Int32.toBitVec_inj.mp
  apply BitVec.eq_of_toNat_eq
  have e : (x &&& n32 63).toBitVec.toNat = x.toUInt32.toNat &&& 63 := rfl
  have e2 : (n32 (x.toUInt32.toNat % 64)).toBitVec.toNat = x.toUInt32.toNat % 64 % 2 ^ 32 := rfl
  have e3 : x.toUInt32.toNat &&& 63 = x.toUInt32.toNat % 64 := Nat.and_two_pow_sub_one_eq_mod _ 6
  rw [e, e2, e3]
  omega
theorem BX_tab {K : XK} {is : List Instr} {ls : XL} {r : List Value} {x : Int32} {d L : Int} {k : Nat} {offs : Array Int} (hk : k < 64) (hx : x = n32 k) (ho : offs[k]? = some L) (h : LX K D L.toNat ls r e w m B) : BX K D (.tableswitch d 0 63 offs :: is) ls (.int x :: r) e w m B := by
  obtain ⟨n, e', w', m', h1, h2⟩ := h
  refine ⟨n, e', w', m', ?_, h2⟩
  subst hx
  rw [xblk]
  try dsimp only
  rw [n32_toInt (by omega), if_pos ⟨by omega, by omega⟩, show ((k : Int) - 0).toNat = k by omega, ho]
  exact h1
def swT : Array Int := #[3, 5, 11, 13, 15, 17, 23, 29, 35, 41, 47, 53, 59, 65, 71, 77, 86, 94, 100, 106, 112, 118, 124, 130, 136, 142, 148, 154, 160, 166, 172, 178, 184, 190, 198, 204, 210, 216, 222, 228, 234, 240, 246, 254, 262, 268, 274, 280, 286, 292, 298, 304, 310, 316, 322, 328, 334, 340, 346, 352, 358, 364, 366, 372]
set_option maxRecDepth 20000 in
theorem b1 : xM382.2.2.2.2.2[1]? = some ([0, 1, 2, 3, 4, 5], [.iload 5, .aload 0, .arraylength, .iconst 6, .isub, .if_icmp .gt 379, .goto_w 2]) := rfl
set_option maxRecDepth 20000 in
theorem b2 : xM382.2.2.2.2.2[2]? = some ([0, 1, 2, 3, 4, 5], [.aload 0, .iload 5, .iaload, .iconst 63, .iand, .tableswitch 378 0 63 swT]) := rfl
set_option maxRecDepth 20000 in
theorem b379 : xM382.2.2.2.2.2[379]? = some ([], [.iconst 1, .ireturn]) := rfl
theorem lsw (k : Nat) (hk : k < 64) (h : CPL m N) (hN : N ≤ 1000) (hi : i + 6 ≤ len) (hl : len ≤ 3072) (g : ∀ e' w' m', e' ≤ e + 1 → CPL m' (N + 1) → LX (len + 1, f) (D + 22) 378 (lsL i) [] e' w' m' B) : ∃ L : Int, swT[k]? = some L ∧ LX (len + 1, f) (D + 22) L.toNat (lsL i) [] e w m B := by
  match k, hk with
  | 0, _ => exact ⟨3, rfl, lc0 h hN hi hl g⟩
  | 1, _ => exact ⟨5, rfl, lc1 h hN hi hl g⟩
  | 2, _ => exact ⟨11, rfl, lc2 h hN hi hl g⟩
  | 3, _ => exact ⟨13, rfl, lc3 h hN hi hl g⟩
  | 4, _ => exact ⟨15, rfl, lc4 h hN hi hl g⟩
  | 5, _ => exact ⟨17, rfl, lc5 h hN hi hl g⟩
  | 6, _ => exact ⟨23, rfl, lc6 h hN hi hl g⟩
  | 7, _ => exact ⟨29, rfl, lc7 h hN hi hl g⟩
  | 8, _ => exact ⟨35, rfl, lc8 h hN hi hl g⟩
  | 9, _ => exact ⟨41, rfl, lc9 h hN hi hl g⟩
  | 10, _ => exact ⟨47, rfl, lc10 h hN hi hl g⟩
  | 11, _ => exact ⟨53, rfl, lc11 h hN hi hl g⟩
  | 12, _ => exact ⟨59, rfl, lc12 h hN hi hl g⟩
  | 13, _ => exact ⟨65, rfl, lc13 h hN hi hl g⟩
  | 14, _ => exact ⟨71, rfl, lc14 h hN hi hl g⟩
  | 15, _ => exact ⟨77, rfl, lc15 h hN hi hl g⟩
  | 16, _ => exact ⟨86, rfl, lc16 h hN hi hl g⟩
  | 17, _ => exact ⟨94, rfl, lc17 h hN hi hl g⟩
  | 18, _ => exact ⟨100, rfl, lc18 h hN hi hl g⟩
  | 19, _ => exact ⟨106, rfl, lc19 h hN hi hl g⟩
  | 20, _ => exact ⟨112, rfl, lc20 h hN hi hl g⟩
  | 21, _ => exact ⟨118, rfl, lc21 h hN hi hl g⟩
  | 22, _ => exact ⟨124, rfl, lc22 h hN hi hl g⟩
  | 23, _ => exact ⟨130, rfl, lc23 h hN hi hl g⟩
  | 24, _ => exact ⟨136, rfl, lc24 h hN hi hl g⟩
  | 25, _ => exact ⟨142, rfl, lc25 h hN hi hl g⟩
  | 26, _ => exact ⟨148, rfl, lc26 h hN hi hl g⟩
  | 27, _ => exact ⟨154, rfl, lc27 h hN hi hl g⟩
  | 28, _ => exact ⟨160, rfl, lc28 h hN hi hl g⟩
  | 29, _ => exact ⟨166, rfl, lc29 h hN hi hl g⟩
  | 30, _ => exact ⟨172, rfl, lc30 h hN hi hl g⟩
  | 31, _ => exact ⟨178, rfl, lc31 h hN hi hl g⟩
  | 32, _ => exact ⟨184, rfl, lc32 h hN hi hl g⟩
  | 33, _ => exact ⟨190, rfl, lc33 h hN hi hl g⟩
  | 34, _ => exact ⟨198, rfl, lc34 h hN hi hl g⟩
  | 35, _ => exact ⟨204, rfl, lc35 h hN hi hl g⟩
  | 36, _ => exact ⟨210, rfl, lc36 h hN hi hl g⟩
  | 37, _ => exact ⟨216, rfl, lc37 h hN hi hl g⟩
  | 38, _ => exact ⟨222, rfl, lc38 h hN hi hl g⟩
  | 39, _ => exact ⟨228, rfl, lc39 h hN hi hl g⟩
  | 40, _ => exact ⟨234, rfl, lc40 h hN hi hl g⟩
  | 41, _ => exact ⟨240, rfl, lc41 h hN hi hl g⟩
  | 42, _ => exact ⟨246, rfl, lc42 h hN hi hl g⟩
  | 43, _ => exact ⟨254, rfl, lc43 h hN hi hl g⟩
  | 44, _ => exact ⟨262, rfl, lc44 h hN hi hl g⟩
  | 45, _ => exact ⟨268, rfl, lc45 h hN hi hl g⟩
  | 46, _ => exact ⟨274, rfl, lc46 h hN hi hl g⟩
  | 47, _ => exact ⟨280, rfl, lc47 h hN hi hl g⟩
  | 48, _ => exact ⟨286, rfl, lc48 h hN hi hl g⟩
  | 49, _ => exact ⟨292, rfl, lc49 h hN hi hl g⟩
  | 50, _ => exact ⟨298, rfl, lc50 h hN hi hl g⟩
  | 51, _ => exact ⟨304, rfl, lc51 h hN hi hl g⟩
  | 52, _ => exact ⟨310, rfl, lc52 h hN hi hl g⟩
  | 53, _ => exact ⟨316, rfl, lc53 h hN hi hl g⟩
  | 54, _ => exact ⟨322, rfl, lc54 h hN hi hl g⟩
  | 55, _ => exact ⟨328, rfl, lc55 h hN hi hl g⟩
  | 56, _ => exact ⟨334, rfl, lc56 h hN hi hl g⟩
  | 57, _ => exact ⟨340, rfl, lc57 h hN hi hl g⟩
  | 58, _ => exact ⟨346, rfl, lc58 h hN hi hl g⟩
  | 59, _ => exact ⟨352, rfl, lc59 h hN hi hl g⟩
  | 60, _ => exact ⟨358, rfl, lc60 h hN hi hl g⟩
  | 61, _ => exact ⟨364, rfl, lc61 h hN hi hl g⟩
  | 62, _ => exact ⟨366, rfl, lc62 h hN hi hl g⟩
  | 63, _ => exact ⟨372, rfl, lc63 h hN hi hl g⟩
  | k + 64, hk => exact absurd hk (by omega)
theorem lexit {ls : XL} (hB : e ≤ B) : LX (len + 1, f) D 379 ls [] e w m B := by
  refine LX_at b379 ⟨0, e, w, m, rfl, hB⟩
theorem lcmp {len i : Nat} (h1 : len ≤ 3072) (h2 : i ≤ 4000) : n32 len - n32 6 < n32 i ↔ len < i + 6 := by
  rw [Int32.lt_iff_toInt_lt, Int32.toInt_sub, n32_toInt (by omega), n32_toInt (by omega), n32_toInt (by omega)]
  have e : ((len : Int) - (6 : Nat)).bmod (2 ^ 32) = (len : Int) - (6 : Nat) := by apply Int.bmod_eq_of_le <;> omega
  rw [e]
  omega
theorem xarl : xseq (len + 1, f) [.iload 5, .aload 0, .arraylength, .iconst 6, .isub] (lsL i) [] (S0, e, w, m) = some (lsL i, [.int (n32 len - n32 6), .int (n32 i)], (S0, e, w, m)) := by
  have h0 : xk (lsL i) 0 = some (.ref 1000000) := rfl
  have h5 : xk (lsL i) 5 = some (.int (n32 i)) := rfl
  simp only [xseq, xnc, xone, h0, h5]
  rw [s0_far]
  rw [show xci (len + 1, f) 1000000 = some (len, f) from rfl]
  rfl
theorem xard (hi : i < len) (hl : len ≤ 3072) : xseq (len + 1, f) [.aload 0, .iload 5, .iaload, .iconst 63, .iand] (lsL i) [] (S0, e, w, m) = some (lsL i, [.int (f i &&& n32 63)], (S0, e, w, m)) := by
  have h0 : xk (lsL i) 0 = some (.ref 1000000) := rfl
  have h5 : xk (lsL i) 5 = some (.int (n32 i)) := rfl
  simp only [xseq, xnc, xone, h0, h5]
  rw [s0_far]
  rw [show xci (len + 1, f) 1000000 = some (len, f) from rfl]
  dsimp only
  rw [if_pos (xin_n hi (by omega))]
  dsimp only
  rw [show (n32 i).toNatClampNeg = i from ix_n32 (by omega)]
  rfl
theorem lloop (hl : len ≤ 3072) : ∀ (r i e : Nat) (w : Nat → Value) (m : XM) (N : Nat), CPL m N → N + r ≤ 1000 → len < i + 6 + 6 * r → i ≤ 3078 → e + r ≤ B → LX (len + 1, f) (D + 22) 1 (lsL i) [] e w m B := by
  intro r
  induction r with
  | zero =>
    intro i e w m N h hN hr hi hB
    refine LX_at b1 ?_
    show BX _ _ _ (lsL i) [] e w m B
    refine BX_l [.iload 5, .aload 0, .arraylength, .iconst 6, .isub] xarl ?_
    exact BX_igt (fun _ => lexit (by omega)) (fun c => absurd ((lcmp hl (by omega)).mpr (by omega)) c)
  | succ r ih =>
    intro i e w m N h hN hr hi hB
    refine LX_at b1 ?_
    show BX _ _ _ (lsL i) [] e w m B
    refine BX_l [.iload 5, .aload 0, .arraylength, .iconst 6, .isub] xarl ?_
    refine BX_igt (fun _ => lexit (by omega)) (fun c => BX_gow ?_)
    have hi6 : i + 6 ≤ len := by
      by_cases c' : i + 6 ≤ len
      · exact c'
      · exact absurd ((lcmp hl (by omega)).mpr (by omega)) c
    refine LX_at b2 ?_
    show BX _ _ _ (lsL i) [] e w m B
    refine BX_l [.aload 0, .iload 5, .iaload, .iconst 63, .iand] (xard (by omega) hl) ?_
    obtain ⟨k, hk, hx⟩ := and63 (f i)
    obtain ⟨L, hL, hgo⟩ := lsw (len := len) (f := f) (D := D) (e := e) (i := i) (w := w) (m := m) (B := B) (N := N) k hk h (by omega) hi6 hl (fun e' w' m' he hc => by
      refine LX_at b378 ?_
      show BX _ _ _ (lsL i) [] e' w' m' B
      refine BX_1 (ls' := (5, .int (n32 i + n32 6)) :: [(0, .ref 1000000), (1, .ref 0), (2, .ref 283), (3, .ref 293), (4, .ref 294)]) (st' := []) rfl ?_
      rw [n32_add]
      refine BX_go ?_
      have hn : xnorm [0, 1, 2, 3, 4, 5] ((5, .int (n32 (i + 6))) :: [(0, .ref 1000000), (1, .ref 0), (2, .ref 283), (3, .ref 293), (4, .ref 294)]) = xnorm [0, 1, 2, 3, 4, 5] (lsL (i + 6)) := rfl
      have := ih (i + 6) e' w' m' (N + 1) hc (by omega) (by omega) (by omega) (by omega)
      obtain ⟨n, e2, w2, m2, q1, q2⟩ := this
      refine ⟨n, e2, w2, m2, ?_, q2⟩
      rw [← q1]
      cases n with
      | zero => rfl
      | succ n =>
        show xrun _ _ _ _ 1 _ _ _ = _
        unfold xrun
        rw [xm382]
        dsimp only
        rw [b1]
        dsimp only
        rw [hn])
    exact BX_tab hk hx hL hgo
end LAWG
