/-! Methods 300 to 397, checked. -/
theorem yk300 : xyok 300 = true := by decide +kernel
theorem yw300 : xyw 300 = true := by decide +kernel
theorem yk301 : xyok 301 = true := by decide +kernel
theorem yw301 : xyw 301 = true := by decide +kernel
theorem yk302 : xyok 302 = true := by decide +kernel
theorem yw302 : xyw 302 = true := by decide +kernel
theorem yk303 : xyok 303 = true := by decide +kernel
theorem yw303 : xyw 303 = true := by decide +kernel
theorem yk304 : xyok 304 = true := by decide +kernel
theorem yw304 : xyw 304 = true := by decide +kernel
theorem yk305 : xyok 305 = true := by decide +kernel
theorem yw305 : xyw 305 = true := by decide +kernel
theorem yk306 : xyok 306 = true := by decide +kernel
theorem yw306 : xyw 306 = true := by decide +kernel
theorem yk307 : xyok 307 = true := by decide +kernel
theorem yw307 : xyw 307 = true := by decide +kernel
theorem yk308 : xyok 308 = true := by decide +kernel
theorem yw308 : xyw 308 = true := by decide +kernel
theorem yk309 : xyok 309 = true := by decide +kernel
theorem yw309 : xyw 309 = true := by decide +kernel
theorem yk310 : xyok 310 = true := by decide +kernel
theorem yw310 : xyw 310 = true := by decide +kernel
theorem yk311 : xyok 311 = true := by decide +kernel
theorem yw311 : xyw 311 = true := by decide +kernel
theorem yk312 : xyok 312 = true := by decide +kernel
theorem yw312 : xyw 312 = true := by decide +kernel
theorem yk313 : xyok 313 = true := by decide +kernel
theorem yw313 : xyw 313 = true := by decide +kernel
theorem yk314 : xyok 314 = true := by decide +kernel
theorem yw314 : xyw 314 = true := by decide +kernel
theorem yk315 : xyok 315 = true := by decide +kernel
theorem yw315 : xyw 315 = true := by decide +kernel
theorem yk316 : xyok 316 = true := by decide +kernel
theorem yw316 : xyw 316 = true := by decide +kernel
theorem yk317 : xyok 317 = true := by decide +kernel
theorem yw317 : xyw 317 = true := by decide +kernel
theorem yk318 : xyok 318 = true := by decide +kernel
theorem yw318 : xyw 318 = true := by decide +kernel
theorem yk319 : xyok 319 = true := by decide +kernel
theorem yw319 : xyw 319 = true := by decide +kernel
theorem yk320 : xyok 320 = true := by decide +kernel
theorem yw320 : xyw 320 = true := by decide +kernel
theorem yk321 : xyok 321 = true := by decide +kernel
theorem yw321 : xyw 321 = true := by decide +kernel
theorem yk322 : xyok 322 = true := by decide +kernel
theorem yw322 : xyw 322 = true := by decide +kernel
theorem yk323 : xyok 323 = true := by decide +kernel
theorem yw323 : xyw 323 = true := by decide +kernel
theorem yk324 : xyok 324 = true := by decide +kernel
theorem yw324 : xyw 324 = true := by decide +kernel
theorem yk325 : xyok 325 = true := by decide +kernel
theorem yw325 : xyw 325 = true := by decide +kernel
theorem yk326 : xyok 326 = true := by decide +kernel
theorem yw326 : xyw 326 = true := by decide +kernel
theorem yk327 : xyok 327 = true := by decide +kernel
theorem yw327 : xyw 327 = true := by decide +kernel
theorem yk328 : xyok 328 = true := by decide +kernel
theorem yw328 : xyw 328 = true := by decide +kernel
theorem yk329 : xyok 329 = true := by decide +kernel
theorem yw329 : xyw 329 = true := by decide +kernel
theorem yk330 : xyok 330 = true := by decide +kernel
theorem yw330 : xyw 330 = true := by decide +kernel
theorem yk331 : xyok 331 = true := by decide +kernel
theorem yw331 : xyw 331 = true := by decide +kernel
theorem yk332 : xyok 332 = true := by decide +kernel
theorem yw332 : xyw 332 = true := by decide +kernel
theorem yk333 : xyok 333 = true := by decide +kernel
theorem yw333 : xyw 333 = true := by decide +kernel
theorem yk334 : xyok 334 = true := by decide +kernel
theorem yw334 : xyw 334 = true := by decide +kernel
theorem yk335 : xyok 335 = true := by decide +kernel
theorem yw335 : xyw 335 = true := by decide +kernel
theorem yk336 : xyok 336 = true := by decide +kernel
theorem yw336 : xyw 336 = true := by decide +kernel
theorem yk337 : xyok 337 = true := by decide +kernel
theorem yw337 : xyw 337 = true := by decide +kernel
theorem yk338 : xyok 338 = true := by decide +kernel
theorem yw338 : xyw 338 = true := by decide +kernel
theorem yk339 : xyok 339 = true := by decide +kernel
theorem yw339 : xyw 339 = true := by decide +kernel
theorem yk340 : xyok 340 = true := by decide +kernel
theorem yw340 : xyw 340 = true := by decide +kernel
theorem yk341 : xyok 341 = true := by decide +kernel
theorem yw341 : xyw 341 = true := by decide +kernel
theorem yk342 : xyok 342 = true := by decide +kernel
theorem yw342 : xyw 342 = true := by decide +kernel
theorem yk343 : xyok 343 = true := by decide +kernel
theorem yw343 : xyw 343 = true := by decide +kernel
theorem yk344 : xyok 344 = true := by decide +kernel
theorem yw344 : xyw 344 = true := by decide +kernel
theorem yk345 : xyok 345 = true := by decide +kernel
theorem yw345 : xyw 345 = true := by decide +kernel
theorem yk346 : xyok 346 = true := by decide +kernel
theorem yw346 : xyw 346 = true := by decide +kernel
theorem yk347 : xyok 347 = true := by decide +kernel
theorem yw347 : xyw 347 = true := by decide +kernel
theorem yk348 : xyok 348 = true := by decide +kernel
theorem yw348 : xyw 348 = true := by decide +kernel
theorem yk349 : xyok 349 = true := by decide +kernel
theorem yw349 : xyw 349 = true := by decide +kernel
theorem yk350 : xyok 350 = true := by decide +kernel
theorem yw350 : xyw 350 = true := by decide +kernel
theorem yk351 : xyok 351 = true := by decide +kernel
theorem yw351 : xyw 351 = true := by decide +kernel
theorem yk352 : xyok 352 = true := by decide +kernel
theorem yw352 : xyw 352 = true := by decide +kernel
theorem yk353 : xyok 353 = true := by decide +kernel
theorem yw353 : xyw 353 = true := by decide +kernel
theorem yk354 : xyok 354 = true := by decide +kernel
theorem yw354 : xyw 354 = true := by decide +kernel
theorem yk355 : xyok 355 = true := by decide +kernel
theorem yw355 : xyw 355 = true := by decide +kernel
theorem yk356 : xyok 356 = true := by decide +kernel
theorem yw356 : xyw 356 = true := by decide +kernel
theorem yk357 : xyok 357 = true := by decide +kernel
theorem yw357 : xyw 357 = true := by decide +kernel
theorem yk358 : xyok 358 = true := by decide +kernel
theorem yw358 : xyw 358 = true := by decide +kernel
theorem yk359 : xyok 359 = true := by decide +kernel
theorem yw359 : xyw 359 = true := by decide +kernel
theorem yk360 : xyok 360 = true := by decide +kernel
theorem yw360 : xyw 360 = true := by decide +kernel
theorem yk361 : xyok 361 = true := by decide +kernel
theorem yw361 : xyw 361 = true := by decide +kernel
theorem yk362 : xyok 362 = true := by decide +kernel
theorem yw362 : xyw 362 = true := by decide +kernel
theorem yk363 : xyok 363 = true := by decide +kernel
theorem yw363 : xyw 363 = true := by decide +kernel
theorem yk364 : xyok 364 = true := by decide +kernel
theorem yw364 : xyw 364 = true := by decide +kernel
theorem yk365 : xyok 365 = true := by decide +kernel
theorem yw365 : xyw 365 = true := by decide +kernel
theorem yk366 : xyok 366 = true := by decide +kernel
theorem yw366 : xyw 366 = true := by decide +kernel
theorem yk367 : xyok 367 = true := by decide +kernel
theorem yw367 : xyw 367 = true := by decide +kernel
theorem yk368 : xyok 368 = true := by decide +kernel
theorem yw368 : xyw 368 = true := by decide +kernel
theorem yk369 : xyok 369 = true := by decide +kernel
theorem yw369 : xyw 369 = true := by decide +kernel
theorem yk370 : xyok 370 = true := by decide +kernel
theorem yw370 : xyw 370 = true := by decide +kernel
theorem yk371 : xyok 371 = true := by decide +kernel
theorem yw371 : xyw 371 = true := by decide +kernel
theorem yk372 : xyok 372 = true := by decide +kernel
theorem yw372 : xyw 372 = true := by decide +kernel
theorem yk373 : xyok 373 = true := by decide +kernel
theorem yw373 : xyw 373 = true := by decide +kernel
theorem yk374 : xyok 374 = true := by decide +kernel
theorem yw374 : xyw 374 = true := by decide +kernel
theorem yk375 : xyok 375 = true := by decide +kernel
theorem yw375 : xyw 375 = true := by decide +kernel
theorem yk376 : xyok 376 = true := by decide +kernel
theorem yw376 : xyw 376 = true := by decide +kernel
theorem yk377 : xyok 377 = true := by decide +kernel
theorem yw377 : xyw 377 = true := by decide +kernel
theorem yk378 : xyok 378 = true := by decide +kernel
theorem yw378 : xyw 378 = true := by decide +kernel
theorem yk379 : xyok 379 = true := by decide +kernel
theorem yw379 : xyw 379 = true := by decide +kernel
theorem yk380 : xyok 380 = true := by decide +kernel
theorem yw380 : xyw 380 = true := by decide +kernel
theorem yk381 : xyok 381 = true := by decide +kernel
theorem yw381 : xyw 381 = true := by decide +kernel
theorem yk383 : xyok 383 = true := by decide +kernel
theorem yw383 : xyw 383 = true := by decide +kernel
theorem yk384 : xyok 384 = true := by decide +kernel
theorem yw384 : xyw 384 = true := by decide +kernel
theorem yk385 : xyok 385 = true := by decide +kernel
theorem yw385 : xyw 385 = true := by decide +kernel
theorem yk386 : xyok 386 = true := by decide +kernel
theorem yw386 : xyw 386 = true := by decide +kernel
theorem yk387 : xyok 387 = true := by decide +kernel
theorem yw387 : xyw 387 = true := by decide +kernel
theorem yk388 : xyok 388 = true := by decide +kernel
theorem yw388 : xyw 388 = true := by decide +kernel
theorem yk389 : xyok 389 = true := by decide +kernel
theorem yw389 : xyw 389 = true := by decide +kernel
theorem yk390 : xyok 390 = true := by decide +kernel
theorem yw390 : xyw 390 = true := by decide +kernel
theorem yk391 : xyok 391 = true := by decide +kernel
theorem yw391 : xyw 391 = true := by decide +kernel
theorem yk392 : xyok 392 = true := by decide +kernel
theorem yw392 : xyw 392 = true := by decide +kernel
theorem yk393 : xyok 393 = true := by decide +kernel
theorem yw393 : xyw 393 = true := by decide +kernel
theorem yk394 : xyok 394 = true := by decide +kernel
theorem yw394 : xyw 394 = true := by decide +kernel
theorem yk395 : xyok 395 = true := by decide +kernel
theorem yw395 : xyw 395 = true := by decide +kernel
theorem yk396 : xyok 396 = true := by decide +kernel
theorem yw396 : xyw 396 = true := by decide +kernel
theorem yk397 : xyok 397 = true := by decide +kernel
theorem yw397 : xyw 397 = true := by decide +kernel
theorem yblk15 : ∀ r : Nat, r < 20 → 300 + r ≠ 382 → xyok (300 + r) = true ∧ xyw (300 + r) = true := by
  intro r h h2
  match r, h with
  | 0, _ => exact ⟨yk300, yw300⟩
  | 1, _ => exact ⟨yk301, yw301⟩
  | 2, _ => exact ⟨yk302, yw302⟩
  | 3, _ => exact ⟨yk303, yw303⟩
  | 4, _ => exact ⟨yk304, yw304⟩
  | 5, _ => exact ⟨yk305, yw305⟩
  | 6, _ => exact ⟨yk306, yw306⟩
  | 7, _ => exact ⟨yk307, yw307⟩
  | 8, _ => exact ⟨yk308, yw308⟩
  | 9, _ => exact ⟨yk309, yw309⟩
  | 10, _ => exact ⟨yk310, yw310⟩
  | 11, _ => exact ⟨yk311, yw311⟩
  | 12, _ => exact ⟨yk312, yw312⟩
  | 13, _ => exact ⟨yk313, yw313⟩
  | 14, _ => exact ⟨yk314, yw314⟩
  | 15, _ => exact ⟨yk315, yw315⟩
  | 16, _ => exact ⟨yk316, yw316⟩
  | 17, _ => exact ⟨yk317, yw317⟩
  | 18, _ => exact ⟨yk318, yw318⟩
  | 19, _ => exact ⟨yk319, yw319⟩
  | r + 20, h => exact absurd h (by omega)
theorem yblk16 : ∀ r : Nat, r < 20 → 320 + r ≠ 382 → xyok (320 + r) = true ∧ xyw (320 + r) = true := by
  intro r h h2
  match r, h with
  | 0, _ => exact ⟨yk320, yw320⟩
  | 1, _ => exact ⟨yk321, yw321⟩
  | 2, _ => exact ⟨yk322, yw322⟩
  | 3, _ => exact ⟨yk323, yw323⟩
  | 4, _ => exact ⟨yk324, yw324⟩
  | 5, _ => exact ⟨yk325, yw325⟩
  | 6, _ => exact ⟨yk326, yw326⟩
  | 7, _ => exact ⟨yk327, yw327⟩
  | 8, _ => exact ⟨yk328, yw328⟩
  | 9, _ => exact ⟨yk329, yw329⟩
  | 10, _ => exact ⟨yk330, yw330⟩
  | 11, _ => exact ⟨yk331, yw331⟩
  | 12, _ => exact ⟨yk332, yw332⟩
  | 13, _ => exact ⟨yk333, yw333⟩
  | 14, _ => exact ⟨yk334, yw334⟩
  | 15, _ => exact ⟨yk335, yw335⟩
  | 16, _ => exact ⟨yk336, yw336⟩
  | 17, _ => exact ⟨yk337, yw337⟩
  | 18, _ => exact ⟨yk338, yw338⟩
  | 19, _ => exact ⟨yk339, yw339⟩
  | r + 20, h => exact absurd h (by omega)
theorem yblk17 : ∀ r : Nat, r < 20 → 340 + r ≠ 382 → xyok (340 + r) = true ∧ xyw (340 + r) = true := by
  intro r h h2
  match r, h with
  | 0, _ => exact ⟨yk340, yw340⟩
  | 1, _ => exact ⟨yk341, yw341⟩
  | 2, _ => exact ⟨yk342, yw342⟩
  | 3, _ => exact ⟨yk343, yw343⟩
  | 4, _ => exact ⟨yk344, yw344⟩
  | 5, _ => exact ⟨yk345, yw345⟩
  | 6, _ => exact ⟨yk346, yw346⟩
  | 7, _ => exact ⟨yk347, yw347⟩
  | 8, _ => exact ⟨yk348, yw348⟩
  | 9, _ => exact ⟨yk349, yw349⟩
  | 10, _ => exact ⟨yk350, yw350⟩
  | 11, _ => exact ⟨yk351, yw351⟩
  | 12, _ => exact ⟨yk352, yw352⟩
  | 13, _ => exact ⟨yk353, yw353⟩
  | 14, _ => exact ⟨yk354, yw354⟩
  | 15, _ => exact ⟨yk355, yw355⟩
  | 16, _ => exact ⟨yk356, yw356⟩
  | 17, _ => exact ⟨yk357, yw357⟩
  | 18, _ => exact ⟨yk358, yw358⟩
  | 19, _ => exact ⟨yk359, yw359⟩
  | r + 20, h => exact absurd h (by omega)
theorem yblk18 : ∀ r : Nat, r < 20 → 360 + r ≠ 382 → xyok (360 + r) = true ∧ xyw (360 + r) = true := by
  intro r h h2
  match r, h with
  | 0, _ => exact ⟨yk360, yw360⟩
  | 1, _ => exact ⟨yk361, yw361⟩
  | 2, _ => exact ⟨yk362, yw362⟩
  | 3, _ => exact ⟨yk363, yw363⟩
  | 4, _ => exact ⟨yk364, yw364⟩
  | 5, _ => exact ⟨yk365, yw365⟩
  | 6, _ => exact ⟨yk366, yw366⟩
  | 7, _ => exact ⟨yk367, yw367⟩
  | 8, _ => exact ⟨yk368, yw368⟩
  | 9, _ => exact ⟨yk369, yw369⟩
  | 10, _ => exact ⟨yk370, yw370⟩
  | 11, _ => exact ⟨yk371, yw371⟩
  | 12, _ => exact ⟨yk372, yw372⟩
  | 13, _ => exact ⟨yk373, yw373⟩
  | 14, _ => exact ⟨yk374, yw374⟩
  | 15, _ => exact ⟨yk375, yw375⟩
  | 16, _ => exact ⟨yk376, yw376⟩
  | 17, _ => exact ⟨yk377, yw377⟩
  | 18, _ => exact ⟨yk378, yw378⟩
  | 19, _ => exact ⟨yk379, yw379⟩
  | r + 20, h => exact absurd h (by omega)
theorem yblk19 : ∀ r : Nat, r < 18 → 380 + r ≠ 382 → xyok (380 + r) = true ∧ xyw (380 + r) = true := by
  intro r h h2
  match r, h with
  | 0, _ => exact ⟨yk380, yw380⟩
  | 1, _ => exact ⟨yk381, yw381⟩
  | 2, _ => exact absurd rfl h2
  | 3, _ => exact ⟨yk383, yw383⟩
  | 4, _ => exact ⟨yk384, yw384⟩
  | 5, _ => exact ⟨yk385, yw385⟩
  | 6, _ => exact ⟨yk386, yw386⟩
  | 7, _ => exact ⟨yk387, yw387⟩
  | 8, _ => exact ⟨yk388, yw388⟩
  | 9, _ => exact ⟨yk389, yw389⟩
  | 10, _ => exact ⟨yk390, yw390⟩
  | 11, _ => exact ⟨yk391, yw391⟩
  | 12, _ => exact ⟨yk392, yw392⟩
  | 13, _ => exact ⟨yk393, yw393⟩
  | 14, _ => exact ⟨yk394, yw394⟩
  | 15, _ => exact ⟨yk395, yw395⟩
  | 16, _ => exact ⟨yk396, yw396⟩
  | 17, _ => exact ⟨yk397, yw397⟩
  | r + 18, h => exact absurd h (by omega)
