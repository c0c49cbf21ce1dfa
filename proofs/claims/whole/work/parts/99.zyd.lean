theorem zc57 : ((zL.drop 318).take 4).all zf = true := by decide +kernel
theorem zc58 : ((zL.drop 322).take 2).all zf = true := by decide +kernel
theorem zc59 : ((zL.drop 324).take 4).all zf = true := by decide +kernel
theorem zc60 : ((zL.drop 328).take 1).all zf = true := by decide +kernel
theorem zc61 : ((zL.drop 329).take 5).all zf = true := by decide +kernel
theorem zc62 : ((zL.drop 334).take 2).all zf = true := by decide +kernel
theorem zc63 : ((zL.drop 336).take 4).all zf = true := by decide +kernel
theorem zc64 : ((zL.drop 340).take 1).all zf = true := by decide +kernel
theorem zc65 : ((zL.drop 341).take 5).all zf = true := by decide +kernel
theorem zc66 : ((zL.drop 346).take 1).all zf = true := by decide +kernel
theorem zc67 : ((zL.drop 347).take 5).all zf = true := by decide +kernel
theorem zc68 : ((zL.drop 352).take 1).all zf = true := by decide +kernel
theorem zc69 : ((zL.drop 353).take 5).all zf = true := by decide +kernel
theorem zc70 : ((zL.drop 358).take 3).all zf = true := by decide +kernel
theorem zc71 : ((zL.drop 361).take 5).all zf = true := by decide +kernel
theorem zc72 : ((zL.drop 366).take 1).all zf = true := by decide +kernel
theorem zc73 : ((zL.drop 367).take 5).all zf = true := by decide +kernel
theorem zc74 : ((zL.drop 372).take 1).all zf = true := by decide +kernel
theorem zc75 : ((zL.drop 373).take 7).all zf = true := by decide +kernel
theorem zend : (zL.drop 380).all zf = true := by decide +kernel
theorem z_all : zL.all zf = true := by
  have h := zall 0 3 3 rfl zc0 (zall 3 15 18 rfl zc1 (zall 18 17 35 rfl zc2 (zall 35 12 47 rfl zc3 (zall 47 9 56 rfl zc4 (zall 56 9 65 rfl zc5 (zall 65 9 74 rfl zc6 (zall 74 12 86 rfl zc7 (zall 86 8 94 rfl zc8 (zall 94 6 100 rfl zc9 (zall 100 6 106 rfl zc10 (zall 106 6 112 rfl zc11 (zall 112 6 118 rfl zc12 (zall 118 6 124 rfl zc13 (zall 124 6 130 rfl zc14 (zall 130 6 136 rfl zc15 (zall 136 6 142 rfl zc16 (zall 142 8 150 rfl zc17 (zall 150 5 155 rfl zc18 (zall 155 10 165 rfl zc19 (zall 165 7 172 rfl zc20 (zall 172 6 178 rfl zc21 (zall 178 6 184 rfl zc22 (zall 184 6 190 rfl zc23 (zall 190 5 195 rfl zc24 (zall 195 9 204 rfl zc25 (zall 204 6 210 rfl zc26 (zall 210 5 215 rfl zc27 (zall 215 3 218 rfl zc28 (zall 218 4 222 rfl zc29 (zall 222 2 224 rfl zc30 (zall 224 4 228 rfl zc31 (zall 228 2 230 rfl zc32 (zall 230 4 234 rfl zc33 (zall 234 3 237 rfl zc34 (zall 237 6 243 rfl zc35 (zall 243 3 246 rfl zc36 (zall 246 1 247 rfl zc37 (zall 247 7 254 rfl zc38 (zall 254 1 255 rfl zc39 (zall 255 7 262 rfl zc40 (zall 262 3 265 rfl zc41 (zall 265 3 268 rfl zc42 (zall 268 3 271 rfl zc43 (zall 271 6 277 rfl zc44 (zall 277 3 280 rfl zc45 (zall 280 3 283 rfl zc46 (zall 283 5 288 rfl zc47 (zall 288 5 293 rfl zc48 (zall 293 5 298 rfl zc49 (zall 298 3 301 rfl zc50 (zall 301 3 304 rfl zc51 (zall 304 2 306 rfl zc52 (zall 306 4 310 rfl zc53 (zall 310 2 312 rfl zc54 (zall 312 4 316 rfl zc55 (zall 316 2 318 rfl zc56 (zall 318 4 322 rfl zc57 (zall 322 2 324 rfl zc58 (zall 324 4 328 rfl zc59 (zall 328 1 329 rfl zc60 (zall 329 5 334 rfl zc61 (zall 334 2 336 rfl zc62 (zall 336 4 340 rfl zc63 (zall 340 1 341 rfl zc64 (zall 341 5 346 rfl zc65 (zall 346 1 347 rfl zc66 (zall 347 5 352 rfl zc67 (zall 352 1 353 rfl zc68 (zall 353 5 358 rfl zc69 (zall 358 3 361 rfl zc70 (zall 361 5 366 rfl zc71 (zall 366 1 367 rfl zc72 (zall 367 5 372 rfl zc73 (zall 372 1 373 rfl zc74 (zall 373 7 380 rfl zc75 zend)))))))))))))))))))))))))))))))))))))))))))))))))))))))))))))))))))))))))))
  rw [List.drop_zero] at h
  exact h
set_option maxRecDepth 100000 in
theorem zrl382 : xrl 382 = (12, x, code, 9, some .boolean, [], zpcs) := rfl
theorem zst382 : xstat 382 = true := by
  unfold xstat xinit
  rw [xm382, show (xnm 382).name = x.name from by rw [show xnm 382 = x from congrArg (fun q => q.2.1) zrl382]]
  decide +kernel
theorem xyok382 : xyok 382 = true := by
  have hn : (x.name == "<init>") = false := by decide +kernel
  unfold xyok
  rw [xm382, zrl382]
  dsimp only
  rw [hn, zst382]
  simp only [Bool.and_eq_true]
  refine ⟨⟨⟨⟨⟨⟨⟨⟨⟨?_, ?_⟩, ?_⟩, ?_⟩, ?_⟩, ?_⟩, ?_⟩, ?_⟩, ?_⟩, ?_⟩
  · rfl
  · rfl
  · rfl
  · decide +kernel
  · decide +kernel
  · exact z_all
  · rfl
  · rfl
  · rfl
  · decide +kernel
