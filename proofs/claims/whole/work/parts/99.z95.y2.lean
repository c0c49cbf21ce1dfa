/-! Methods 200 to 299, checked. -/
theorem yk200 : xyok 200 = true := by decide +kernel
theorem yw200 : xyw 200 = true := by decide +kernel
theorem yk201 : xyok 201 = true := by decide +kernel
theorem yw201 : xyw 201 = true := by decide +kernel
theorem yk202 : xyok 202 = true := by decide +kernel
theorem yw202 : xyw 202 = true := by decide +kernel
theorem yk203 : xyok 203 = true := by decide +kernel
theorem yw203 : xyw 203 = true := by decide +kernel
theorem yk204 : xyok 204 = true := by decide +kernel
theorem yw204 : xyw 204 = true := by decide +kernel
theorem yk205 : xyok 205 = true := by decide +kernel
theorem yw205 : xyw 205 = true := by decide +kernel
theorem yk206 : xyok 206 = true := by decide +kernel
theorem yw206 : xyw 206 = true := by decide +kernel
theorem yk207 : xyok 207 = true := by decide +kernel
theorem yw207 : xyw 207 = true := by decide +kernel
theorem yk208 : xyok 208 = true := by decide +kernel
theorem yw208 : xyw 208 = true := by decide +kernel
theorem yk209 : xyok 209 = true := by decide +kernel
theorem yw209 : xyw 209 = true := by decide +kernel
theorem yk210 : xyok 210 = true := by decide +kernel
theorem yw210 : xyw 210 = true := by decide +kernel
theorem yk211 : xyok 211 = true := by decide +kernel
theorem yw211 : xyw 211 = true := by decide +kernel
theorem yk212 : xyok 212 = true := by decide +kernel
theorem yw212 : xyw 212 = true := by decide +kernel
theorem yk213 : xyok 213 = true := by decide +kernel
theorem yw213 : xyw 213 = true := by decide +kernel
theorem yk214 : xyok 214 = true := by decide +kernel
theorem yw214 : xyw 214 = true := by decide +kernel
theorem yk215 : xyok 215 = true := by decide +kernel
theorem yw215 : xyw 215 = true := by decide +kernel
theorem yk216 : xyok 216 = true := by decide +kernel
theorem yw216 : xyw 216 = true := by decide +kernel
theorem yk217 : xyok 217 = true := by decide +kernel
theorem yw217 : xyw 217 = true := by decide +kernel
theorem yk218 : xyok 218 = true := by decide +kernel
theorem yw218 : xyw 218 = true := by decide +kernel
theorem yk219 : xyok 219 = true := by decide +kernel
theorem yw219 : xyw 219 = true := by decide +kernel
theorem yk220 : xyok 220 = true := by decide +kernel
theorem yw220 : xyw 220 = true := by decide +kernel
theorem yk221 : xyok 221 = true := by decide +kernel
theorem yw221 : xyw 221 = true := by decide +kernel
theorem yk222 : xyok 222 = true := by decide +kernel
theorem yw222 : xyw 222 = true := by decide +kernel
theorem yk223 : xyok 223 = true := by decide +kernel
theorem yw223 : xyw 223 = true := by decide +kernel
theorem yk224 : xyok 224 = true := by decide +kernel
theorem yw224 : xyw 224 = true := by decide +kernel
theorem yk225 : xyok 225 = true := by decide +kernel
theorem yw225 : xyw 225 = true := by decide +kernel
theorem yk226 : xyok 226 = true := by decide +kernel
theorem yw226 : xyw 226 = true := by decide +kernel
theorem yk227 : xyok 227 = true := by decide +kernel
theorem yw227 : xyw 227 = true := by decide +kernel
theorem yk228 : xyok 228 = true := by decide +kernel
theorem yw228 : xyw 228 = true := by decide +kernel
theorem yk229 : xyok 229 = true := by decide +kernel
theorem yw229 : xyw 229 = true := by decide +kernel
theorem yk230 : xyok 230 = true := by decide +kernel
theorem yw230 : xyw 230 = true := by decide +kernel
theorem yk231 : xyok 231 = true := by decide +kernel
theorem yw231 : xyw 231 = true := by decide +kernel
theorem yk232 : xyok 232 = true := by decide +kernel
theorem yw232 : xyw 232 = true := by decide +kernel
theorem yk233 : xyok 233 = true := by decide +kernel
theorem yw233 : xyw 233 = true := by decide +kernel
theorem yk234 : xyok 234 = true := by decide +kernel
theorem yw234 : xyw 234 = true := by decide +kernel
theorem yk235 : xyok 235 = true := by decide +kernel
theorem yw235 : xyw 235 = true := by decide +kernel
theorem yk236 : xyok 236 = true := by decide +kernel
theorem yw236 : xyw 236 = true := by decide +kernel
theorem yk237 : xyok 237 = true := by decide +kernel
theorem yw237 : xyw 237 = true := by decide +kernel
theorem yk238 : xyok 238 = true := by decide +kernel
theorem yw238 : xyw 238 = true := by decide +kernel
theorem yk239 : xyok 239 = true := by decide +kernel
theorem yw239 : xyw 239 = true := by decide +kernel
theorem yk240 : xyok 240 = true := by decide +kernel
theorem yw240 : xyw 240 = true := by decide +kernel
theorem yk241 : xyok 241 = true := by decide +kernel
theorem yw241 : xyw 241 = true := by decide +kernel
theorem yk242 : xyok 242 = true := by decide +kernel
theorem yw242 : xyw 242 = true := by decide +kernel
theorem yk243 : xyok 243 = true := by decide +kernel
theorem yw243 : xyw 243 = true := by decide +kernel
theorem yk244 : xyok 244 = true := by decide +kernel
theorem yw244 : xyw 244 = true := by decide +kernel
theorem yk245 : xyok 245 = true := by decide +kernel
theorem yw245 : xyw 245 = true := by decide +kernel
theorem yk246 : xyok 246 = true := by decide +kernel
theorem yw246 : xyw 246 = true := by decide +kernel
theorem yk247 : xyok 247 = true := by decide +kernel
theorem yw247 : xyw 247 = true := by decide +kernel
theorem yk248 : xyok 248 = true := by decide +kernel
theorem yw248 : xyw 248 = true := by decide +kernel
theorem yk249 : xyok 249 = true := by decide +kernel
theorem yw249 : xyw 249 = true := by decide +kernel
theorem yk250 : xyok 250 = true := by decide +kernel
theorem yw250 : xyw 250 = true := by decide +kernel
theorem yk251 : xyok 251 = true := by decide +kernel
theorem yw251 : xyw 251 = true := by decide +kernel
theorem yk252 : xyok 252 = true := by decide +kernel
theorem yw252 : xyw 252 = true := by decide +kernel
theorem yk253 : xyok 253 = true := by decide +kernel
theorem yw253 : xyw 253 = true := by decide +kernel
theorem yk254 : xyok 254 = true := by decide +kernel
theorem yw254 : xyw 254 = true := by decide +kernel
theorem yk255 : xyok 255 = true := by decide +kernel
theorem yw255 : xyw 255 = true := by decide +kernel
theorem yk256 : xyok 256 = true := by decide +kernel
theorem yw256 : xyw 256 = true := by decide +kernel
theorem yk257 : xyok 257 = true := by decide +kernel
theorem yw257 : xyw 257 = true := by decide +kernel
theorem yk258 : xyok 258 = true := by decide +kernel
theorem yw258 : xyw 258 = true := by decide +kernel
theorem yk259 : xyok 259 = true := by decide +kernel
theorem yw259 : xyw 259 = true := by decide +kernel
theorem yk260 : xyok 260 = true := by decide +kernel
theorem yw260 : xyw 260 = true := by decide +kernel
theorem yk261 : xyok 261 = true := by decide +kernel
theorem yw261 : xyw 261 = true := by decide +kernel
theorem yk262 : xyok 262 = true := by decide +kernel
theorem yw262 : xyw 262 = true := by decide +kernel
theorem yk263 : xyok 263 = true := by decide +kernel
theorem yw263 : xyw 263 = true := by decide +kernel
theorem yk264 : xyok 264 = true := by decide +kernel
theorem yw264 : xyw 264 = true := by decide +kernel
theorem yk265 : xyok 265 = true := by decide +kernel
theorem yw265 : xyw 265 = true := by decide +kernel
theorem yk266 : xyok 266 = true := by decide +kernel
theorem yw266 : xyw 266 = true := by decide +kernel
theorem yk267 : xyok 267 = true := by decide +kernel
theorem yw267 : xyw 267 = true := by decide +kernel
theorem yk268 : xyok 268 = true := by decide +kernel
theorem yw268 : xyw 268 = true := by decide +kernel
theorem yk269 : xyok 269 = true := by decide +kernel
theorem yw269 : xyw 269 = true := by decide +kernel
theorem yk270 : xyok 270 = true := by decide +kernel
theorem yw270 : xyw 270 = true := by decide +kernel
theorem yk271 : xyok 271 = true := by decide +kernel
theorem yw271 : xyw 271 = true := by decide +kernel
theorem yk272 : xyok 272 = true := by decide +kernel
theorem yw272 : xyw 272 = true := by decide +kernel
theorem yk273 : xyok 273 = true := by decide +kernel
theorem yw273 : xyw 273 = true := by decide +kernel
theorem yk274 : xyok 274 = true := by decide +kernel
theorem yw274 : xyw 274 = true := by decide +kernel
theorem yk275 : xyok 275 = true := by decide +kernel
theorem yw275 : xyw 275 = true := by decide +kernel
theorem yk276 : xyok 276 = true := by decide +kernel
theorem yw276 : xyw 276 = true := by decide +kernel
theorem yk277 : xyok 277 = true := by decide +kernel
theorem yw277 : xyw 277 = true := by decide +kernel
theorem yk278 : xyok 278 = true := by decide +kernel
theorem yw278 : xyw 278 = true := by decide +kernel
theorem yk279 : xyok 279 = true := by decide +kernel
theorem yw279 : xyw 279 = true := by decide +kernel
theorem yk280 : xyok 280 = true := by decide +kernel
theorem yw280 : xyw 280 = true := by decide +kernel
theorem yk281 : xyok 281 = true := by decide +kernel
theorem yw281 : xyw 281 = true := by decide +kernel
theorem yk282 : xyok 282 = true := by decide +kernel
theorem yw282 : xyw 282 = true := by decide +kernel
theorem yk283 : xyok 283 = true := by decide +kernel
theorem yw283 : xyw 283 = true := by decide +kernel
theorem yk284 : xyok 284 = true := by decide +kernel
theorem yw284 : xyw 284 = true := by decide +kernel
theorem yk285 : xyok 285 = true := by decide +kernel
theorem yw285 : xyw 285 = true := by decide +kernel
theorem yk286 : xyok 286 = true := by decide +kernel
theorem yw286 : xyw 286 = true := by decide +kernel
theorem yk287 : xyok 287 = true := by decide +kernel
theorem yw287 : xyw 287 = true := by decide +kernel
theorem yk288 : xyok 288 = true := by decide +kernel
theorem yw288 : xyw 288 = true := by decide +kernel
theorem yk289 : xyok 289 = true := by decide +kernel
theorem yw289 : xyw 289 = true := by decide +kernel
theorem yk290 : xyok 290 = true := by decide +kernel
theorem yw290 : xyw 290 = true := by decide +kernel
theorem yk291 : xyok 291 = true := by decide +kernel
theorem yw291 : xyw 291 = true := by decide +kernel
theorem yk292 : xyok 292 = true := by decide +kernel
theorem yw292 : xyw 292 = true := by decide +kernel
theorem yk293 : xyok 293 = true := by decide +kernel
theorem yw293 : xyw 293 = true := by decide +kernel
theorem yk294 : xyok 294 = true := by decide +kernel
theorem yw294 : xyw 294 = true := by decide +kernel
theorem yk295 : xyok 295 = true := by decide +kernel
theorem yw295 : xyw 295 = true := by decide +kernel
theorem yk296 : xyok 296 = true := by decide +kernel
theorem yw296 : xyw 296 = true := by decide +kernel
theorem yk297 : xyok 297 = true := by decide +kernel
theorem yw297 : xyw 297 = true := by decide +kernel
theorem yk298 : xyok 298 = true := by decide +kernel
theorem yw298 : xyw 298 = true := by decide +kernel
theorem yk299 : xyok 299 = true := by decide +kernel
theorem yw299 : xyw 299 = true := by decide +kernel
theorem yblk10 : ∀ r : Nat, r < 20 → 200 + r ≠ 382 → xyok (200 + r) = true ∧ xyw (200 + r) = true := by
  intro r h h2
  match r, h with
  | 0, _ => exact ⟨yk200, yw200⟩
  | 1, _ => exact ⟨yk201, yw201⟩
  | 2, _ => exact ⟨yk202, yw202⟩
  | 3, _ => exact ⟨yk203, yw203⟩
  | 4, _ => exact ⟨yk204, yw204⟩
  | 5, _ => exact ⟨yk205, yw205⟩
  | 6, _ => exact ⟨yk206, yw206⟩
  | 7, _ => exact ⟨yk207, yw207⟩
  | 8, _ => exact ⟨yk208, yw208⟩
  | 9, _ => exact ⟨yk209, yw209⟩
  | 10, _ => exact ⟨yk210, yw210⟩
  | 11, _ => exact ⟨yk211, yw211⟩
  | 12, _ => exact ⟨yk212, yw212⟩
  | 13, _ => exact ⟨yk213, yw213⟩
  | 14, _ => exact ⟨yk214, yw214⟩
  | 15, _ => exact ⟨yk215, yw215⟩
  | 16, _ => exact ⟨yk216, yw216⟩
  | 17, _ => exact ⟨yk217, yw217⟩
  | 18, _ => exact ⟨yk218, yw218⟩
  | 19, _ => exact ⟨yk219, yw219⟩
  | r + 20, h => exact absurd h (by omega)
theorem yblk11 : ∀ r : Nat, r < 20 → 220 + r ≠ 382 → xyok (220 + r) = true ∧ xyw (220 + r) = true := by
  intro r h h2
  match r, h with
  | 0, _ => exact ⟨yk220, yw220⟩
  | 1, _ => exact ⟨yk221, yw221⟩
  | 2, _ => exact ⟨yk222, yw222⟩
  | 3, _ => exact ⟨yk223, yw223⟩
  | 4, _ => exact ⟨yk224, yw224⟩
  | 5, _ => exact ⟨yk225, yw225⟩
  | 6, _ => exact ⟨yk226, yw226⟩
  | 7, _ => exact ⟨yk227, yw227⟩
  | 8, _ => exact ⟨yk228, yw228⟩
  | 9, _ => exact ⟨yk229, yw229⟩
  | 10, _ => exact ⟨yk230, yw230⟩
  | 11, _ => exact ⟨yk231, yw231⟩
  | 12, _ => exact ⟨yk232, yw232⟩
  | 13, _ => exact ⟨yk233, yw233⟩
  | 14, _ => exact ⟨yk234, yw234⟩
  | 15, _ => exact ⟨yk235, yw235⟩
  | 16, _ => exact ⟨yk236, yw236⟩
  | 17, _ => exact ⟨yk237, yw237⟩
  | 18, _ => exact ⟨yk238, yw238⟩
  | 19, _ => exact ⟨yk239, yw239⟩
  | r + 20, h => exact absurd h (by omega)
theorem yblk12 : ∀ r : Nat, r < 20 → 240 + r ≠ 382 → xyok (240 + r) = true ∧ xyw (240 + r) = true := by
  intro r h h2
  match r, h with
  | 0, _ => exact ⟨yk240, yw240⟩
  | 1, _ => exact ⟨yk241, yw241⟩
  | 2, _ => exact ⟨yk242, yw242⟩
  | 3, _ => exact ⟨yk243, yw243⟩
  | 4, _ => exact ⟨yk244, yw244⟩
  | 5, _ => exact ⟨yk245, yw245⟩
  | 6, _ => exact ⟨yk246, yw246⟩
  | 7, _ => exact ⟨yk247, yw247⟩
  | 8, _ => exact ⟨yk248, yw248⟩
  | 9, _ => exact ⟨yk249, yw249⟩
  | 10, _ => exact ⟨yk250, yw250⟩
  | 11, _ => exact ⟨yk251, yw251⟩
  | 12, _ => exact ⟨yk252, yw252⟩
  | 13, _ => exact ⟨yk253, yw253⟩
  | 14, _ => exact ⟨yk254, yw254⟩
  | 15, _ => exact ⟨yk255, yw255⟩
  | 16, _ => exact ⟨yk256, yw256⟩
  | 17, _ => exact ⟨yk257, yw257⟩
  | 18, _ => exact ⟨yk258, yw258⟩
  | 19, _ => exact ⟨yk259, yw259⟩
  | r + 20, h => exact absurd h (by omega)
theorem yblk13 : ∀ r : Nat, r < 20 → 260 + r ≠ 382 → xyok (260 + r) = true ∧ xyw (260 + r) = true := by
  intro r h h2
  match r, h with
  | 0, _ => exact ⟨yk260, yw260⟩
  | 1, _ => exact ⟨yk261, yw261⟩
  | 2, _ => exact ⟨yk262, yw262⟩
  | 3, _ => exact ⟨yk263, yw263⟩
  | 4, _ => exact ⟨yk264, yw264⟩
  | 5, _ => exact ⟨yk265, yw265⟩
  | 6, _ => exact ⟨yk266, yw266⟩
  | 7, _ => exact ⟨yk267, yw267⟩
  | 8, _ => exact ⟨yk268, yw268⟩
  | 9, _ => exact ⟨yk269, yw269⟩
  | 10, _ => exact ⟨yk270, yw270⟩
  | 11, _ => exact ⟨yk271, yw271⟩
  | 12, _ => exact ⟨yk272, yw272⟩
  | 13, _ => exact ⟨yk273, yw273⟩
  | 14, _ => exact ⟨yk274, yw274⟩
  | 15, _ => exact ⟨yk275, yw275⟩
  | 16, _ => exact ⟨yk276, yw276⟩
  | 17, _ => exact ⟨yk277, yw277⟩
  | 18, _ => exact ⟨yk278, yw278⟩
  | 19, _ => exact ⟨yk279, yw279⟩
  | r + 20, h => exact absurd h (by omega)
theorem yblk14 : ∀ r : Nat, r < 20 → 280 + r ≠ 382 → xyok (280 + r) = true ∧ xyw (280 + r) = true := by
  intro r h h2
  match r, h with
  | 0, _ => exact ⟨yk280, yw280⟩
  | 1, _ => exact ⟨yk281, yw281⟩
  | 2, _ => exact ⟨yk282, yw282⟩
  | 3, _ => exact ⟨yk283, yw283⟩
  | 4, _ => exact ⟨yk284, yw284⟩
  | 5, _ => exact ⟨yk285, yw285⟩
  | 6, _ => exact ⟨yk286, yw286⟩
  | 7, _ => exact ⟨yk287, yw287⟩
  | 8, _ => exact ⟨yk288, yw288⟩
  | 9, _ => exact ⟨yk289, yw289⟩
  | 10, _ => exact ⟨yk290, yw290⟩
  | 11, _ => exact ⟨yk291, yw291⟩
  | 12, _ => exact ⟨yk292, yw292⟩
  | 13, _ => exact ⟨yk293, yw293⟩
  | 14, _ => exact ⟨yk294, yw294⟩
  | 15, _ => exact ⟨yk295, yw295⟩
  | 16, _ => exact ⟨yk296, yw296⟩
  | 17, _ => exact ⟨yk297, yw297⟩
  | 18, _ => exact ⟨yk298, yw298⟩
  | 19, _ => exact ⟨yk299, yw299⟩
  | r + 20, h => exact absurd h (by omega)
