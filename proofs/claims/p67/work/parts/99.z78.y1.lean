/-! Methods 100 to 199, checked. -/
theorem yk100 : xyok 100 = true := by decide +kernel
theorem yw100 : xyw 100 = true := by decide +kernel
theorem yk101 : xyok 101 = true := by decide +kernel
theorem yw101 : xyw 101 = true := by decide +kernel
theorem yk104 : xyok 104 = true := by decide +kernel
theorem yw104 : xyw 104 = true := by decide +kernel
theorem yk106 : xyok 106 = true := by decide +kernel
theorem yw106 : xyw 106 = true := by decide +kernel
theorem yk107 : xyok 107 = true := by decide +kernel
theorem yw107 : xyw 107 = true := by decide +kernel
theorem yk128 : xyok 128 = true := by decide +kernel
theorem yw128 : xyw 128 = true := by decide +kernel
theorem yk129 : xyok 129 = true := by decide +kernel
theorem yw129 : xyw 129 = true := by decide +kernel
theorem yk130 : xyok 130 = true := by decide +kernel
theorem yw130 : xyw 130 = true := by decide +kernel
theorem yk131 : xyok 131 = true := by decide +kernel
theorem yw131 : xyw 131 = true := by decide +kernel
theorem yk142 : xyok 142 = true := by decide +kernel
theorem yw142 : xyw 142 = true := by decide +kernel
theorem yk144 : xyok 144 = true := by decide +kernel
theorem yw144 : xyw 144 = true := by decide +kernel
theorem yk145 : xyok 145 = true := by decide +kernel
theorem yw145 : xyw 145 = true := by decide +kernel
theorem yk146 : xyok 146 = true := by decide +kernel
theorem yw146 : xyw 146 = true := by decide +kernel
theorem yk151 : xyok 151 = true := by decide +kernel
theorem yw151 : xyw 151 = true := by decide +kernel
theorem yk152 : xyok 152 = true := by decide +kernel
theorem yw152 : xyw 152 = true := by decide +kernel
theorem yk153 : xyok 153 = true := by decide +kernel
theorem yw153 : xyw 153 = true := by decide +kernel
theorem yk154 : xyok 154 = true := by decide +kernel
theorem yw154 : xyw 154 = true := by decide +kernel
theorem yk155 : xyok 155 = true := by decide +kernel
theorem yw155 : xyw 155 = true := by decide +kernel
theorem yk156 : xyok 156 = true := by decide +kernel
theorem yw156 : xyw 156 = true := by decide +kernel
theorem yk157 : xyok 157 = true := by decide +kernel
theorem yw157 : xyw 157 = true := by decide +kernel
theorem yk158 : xyok 158 = true := by decide +kernel
theorem yw158 : xyw 158 = true := by decide +kernel
theorem yk159 : xyok 159 = true := by decide +kernel
theorem yw159 : xyw 159 = true := by decide +kernel
theorem yk160 : xyok 160 = true := by decide +kernel
theorem yw160 : xyw 160 = true := by decide +kernel
theorem yk161 : xyok 161 = true := by decide +kernel
theorem yw161 : xyw 161 = true := by decide +kernel
theorem yk163 : xyok 163 = true := by decide +kernel
theorem yw163 : xyw 163 = true := by decide +kernel
theorem yk165 : xyok 165 = true := by decide +kernel
theorem yw165 : xyw 165 = true := by decide +kernel
theorem yk166 : xyok 166 = true := by decide +kernel
theorem yw166 : xyw 166 = true := by decide +kernel
theorem yk167 : xyok 167 = true := by decide +kernel
theorem yw167 : xyw 167 = true := by decide +kernel
theorem yk168 : xyok 168 = true := by decide +kernel
theorem yw168 : xyw 168 = true := by decide +kernel
theorem yk169 : xyok 169 = true := by decide +kernel
theorem yw169 : xyw 169 = true := by decide +kernel
theorem yk172 : xyok 172 = true := by decide +kernel
theorem yw172 : xyw 172 = true := by decide +kernel
theorem yk173 : xyok 173 = true := by decide +kernel
theorem yw173 : xyw 173 = true := by decide +kernel
theorem yk174 : xyok 174 = true := by decide +kernel
theorem yw174 : xyw 174 = true := by decide +kernel
theorem yk175 : xyok 175 = true := by decide +kernel
theorem yw175 : xyw 175 = true := by decide +kernel
theorem yk176 : xyok 176 = true := by decide +kernel
theorem yw176 : xyw 176 = true := by decide +kernel
theorem yk177 : xyok 177 = true := by decide +kernel
theorem yw177 : xyw 177 = true := by decide +kernel
theorem yk178 : xyok 178 = true := by decide +kernel
theorem yw178 : xyw 178 = true := by decide +kernel
theorem yk179 : xyok 179 = true := by decide +kernel
theorem yw179 : xyw 179 = true := by decide +kernel
theorem yk180 : xyok 180 = true := by decide +kernel
theorem yw180 : xyw 180 = true := by decide +kernel
theorem yk182 : xyok 182 = true := by decide +kernel
theorem yw182 : xyw 182 = true := by decide +kernel
theorem yk183 : xyok 183 = true := by decide +kernel
theorem yw183 : xyw 183 = true := by decide +kernel
theorem yk184 : xyok 184 = true := by decide +kernel
theorem yw184 : xyw 184 = true := by decide +kernel
theorem yk185 : xyok 185 = true := by decide +kernel
theorem yw185 : xyw 185 = true := by decide +kernel
theorem yk186 : xyok 186 = true := by decide +kernel
theorem yw186 : xyw 186 = true := by decide +kernel
theorem yk187 : xyok 187 = true := by decide +kernel
theorem yw187 : xyw 187 = true := by decide +kernel
theorem yk188 : xyok 188 = true := by decide +kernel
theorem yw188 : xyw 188 = true := by decide +kernel
theorem yk189 : xyok 189 = true := by decide +kernel
theorem yw189 : xyw 189 = true := by decide +kernel
theorem yk190 : xyok 190 = true := by decide +kernel
theorem yw190 : xyw 190 = true := by decide +kernel
theorem yk191 : xyok 191 = true := by decide +kernel
theorem yw191 : xyw 191 = true := by decide +kernel
theorem yk192 : xyok 192 = true := by decide +kernel
theorem yw192 : xyw 192 = true := by decide +kernel
theorem yk193 : xyok 193 = true := by decide +kernel
theorem yw193 : xyw 193 = true := by decide +kernel
theorem yk194 : xyok 194 = true := by decide +kernel
theorem yw194 : xyw 194 = true := by decide +kernel
theorem yk195 : xyok 195 = true := by decide +kernel
theorem yw195 : xyw 195 = true := by decide +kernel
theorem yk196 : xyok 196 = true := by decide +kernel
theorem yw196 : xyw 196 = true := by decide +kernel
theorem yk197 : xyok 197 = true := by decide +kernel
theorem yw197 : xyw 197 = true := by decide +kernel
theorem yk198 : xyok 198 = true := by decide +kernel
theorem yw198 : xyw 198 = true := by decide +kernel
theorem yk199 : xyok 199 = true := by decide +kernel
theorem yw199 : xyw 199 = true := by decide +kernel
theorem yblk5 : ∀ r : Nat, r < 20 → yr (100 + r) = true → xyok (100 + r) = true ∧ xyw (100 + r) = true := by
  intro r h h2
  match r, h with
  | 0, _ => exact ⟨yk100, yw100⟩
  | 1, _ => exact ⟨yk101, yw101⟩
  | 2, _ => exact absurd h2 (by decide +kernel)
  | 3, _ => exact absurd h2 (by decide +kernel)
  | 4, _ => exact ⟨yk104, yw104⟩
  | 5, _ => exact absurd h2 (by decide +kernel)
  | 6, _ => exact ⟨yk106, yw106⟩
  | 7, _ => exact ⟨yk107, yw107⟩
  | 8, _ => exact absurd h2 (by decide +kernel)
  | 9, _ => exact absurd h2 (by decide +kernel)
  | 10, _ => exact absurd h2 (by decide +kernel)
  | 11, _ => exact absurd h2 (by decide +kernel)
  | 12, _ => exact absurd h2 (by decide +kernel)
  | 13, _ => exact absurd h2 (by decide +kernel)
  | 14, _ => exact absurd h2 (by decide +kernel)
  | 15, _ => exact absurd h2 (by decide +kernel)
  | 16, _ => exact absurd h2 (by decide +kernel)
  | 17, _ => exact absurd h2 (by decide +kernel)
  | 18, _ => exact absurd h2 (by decide +kernel)
  | 19, _ => exact absurd h2 (by decide +kernel)
  | r + 20, h => exact absurd h (by omega)
theorem yblk6 : ∀ r : Nat, r < 20 → yr (120 + r) = true → xyok (120 + r) = true ∧ xyw (120 + r) = true := by
  intro r h h2
  match r, h with
  | 0, _ => exact absurd h2 (by decide +kernel)
  | 1, _ => exact absurd h2 (by decide +kernel)
  | 2, _ => exact absurd h2 (by decide +kernel)
  | 3, _ => exact absurd h2 (by decide +kernel)
  | 4, _ => exact absurd h2 (by decide +kernel)
  | 5, _ => exact absurd h2 (by decide +kernel)
  | 6, _ => exact absurd h2 (by decide +kernel)
  | 7, _ => exact absurd h2 (by decide +kernel)
  | 8, _ => exact ⟨yk128, yw128⟩
  | 9, _ => exact ⟨yk129, yw129⟩
  | 10, _ => exact ⟨yk130, yw130⟩
  | 11, _ => exact ⟨yk131, yw131⟩
  | 12, _ => exact absurd h2 (by decide +kernel)
  | 13, _ => exact absurd h2 (by decide +kernel)
  | 14, _ => exact absurd h2 (by decide +kernel)
  | 15, _ => exact absurd h2 (by decide +kernel)
  | 16, _ => exact absurd h2 (by decide +kernel)
  | 17, _ => exact absurd h2 (by decide +kernel)
  | 18, _ => exact absurd h2 (by decide +kernel)
  | 19, _ => exact absurd h2 (by decide +kernel)
  | r + 20, h => exact absurd h (by omega)
theorem yblk7 : ∀ r : Nat, r < 20 → yr (140 + r) = true → xyok (140 + r) = true ∧ xyw (140 + r) = true := by
  intro r h h2
  match r, h with
  | 0, _ => exact absurd h2 (by decide +kernel)
  | 1, _ => exact absurd h2 (by decide +kernel)
  | 2, _ => exact ⟨yk142, yw142⟩
  | 3, _ => exact absurd h2 (by decide +kernel)
  | 4, _ => exact ⟨yk144, yw144⟩
  | 5, _ => exact ⟨yk145, yw145⟩
  | 6, _ => exact ⟨yk146, yw146⟩
  | 7, _ => exact absurd h2 (by decide +kernel)
  | 8, _ => exact absurd h2 (by decide +kernel)
  | 9, _ => exact absurd h2 (by decide +kernel)
  | 10, _ => exact absurd h2 (by decide +kernel)
  | 11, _ => exact ⟨yk151, yw151⟩
  | 12, _ => exact ⟨yk152, yw152⟩
  | 13, _ => exact ⟨yk153, yw153⟩
  | 14, _ => exact ⟨yk154, yw154⟩
  | 15, _ => exact ⟨yk155, yw155⟩
  | 16, _ => exact ⟨yk156, yw156⟩
  | 17, _ => exact ⟨yk157, yw157⟩
  | 18, _ => exact ⟨yk158, yw158⟩
  | 19, _ => exact ⟨yk159, yw159⟩
  | r + 20, h => exact absurd h (by omega)
theorem yblk8 : ∀ r : Nat, r < 20 → yr (160 + r) = true → xyok (160 + r) = true ∧ xyw (160 + r) = true := by
  intro r h h2
  match r, h with
  | 0, _ => exact ⟨yk160, yw160⟩
  | 1, _ => exact ⟨yk161, yw161⟩
  | 2, _ => exact absurd h2 (by decide +kernel)
  | 3, _ => exact ⟨yk163, yw163⟩
  | 4, _ => exact absurd h2 (by decide +kernel)
  | 5, _ => exact ⟨yk165, yw165⟩
  | 6, _ => exact ⟨yk166, yw166⟩
  | 7, _ => exact ⟨yk167, yw167⟩
  | 8, _ => exact ⟨yk168, yw168⟩
  | 9, _ => exact ⟨yk169, yw169⟩
  | 10, _ => exact absurd h2 (by decide +kernel)
  | 11, _ => exact absurd h2 (by decide +kernel)
  | 12, _ => exact ⟨yk172, yw172⟩
  | 13, _ => exact ⟨yk173, yw173⟩
  | 14, _ => exact ⟨yk174, yw174⟩
  | 15, _ => exact ⟨yk175, yw175⟩
  | 16, _ => exact ⟨yk176, yw176⟩
  | 17, _ => exact ⟨yk177, yw177⟩
  | 18, _ => exact ⟨yk178, yw178⟩
  | 19, _ => exact ⟨yk179, yw179⟩
  | r + 20, h => exact absurd h (by omega)
theorem yblk9 : ∀ r : Nat, r < 20 → yr (180 + r) = true → xyok (180 + r) = true ∧ xyw (180 + r) = true := by
  intro r h h2
  match r, h with
  | 0, _ => exact ⟨yk180, yw180⟩
  | 1, _ => exact absurd h2 (by decide +kernel)
  | 2, _ => exact ⟨yk182, yw182⟩
  | 3, _ => exact ⟨yk183, yw183⟩
  | 4, _ => exact ⟨yk184, yw184⟩
  | 5, _ => exact ⟨yk185, yw185⟩
  | 6, _ => exact ⟨yk186, yw186⟩
  | 7, _ => exact ⟨yk187, yw187⟩
  | 8, _ => exact ⟨yk188, yw188⟩
  | 9, _ => exact ⟨yk189, yw189⟩
  | 10, _ => exact ⟨yk190, yw190⟩
  | 11, _ => exact ⟨yk191, yw191⟩
  | 12, _ => exact ⟨yk192, yw192⟩
  | 13, _ => exact ⟨yk193, yw193⟩
  | 14, _ => exact ⟨yk194, yw194⟩
  | 15, _ => exact ⟨yk195, yw195⟩
  | 16, _ => exact ⟨yk196, yw196⟩
  | 17, _ => exact ⟨yk197, yw197⟩
  | 18, _ => exact ⟨yk198, yw198⟩
  | 19, _ => exact ⟨yk199, yw199⟩
  | r + 20, h => exact absurd h (by omega)
