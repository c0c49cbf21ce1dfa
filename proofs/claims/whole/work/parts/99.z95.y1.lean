/-! Methods 100 to 199, checked. -/
theorem yk100 : xyok 100 = true := by decide +kernel
theorem yw100 : xyw 100 = true := by decide +kernel
theorem yk101 : xyok 101 = true := by decide +kernel
theorem yw101 : xyw 101 = true := by decide +kernel
theorem yk102 : xyok 102 = true := by decide +kernel
theorem yw102 : xyw 102 = true := by decide +kernel
theorem yk103 : xyok 103 = true := by decide +kernel
theorem yw103 : xyw 103 = true := by decide +kernel
theorem yk104 : xyok 104 = true := by decide +kernel
theorem yw104 : xyw 104 = true := by decide +kernel
theorem yk105 : xyok 105 = true := by decide +kernel
theorem yw105 : xyw 105 = true := by decide +kernel
theorem yk106 : xyok 106 = true := by decide +kernel
theorem yw106 : xyw 106 = true := by decide +kernel
theorem yk107 : xyok 107 = true := by decide +kernel
theorem yw107 : xyw 107 = true := by decide +kernel
theorem yk108 : xyok 108 = true := by decide +kernel
theorem yw108 : xyw 108 = true := by decide +kernel
theorem yk109 : xyok 109 = true := by decide +kernel
theorem yw109 : xyw 109 = true := by decide +kernel
theorem yk110 : xyok 110 = true := by decide +kernel
theorem yw110 : xyw 110 = true := by decide +kernel
theorem yk111 : xyok 111 = true := by decide +kernel
theorem yw111 : xyw 111 = true := by decide +kernel
theorem yk112 : xyok 112 = true := by decide +kernel
theorem yw112 : xyw 112 = true := by decide +kernel
theorem yk113 : xyok 113 = true := by decide +kernel
theorem yw113 : xyw 113 = true := by decide +kernel
theorem yk114 : xyok 114 = true := by decide +kernel
theorem yw114 : xyw 114 = true := by decide +kernel
theorem yk115 : xyok 115 = true := by decide +kernel
theorem yw115 : xyw 115 = true := by decide +kernel
theorem yk116 : xyok 116 = true := by decide +kernel
theorem yw116 : xyw 116 = true := by decide +kernel
theorem yk117 : xyok 117 = true := by decide +kernel
theorem yw117 : xyw 117 = true := by decide +kernel
theorem yk118 : xyok 118 = true := by decide +kernel
theorem yw118 : xyw 118 = true := by decide +kernel
theorem yk119 : xyok 119 = true := by decide +kernel
theorem yw119 : xyw 119 = true := by decide +kernel
theorem yk120 : xyok 120 = true := by decide +kernel
theorem yw120 : xyw 120 = true := by decide +kernel
theorem yk121 : xyok 121 = true := by decide +kernel
theorem yw121 : xyw 121 = true := by decide +kernel
theorem yk122 : xyok 122 = true := by decide +kernel
theorem yw122 : xyw 122 = true := by decide +kernel
theorem yk123 : xyok 123 = true := by decide +kernel
theorem yw123 : xyw 123 = true := by decide +kernel
theorem yk124 : xyok 124 = true := by decide +kernel
theorem yw124 : xyw 124 = true := by decide +kernel
theorem yk125 : xyok 125 = true := by decide +kernel
theorem yw125 : xyw 125 = true := by decide +kernel
theorem yk126 : xyok 126 = true := by decide +kernel
theorem yw126 : xyw 126 = true := by decide +kernel
theorem yk127 : xyok 127 = true := by decide +kernel
theorem yw127 : xyw 127 = true := by decide +kernel
theorem yk128 : xyok 128 = true := by decide +kernel
theorem yw128 : xyw 128 = true := by decide +kernel
theorem yk129 : xyok 129 = true := by decide +kernel
theorem yw129 : xyw 129 = true := by decide +kernel
theorem yk130 : xyok 130 = true := by decide +kernel
theorem yw130 : xyw 130 = true := by decide +kernel
theorem yk131 : xyok 131 = true := by decide +kernel
theorem yw131 : xyw 131 = true := by decide +kernel
theorem yk132 : xyok 132 = true := by decide +kernel
theorem yw132 : xyw 132 = true := by decide +kernel
theorem yk133 : xyok 133 = true := by decide +kernel
theorem yw133 : xyw 133 = true := by decide +kernel
theorem yk134 : xyok 134 = true := by decide +kernel
theorem yw134 : xyw 134 = true := by decide +kernel
theorem yk135 : xyok 135 = true := by decide +kernel
theorem yw135 : xyw 135 = true := by decide +kernel
theorem yk136 : xyok 136 = true := by decide +kernel
theorem yw136 : xyw 136 = true := by decide +kernel
theorem yk137 : xyok 137 = true := by decide +kernel
theorem yw137 : xyw 137 = true := by decide +kernel
theorem yk138 : xyok 138 = true := by decide +kernel
theorem yw138 : xyw 138 = true := by decide +kernel
theorem yk139 : xyok 139 = true := by decide +kernel
theorem yw139 : xyw 139 = true := by decide +kernel
theorem yk140 : xyok 140 = true := by decide +kernel
theorem yw140 : xyw 140 = true := by decide +kernel
theorem yk141 : xyok 141 = true := by decide +kernel
theorem yw141 : xyw 141 = true := by decide +kernel
theorem yk142 : xyok 142 = true := by decide +kernel
theorem yw142 : xyw 142 = true := by decide +kernel
theorem yk143 : xyok 143 = true := by decide +kernel
theorem yw143 : xyw 143 = true := by decide +kernel
theorem yk144 : xyok 144 = true := by decide +kernel
theorem yw144 : xyw 144 = true := by decide +kernel
theorem yk145 : xyok 145 = true := by decide +kernel
theorem yw145 : xyw 145 = true := by decide +kernel
theorem yk146 : xyok 146 = true := by decide +kernel
theorem yw146 : xyw 146 = true := by decide +kernel
theorem yk147 : xyok 147 = true := by decide +kernel
theorem yw147 : xyw 147 = true := by decide +kernel
theorem yk148 : xyok 148 = true := by decide +kernel
theorem yw148 : xyw 148 = true := by decide +kernel
theorem yk149 : xyok 149 = true := by decide +kernel
theorem yw149 : xyw 149 = true := by decide +kernel
theorem yk150 : xyok 150 = true := by decide +kernel
theorem yw150 : xyw 150 = true := by decide +kernel
theorem yk151 : xyok 151 = true := by decide +kernel
theorem yw151 : xyw 151 = true := by decide +kernel
theorem yk152 : xyok 152 = true := by decide +kernel
theorem yw152 : xyw 152 = true := by decide +kernel
theorem yk153 : xyok 153 = true := by decide +kernel
theorem yw153 : xyw 153 = true := by decide +kernel
theorem yk154 : xyok 154 = true := by decide +kernel
theorem yw154 : xyw 154 = true := by decide +kernel
theorem yk155 : xyok 155 = true := by decide +kernel
theorem yw155 : xyw 155 = true := by decide +kernel
theorem yk156 : xyok 156 = true := by decide +kernel
theorem yw156 : xyw 156 = true := by decide +kernel
theorem yk157 : xyok 157 = true := by decide +kernel
theorem yw157 : xyw 157 = true := by decide +kernel
theorem yk158 : xyok 158 = true := by decide +kernel
theorem yw158 : xyw 158 = true := by decide +kernel
theorem yk159 : xyok 159 = true := by decide +kernel
theorem yw159 : xyw 159 = true := by decide +kernel
theorem yk160 : xyok 160 = true := by decide +kernel
theorem yw160 : xyw 160 = true := by decide +kernel
theorem yk161 : xyok 161 = true := by decide +kernel
theorem yw161 : xyw 161 = true := by decide +kernel
theorem yk162 : xyok 162 = true := by decide +kernel
theorem yw162 : xyw 162 = true := by decide +kernel
theorem yk163 : xyok 163 = true := by decide +kernel
theorem yw163 : xyw 163 = true := by decide +kernel
theorem yk164 : xyok 164 = true := by decide +kernel
theorem yw164 : xyw 164 = true := by decide +kernel
theorem yk165 : xyok 165 = true := by decide +kernel
theorem yw165 : xyw 165 = true := by decide +kernel
theorem yk166 : xyok 166 = true := by decide +kernel
theorem yw166 : xyw 166 = true := by decide +kernel
theorem yk167 : xyok 167 = true := by decide +kernel
theorem yw167 : xyw 167 = true := by decide +kernel
theorem yk168 : xyok 168 = true := by decide +kernel
theorem yw168 : xyw 168 = true := by decide +kernel
theorem yk169 : xyok 169 = true := by decide +kernel
theorem yw169 : xyw 169 = true := by decide +kernel
theorem yk170 : xyok 170 = true := by decide +kernel
theorem yw170 : xyw 170 = true := by decide +kernel
theorem yk171 : xyok 171 = true := by decide +kernel
theorem yw171 : xyw 171 = true := by decide +kernel
theorem yk172 : xyok 172 = true := by decide +kernel
theorem yw172 : xyw 172 = true := by decide +kernel
theorem yk173 : xyok 173 = true := by decide +kernel
theorem yw173 : xyw 173 = true := by decide +kernel
theorem yk174 : xyok 174 = true := by decide +kernel
theorem yw174 : xyw 174 = true := by decide +kernel
theorem yk175 : xyok 175 = true := by decide +kernel
theorem yw175 : xyw 175 = true := by decide +kernel
theorem yk176 : xyok 176 = true := by decide +kernel
theorem yw176 : xyw 176 = true := by decide +kernel
theorem yk177 : xyok 177 = true := by decide +kernel
theorem yw177 : xyw 177 = true := by decide +kernel
theorem yk178 : xyok 178 = true := by decide +kernel
theorem yw178 : xyw 178 = true := by decide +kernel
theorem yk179 : xyok 179 = true := by decide +kernel
theorem yw179 : xyw 179 = true := by decide +kernel
theorem yk180 : xyok 180 = true := by decide +kernel
theorem yw180 : xyw 180 = true := by decide +kernel
theorem yk181 : xyok 181 = true := by decide +kernel
theorem yw181 : xyw 181 = true := by decide +kernel
theorem yk182 : xyok 182 = true := by decide +kernel
theorem yw182 : xyw 182 = true := by decide +kernel
theorem yk183 : xyok 183 = true := by decide +kernel
theorem yw183 : xyw 183 = true := by decide +kernel
theorem yk184 : xyok 184 = true := by decide +kernel
theorem yw184 : xyw 184 = true := by decide +kernel
theorem yk185 : xyok 185 = true := by decide +kernel
theorem yw185 : xyw 185 = true := by decide +kernel
theorem yk186 : xyok 186 = true := by decide +kernel
theorem yw186 : xyw 186 = true := by decide +kernel
theorem yk187 : xyok 187 = true := by decide +kernel
theorem yw187 : xyw 187 = true := by decide +kernel
theorem yk188 : xyok 188 = true := by decide +kernel
theorem yw188 : xyw 188 = true := by decide +kernel
theorem yk189 : xyok 189 = true := by decide +kernel
theorem yw189 : xyw 189 = true := by decide +kernel
theorem yk190 : xyok 190 = true := by decide +kernel
theorem yw190 : xyw 190 = true := by decide +kernel
theorem yk191 : xyok 191 = true := by decide +kernel
theorem yw191 : xyw 191 = true := by decide +kernel
theorem yk192 : xyok 192 = true := by decide +kernel
theorem yw192 : xyw 192 = true := by decide +kernel
theorem yk193 : xyok 193 = true := by decide +kernel
theorem yw193 : xyw 193 = true := by decide +kernel
theorem yk194 : xyok 194 = true := by decide +kernel
theorem yw194 : xyw 194 = true := by decide +kernel
theorem yk195 : xyok 195 = true := by decide +kernel
theorem yw195 : xyw 195 = true := by decide +kernel
theorem yk196 : xyok 196 = true := by decide +kernel
theorem yw196 : xyw 196 = true := by decide +kernel
theorem yk197 : xyok 197 = true := by decide +kernel
theorem yw197 : xyw 197 = true := by decide +kernel
theorem yk198 : xyok 198 = true := by decide +kernel
theorem yw198 : xyw 198 = true := by decide +kernel
theorem yk199 : xyok 199 = true := by decide +kernel
theorem yw199 : xyw 199 = true := by decide +kernel
theorem yblk5 : ∀ r : Nat, r < 20 → 100 + r ≠ 382 → xyok (100 + r) = true ∧ xyw (100 + r) = true := by
  intro r h h2
  match r, h with
  | 0, _ => exact ⟨yk100, yw100⟩
  | 1, _ => exact ⟨yk101, yw101⟩
  | 2, _ => exact ⟨yk102, yw102⟩
  | 3, _ => exact ⟨yk103, yw103⟩
  | 4, _ => exact ⟨yk104, yw104⟩
  | 5, _ => exact ⟨yk105, yw105⟩
  | 6, _ => exact ⟨yk106, yw106⟩
  | 7, _ => exact ⟨yk107, yw107⟩
  | 8, _ => exact ⟨yk108, yw108⟩
  | 9, _ => exact ⟨yk109, yw109⟩
  | 10, _ => exact ⟨yk110, yw110⟩
  | 11, _ => exact ⟨yk111, yw111⟩
  | 12, _ => exact ⟨yk112, yw112⟩
  | 13, _ => exact ⟨yk113, yw113⟩
  | 14, _ => exact ⟨yk114, yw114⟩
  | 15, _ => exact ⟨yk115, yw115⟩
  | 16, _ => exact ⟨yk116, yw116⟩
  | 17, _ => exact ⟨yk117, yw117⟩
  | 18, _ => exact ⟨yk118, yw118⟩
  | 19, _ => exact ⟨yk119, yw119⟩
  | r + 20, h => exact absurd h (by omega)
theorem yblk6 : ∀ r : Nat, r < 20 → 120 + r ≠ 382 → xyok (120 + r) = true ∧ xyw (120 + r) = true := by
  intro r h h2
  match r, h with
  | 0, _ => exact ⟨yk120, yw120⟩
  | 1, _ => exact ⟨yk121, yw121⟩
  | 2, _ => exact ⟨yk122, yw122⟩
  | 3, _ => exact ⟨yk123, yw123⟩
  | 4, _ => exact ⟨yk124, yw124⟩
  | 5, _ => exact ⟨yk125, yw125⟩
  | 6, _ => exact ⟨yk126, yw126⟩
  | 7, _ => exact ⟨yk127, yw127⟩
  | 8, _ => exact ⟨yk128, yw128⟩
  | 9, _ => exact ⟨yk129, yw129⟩
  | 10, _ => exact ⟨yk130, yw130⟩
  | 11, _ => exact ⟨yk131, yw131⟩
  | 12, _ => exact ⟨yk132, yw132⟩
  | 13, _ => exact ⟨yk133, yw133⟩
  | 14, _ => exact ⟨yk134, yw134⟩
  | 15, _ => exact ⟨yk135, yw135⟩
  | 16, _ => exact ⟨yk136, yw136⟩
  | 17, _ => exact ⟨yk137, yw137⟩
  | 18, _ => exact ⟨yk138, yw138⟩
  | 19, _ => exact ⟨yk139, yw139⟩
  | r + 20, h => exact absurd h (by omega)
theorem yblk7 : ∀ r : Nat, r < 20 → 140 + r ≠ 382 → xyok (140 + r) = true ∧ xyw (140 + r) = true := by
  intro r h h2
  match r, h with
  | 0, _ => exact ⟨yk140, yw140⟩
  | 1, _ => exact ⟨yk141, yw141⟩
  | 2, _ => exact ⟨yk142, yw142⟩
  | 3, _ => exact ⟨yk143, yw143⟩
  | 4, _ => exact ⟨yk144, yw144⟩
  | 5, _ => exact ⟨yk145, yw145⟩
  | 6, _ => exact ⟨yk146, yw146⟩
  | 7, _ => exact ⟨yk147, yw147⟩
  | 8, _ => exact ⟨yk148, yw148⟩
  | 9, _ => exact ⟨yk149, yw149⟩
  | 10, _ => exact ⟨yk150, yw150⟩
  | 11, _ => exact ⟨yk151, yw151⟩
  | 12, _ => exact ⟨yk152, yw152⟩
  | 13, _ => exact ⟨yk153, yw153⟩
  | 14, _ => exact ⟨yk154, yw154⟩
  | 15, _ => exact ⟨yk155, yw155⟩
  | 16, _ => exact ⟨yk156, yw156⟩
  | 17, _ => exact ⟨yk157, yw157⟩
  | 18, _ => exact ⟨yk158, yw158⟩
  | 19, _ => exact ⟨yk159, yw159⟩
  | r + 20, h => exact absurd h (by omega)
theorem yblk8 : ∀ r : Nat, r < 20 → 160 + r ≠ 382 → xyok (160 + r) = true ∧ xyw (160 + r) = true := by
  intro r h h2
  match r, h with
  | 0, _ => exact ⟨yk160, yw160⟩
  | 1, _ => exact ⟨yk161, yw161⟩
  | 2, _ => exact ⟨yk162, yw162⟩
  | 3, _ => exact ⟨yk163, yw163⟩
  | 4, _ => exact ⟨yk164, yw164⟩
  | 5, _ => exact ⟨yk165, yw165⟩
  | 6, _ => exact ⟨yk166, yw166⟩
  | 7, _ => exact ⟨yk167, yw167⟩
  | 8, _ => exact ⟨yk168, yw168⟩
  | 9, _ => exact ⟨yk169, yw169⟩
  | 10, _ => exact ⟨yk170, yw170⟩
  | 11, _ => exact ⟨yk171, yw171⟩
  | 12, _ => exact ⟨yk172, yw172⟩
  | 13, _ => exact ⟨yk173, yw173⟩
  | 14, _ => exact ⟨yk174, yw174⟩
  | 15, _ => exact ⟨yk175, yw175⟩
  | 16, _ => exact ⟨yk176, yw176⟩
  | 17, _ => exact ⟨yk177, yw177⟩
  | 18, _ => exact ⟨yk178, yw178⟩
  | 19, _ => exact ⟨yk179, yw179⟩
  | r + 20, h => exact absurd h (by omega)
theorem yblk9 : ∀ r : Nat, r < 20 → 180 + r ≠ 382 → xyok (180 + r) = true ∧ xyw (180 + r) = true := by
  intro r h h2
  match r, h with
  | 0, _ => exact ⟨yk180, yw180⟩
  | 1, _ => exact ⟨yk181, yw181⟩
  | 2, _ => exact ⟨yk182, yw182⟩
  | 3, _ => exact ⟨yk183, yw183⟩
  | 4, _ => exact ⟨yk184, yw184⟩
  | 5, _ => exact ⟨yk185, yw185⟩
  | 6, _ => exact ⟨yk186, yw186⟩
  | 7, _ => exact ⟨yk187, yw187⟩
  | 8, _ => exact ⟨yk188, yw188⟩
  | 9, _ => exact ⟨yk189, yw189⟩
  | 10, _ => exact ⟨yk190, yw190⟩
  | 11, _ => exact ⟨yk191, yw191⟩
  | 12, _ => exact ⟨yk192, yw192⟩
  | 13, _ => exact ⟨yk193, yw193⟩
  | 14, _ => exact ⟨yk194, yw194⟩
  | 15, _ => exact ⟨yk195, yw195⟩
  | 16, _ => exact ⟨yk196, yw196⟩
  | 17, _ => exact ⟨yk197, yw197⟩
  | 18, _ => exact ⟨yk198, yw198⟩
  | 19, _ => exact ⟨yk199, yw199⟩
  | r + 20, h => exact absurd h (by omega)
