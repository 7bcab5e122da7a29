set_option maxRecDepth 100000 in
theorem okM_177 : okM 177 = true := by decide +kernel
set_option maxRecDepth 100000 in
theorem okY_177 : okY 177 = true := by decide +kernel
set_option maxRecDepth 100000 in
theorem okM_178 : okM 178 = true := by decide +kernel
set_option maxRecDepth 100000 in
theorem okY_178 : okY 178 = true := by decide +kernel
set_option maxRecDepth 100000 in
theorem okM_179 : okM 179 = true := by decide +kernel
set_option maxRecDepth 100000 in
theorem okY_179 : okY 179 = true := by decide +kernel
set_option maxRecDepth 100000 in
theorem okM_180 : okM 180 = true := by decide +kernel
set_option maxRecDepth 100000 in
theorem okY_180 : okY 180 = true := by decide +kernel
set_option maxRecDepth 100000 in
theorem okM_181 : okM 181 = true := by decide +kernel
set_option maxRecDepth 100000 in
theorem okY_181 : okY 181 = true := by decide +kernel
set_option maxRecDepth 100000 in
theorem okM_182 : okM 182 = true := by decide +kernel
set_option maxRecDepth 100000 in
theorem okY_182 : okY 182 = true := by decide +kernel
set_option maxRecDepth 100000 in
theorem okM_183 : okM 183 = true := by decide +kernel
set_option maxRecDepth 100000 in
theorem okY_183 : okY 183 = true := by decide +kernel
set_option maxRecDepth 100000 in
theorem okM_184 : okM 184 = true := by decide +kernel
set_option maxRecDepth 100000 in
theorem okY_184 : okY 184 = true := by decide +kernel
set_option maxRecDepth 100000 in
theorem okM_185 : okM 185 = true := by decide +kernel
set_option maxRecDepth 100000 in
theorem okY_185 : okY 185 = true := by decide +kernel
set_option maxRecDepth 100000 in
theorem okM_186 : okM 186 = true := by decide +kernel
set_option maxRecDepth 100000 in
theorem okY_186 : okY 186 = true := by decide +kernel
set_option maxRecDepth 100000 in
theorem okM_187 : okM 187 = true := by decide +kernel
set_option maxRecDepth 100000 in
theorem okY_187 : okY 187 = true := by decide +kernel
set_option maxRecDepth 100000 in
theorem okM_188 : okM 188 = true := by decide +kernel
set_option maxRecDepth 100000 in
theorem okY_188 : okY 188 = true := by decide +kernel
set_option maxRecDepth 100000 in
theorem okM_189 : okM 189 = true := by decide +kernel
set_option maxRecDepth 100000 in
theorem okY_189 : okY 189 = true := by decide +kernel
set_option maxRecDepth 100000 in
theorem okM_190 : okM 190 = true := by decide +kernel
set_option maxRecDepth 100000 in
theorem okY_190 : okY 190 = true := by decide +kernel
set_option maxRecDepth 100000 in
theorem okM_191 : okM 191 = true := by decide +kernel
set_option maxRecDepth 100000 in
theorem okY_191 : okY 191 = true := by decide +kernel
set_option maxRecDepth 100000 in
theorem okM_192 : okM 192 = true := by decide +kernel
set_option maxRecDepth 100000 in
theorem okY_192 : okY 192 = true := by decide +kernel
set_option maxRecDepth 100000 in
theorem okM_193 : okM 193 = true := by decide +kernel
set_option maxRecDepth 100000 in
theorem okY_193 : okY 193 = true := by decide +kernel
set_option maxRecDepth 100000 in
theorem okM_194 : okM 194 = true := by decide +kernel
set_option maxRecDepth 100000 in
theorem okY_194 : okY 194 = true := by decide +kernel
set_option maxRecDepth 100000 in
theorem okM_195 : okM 195 = true := by decide +kernel
set_option maxRecDepth 100000 in
theorem okY_195 : okY 195 = true := by decide +kernel
set_option maxRecDepth 100000 in
theorem okM_196 : okM 196 = true := by decide +kernel
set_option maxRecDepth 100000 in
theorem okY_196 : okY 196 = true := by decide +kernel
set_option maxRecDepth 100000 in
theorem okM_197 : okM 197 = true := by decide +kernel
set_option maxRecDepth 100000 in
theorem okY_197 : okY 197 = true := by decide +kernel
set_option maxRecDepth 100000 in
theorem okM_198 : okM 198 = true := by decide +kernel
set_option maxRecDepth 100000 in
theorem okY_198 : okY 198 = true := by decide +kernel
set_option maxRecDepth 100000 in
theorem okM_199 : okM 199 = true := by decide +kernel
set_option maxRecDepth 100000 in
theorem okY_199 : okY 199 = true := by decide +kernel
set_option maxRecDepth 100000 in
theorem okM_200 : okM 200 = true := by decide +kernel
set_option maxRecDepth 100000 in
theorem okY_200 : okY 200 = true := by decide +kernel
set_option maxRecDepth 100000 in
theorem okM_201 : okM 201 = true := by decide +kernel
set_option maxRecDepth 100000 in
theorem okY_201 : okY 201 = true := by decide +kernel
set_option maxRecDepth 100000 in
theorem okM_202 : okM 202 = true := by decide +kernel
set_option maxRecDepth 100000 in
theorem okY_202 : okY 202 = true := by decide +kernel
set_option maxRecDepth 100000 in
theorem okM_203 : okM 203 = true := by decide +kernel
set_option maxRecDepth 100000 in
theorem okY_203 : okY 203 = true := by decide +kernel
set_option maxRecDepth 100000 in
theorem okM_204 : okM 204 = true := by decide +kernel
set_option maxRecDepth 100000 in
theorem okY_204 : okY 204 = true := by decide +kernel
set_option maxRecDepth 100000 in
theorem okM_205 : okM 205 = true := by decide +kernel
set_option maxRecDepth 100000 in
theorem okY_205 : okY 205 = true := by decide +kernel
set_option maxRecDepth 100000 in
theorem okM_206 : okM 206 = true := by decide +kernel
set_option maxRecDepth 100000 in
theorem okY_206 : okY 206 = true := by decide +kernel
set_option maxRecDepth 100000 in
theorem okM_207 : okM 207 = true := by decide +kernel
set_option maxRecDepth 100000 in
theorem okY_207 : okY 207 = true := by decide +kernel
set_option maxRecDepth 100000 in
theorem okM_208 : okM 208 = true := by decide +kernel
set_option maxRecDepth 100000 in
theorem okY_208 : okY 208 = true := by decide +kernel
