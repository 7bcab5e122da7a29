set_option maxRecDepth 100000 in
theorem okM_142 : okM 142 = true := by decide +kernel
set_option maxRecDepth 100000 in
theorem okY_142 : okY 142 = true := by decide +kernel
set_option maxRecDepth 100000 in
theorem okM_143 : okM 143 = true := by decide +kernel
set_option maxRecDepth 100000 in
theorem okY_143 : okY 143 = true := by decide +kernel
set_option maxRecDepth 100000 in
theorem okM_144 : okM 144 = true := by decide +kernel
set_option maxRecDepth 100000 in
theorem okY_144 : okY 144 = true := by decide +kernel
set_option maxRecDepth 100000 in
theorem okM_145 : okM 145 = true := by decide +kernel
set_option maxRecDepth 100000 in
theorem okY_145 : okY 145 = true := by decide +kernel
set_option maxRecDepth 100000 in
theorem okM_146 : okM 146 = true := by decide +kernel
set_option maxRecDepth 100000 in
theorem okY_146 : okY 146 = true := by decide +kernel
set_option maxRecDepth 100000 in
theorem okM_147 : okM 147 = true := by decide +kernel
set_option maxRecDepth 100000 in
theorem okY_147 : okY 147 = true := by decide +kernel
set_option maxRecDepth 100000 in
theorem okM_148 : okM 148 = true := by decide +kernel
set_option maxRecDepth 100000 in
theorem okY_148 : okY 148 = true := by decide +kernel
set_option maxRecDepth 100000 in
theorem okM_149 : okM 149 = true := by decide +kernel
set_option maxRecDepth 100000 in
theorem okY_149 : okY 149 = true := by decide +kernel
set_option maxRecDepth 100000 in
theorem okM_150 : okM 150 = true := by decide +kernel
set_option maxRecDepth 100000 in
theorem okY_150 : okY 150 = true := by decide +kernel
set_option maxRecDepth 100000 in
theorem okM_151 : okM 151 = true := by decide +kernel
set_option maxRecDepth 100000 in
theorem okY_151 : okY 151 = true := by decide +kernel
set_option maxRecDepth 100000 in
theorem okM_152 : okM 152 = true := by decide +kernel
set_option maxRecDepth 100000 in
theorem okY_152 : okY 152 = true := by decide +kernel
set_option maxRecDepth 100000 in
theorem okM_153 : okM 153 = true := by decide +kernel
set_option maxRecDepth 100000 in
theorem okY_153 : okY 153 = true := by decide +kernel
set_option maxRecDepth 100000 in
theorem okM_154 : okM 154 = true := by decide +kernel
set_option maxRecDepth 100000 in
theorem okY_154 : okY 154 = true := by decide +kernel
set_option maxRecDepth 100000 in
theorem okM_155 : okM 155 = true := by decide +kernel
set_option maxRecDepth 100000 in
theorem okY_155 : okY 155 = true := by decide +kernel
set_option maxRecDepth 100000 in
theorem okM_156 : okM 156 = true := by decide +kernel
set_option maxRecDepth 100000 in
theorem okY_156 : okY 156 = true := by decide +kernel
set_option maxRecDepth 100000 in
theorem okM_157 : okM 157 = true := by decide +kernel
set_option maxRecDepth 100000 in
theorem okY_157 : okY 157 = true := by decide +kernel
set_option maxRecDepth 100000 in
theorem okM_158 : okM 158 = true := by decide +kernel
set_option maxRecDepth 100000 in
theorem okY_158 : okY 158 = true := by decide +kernel
set_option maxRecDepth 100000 in
theorem okM_159 : okM 159 = true := by decide +kernel
set_option maxRecDepth 100000 in
theorem okY_159 : okY 159 = true := by decide +kernel
set_option maxRecDepth 100000 in
theorem okM_160 : okM 160 = true := by decide +kernel
set_option maxRecDepth 100000 in
theorem okY_160 : okY 160 = true := by decide +kernel
set_option maxRecDepth 100000 in
theorem okM_161 : okM 161 = true := by decide +kernel
set_option maxRecDepth 100000 in
theorem okY_161 : okY 161 = true := by decide +kernel
set_option maxRecDepth 100000 in
theorem okM_162 : okM 162 = true := by decide +kernel
set_option maxRecDepth 100000 in
theorem okY_162 : okY 162 = true := by decide +kernel
set_option maxRecDepth 100000 in
theorem okM_163 : okM 163 = true := by decide +kernel
set_option maxRecDepth 100000 in
theorem okY_163 : okY 163 = true := by decide +kernel
set_option maxRecDepth 100000 in
theorem okM_164 : okM 164 = true := by decide +kernel
set_option maxRecDepth 100000 in
theorem okY_164 : okY 164 = true := by decide +kernel
set_option maxRecDepth 100000 in
theorem okM_165 : okM 165 = true := by decide +kernel
set_option maxRecDepth 100000 in
theorem okY_165 : okY 165 = true := by decide +kernel
set_option maxRecDepth 100000 in
theorem okM_166 : okM 166 = true := by decide +kernel
set_option maxRecDepth 100000 in
theorem okY_166 : okY 166 = true := by decide +kernel
set_option maxRecDepth 100000 in
theorem okM_167 : okM 167 = true := by decide +kernel
set_option maxRecDepth 100000 in
theorem okY_167 : okY 167 = true := by decide +kernel
set_option maxRecDepth 100000 in
theorem okM_168 : okM 168 = true := by decide +kernel
set_option maxRecDepth 100000 in
theorem okY_168 : okY 168 = true := by decide +kernel
set_option maxRecDepth 100000 in
theorem okM_169 : okM 169 = true := by decide +kernel
set_option maxRecDepth 100000 in
theorem okY_169 : okY 169 = true := by decide +kernel
set_option maxRecDepth 100000 in
theorem okM_170 : okM 170 = true := by decide +kernel
set_option maxRecDepth 100000 in
theorem okY_170 : okY 170 = true := by decide +kernel
set_option maxRecDepth 100000 in
theorem okM_171 : okM 171 = true := by decide +kernel
set_option maxRecDepth 100000 in
theorem okY_171 : okY 171 = true := by decide +kernel
set_option maxRecDepth 100000 in
theorem okM_172 : okM 172 = true := by decide +kernel
set_option maxRecDepth 100000 in
theorem okY_172 : okY 172 = true := by decide +kernel
set_option maxRecDepth 100000 in
theorem okM_173 : okM 173 = true := by decide +kernel
set_option maxRecDepth 100000 in
theorem okY_173 : okY 173 = true := by decide +kernel
set_option maxRecDepth 100000 in
theorem okM_174 : okM 174 = true := by decide +kernel
set_option maxRecDepth 100000 in
theorem okY_174 : okY 174 = true := by decide +kernel
set_option maxRecDepth 100000 in
theorem okM_175 : okM 175 = true := by decide +kernel
set_option maxRecDepth 100000 in
theorem okY_175 : okY 175 = true := by decide +kernel
set_option maxRecDepth 100000 in
theorem okM_176 : okM 176 = true := by decide +kernel
set_option maxRecDepth 100000 in
theorem okY_176 : okY 176 = true := by decide +kernel
