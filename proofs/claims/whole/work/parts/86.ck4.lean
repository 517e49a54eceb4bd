/-! Each instruction of each method, checked (written by program). -/
theorem bL_167 : bL 167 cd167 = true := by decide +kernel
theorem bL_168 : bL 168 cd168 = true := by decide +kernel
theorem bL_169 : bL 169 cd169 = true := by decide +kernel
theorem bL_170 : bL 170 cd170 = true := by decide +kernel
theorem bL_171 : bL 171 cd171 = true := by decide +kernel
theorem bL_172 : bL 172 cd172 = true := by decide +kernel
theorem bL_173 : bL 173 cd173 = true := by decide +kernel
theorem bL_174 : bL 174 cd174 = true := by decide +kernel
theorem bL_175 : bL 175 cd175 = true := by decide +kernel
theorem bL_176 : bL 176 cd176 = true := by decide +kernel
theorem bL_177 : bL 177 cd177 = true := by decide +kernel
theorem bL_178 : bL 178 cd178 = true := by decide +kernel
theorem bL_179 : bL 179 cd179 = true := by decide +kernel
theorem bL_180 : bL 180 cd180 = true := by decide +kernel
theorem bL_181 : bL 181 cd181 = true := by decide +kernel
theorem bL_182 : bL 182 cd182 = true := by decide +kernel
theorem bL_183 : bL 183 cd183 = true := by decide +kernel
theorem bL_184 : bL 184 cd184 = true := by decide +kernel
theorem bL_185 : bL 185 cd185 = true := by decide +kernel
theorem bL_186 : bL 186 cd186 = true := by decide +kernel
theorem bL_187 : bL 187 cd187 = true := by decide +kernel
theorem bL_188 : bL 188 cd188 = true := by decide +kernel
theorem bL_189 : bL 189 cd189 = true := by decide +kernel
theorem bL_190 : bL 190 cd190 = true := by decide +kernel
theorem bL_191 : bL 191 cd191 = true := by decide +kernel
theorem bL_192 : bL 192 cd192 = true := by decide +kernel
theorem bL_193 : bL 193 cd193 = true := by decide +kernel
theorem bL_194 : bL 194 cd194 = true := by decide +kernel
theorem bL_195 : bL 195 cd195 = true := by decide +kernel
theorem bL_196 : bL 196 cd196 = true := by decide +kernel
theorem bL_197 : bL 197 cd197 = true := by decide +kernel
theorem bL_198 : bL 198 cd198 = true := by decide +kernel
theorem bL_199 : bL 199 cd199 = true := by decide +kernel
theorem bL_200 : bL 200 cd200 = true := by decide +kernel
theorem bL_201 : bL 201 cd201 = true := by decide +kernel
theorem bL_202 : bL 202 cd202 = true := by decide +kernel
theorem bL_203 : bL 203 cd203 = true := by decide +kernel
theorem bL_204 : bL 204 cd204 = true := by decide +kernel
theorem bL_205 : bL 205 cd205 = true := by decide +kernel
theorem bL_206 : bL 206 cd206 = true := by decide +kernel
theorem bL_207 : bL 207 cd207 = true := by decide +kernel
theorem bL_208 : bL 208 cd208 = true := by decide +kernel
theorem bL_209 : bL 209 cd209 = true := by decide +kernel
theorem bM_167 : bM 167 = true := by decide +kernel
theorem bM_168 : bM 168 = true := by decide +kernel
theorem bM_169 : bM 169 = true := by decide +kernel
theorem bM_170 : bM 170 = true := by decide +kernel
theorem bM_171 : bM 171 = true := by decide +kernel
theorem bM_172 : bM 172 = true := by decide +kernel
theorem bM_173 : bM 173 = true := by decide +kernel
theorem bM_174 : bM 174 = true := by decide +kernel
theorem bM_175 : bM 175 = true := by decide +kernel
theorem bM_176 : bM 176 = true := by decide +kernel
theorem bM_177 : bM 177 = true := by decide +kernel
theorem bM_178 : bM 178 = true := by decide +kernel
theorem bM_179 : bM 179 = true := by decide +kernel
theorem bM_180 : bM 180 = true := by decide +kernel
theorem bM_181 : bM 181 = true := by decide +kernel
theorem bM_182 : bM 182 = true := by decide +kernel
theorem bM_183 : bM 183 = true := by decide +kernel
theorem bM_184 : bM 184 = true := by decide +kernel
theorem bM_185 : bM 185 = true := by decide +kernel
theorem bM_186 : bM 186 = true := by decide +kernel
theorem bM_187 : bM 187 = true := by decide +kernel
theorem bM_188 : bM 188 = true := by decide +kernel
theorem bM_189 : bM 189 = true := by decide +kernel
theorem bM_190 : bM 190 = true := by decide +kernel
theorem bM_191 : bM 191 = true := by decide +kernel
theorem bM_192 : bM 192 = true := by decide +kernel
theorem bM_193 : bM 193 = true := by decide +kernel
theorem bM_194 : bM 194 = true := by decide +kernel
theorem bM_195 : bM 195 = true := by decide +kernel
theorem bM_196 : bM 196 = true := by decide +kernel
theorem bM_197 : bM 197 = true := by decide +kernel
theorem bM_198 : bM 198 = true := by decide +kernel
theorem bM_199 : bM 199 = true := by decide +kernel
theorem bM_200 : bM 200 = true := by decide +kernel
theorem bM_201 : bM 201 = true := by decide +kernel
theorem bM_202 : bM 202 = true := by decide +kernel
theorem bM_203 : bM 203 = true := by decide +kernel
theorem bM_204 : bM 204 = true := by decide +kernel
theorem bM_205 : bM 205 = true := by decide +kernel
theorem bM_206 : bM 206 = true := by decide +kernel
theorem bM_207 : bM 207 = true := by decide +kernel
theorem bM_208 : bM 208 = true := by decide +kernel
theorem bM_209 : bM 209 = true := by decide +kernel
