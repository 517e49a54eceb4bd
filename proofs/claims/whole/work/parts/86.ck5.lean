/-! Each instruction of each method, checked (written by program). -/
theorem bL_210 : bL 210 cd210 = true := by decide +kernel
theorem bL_211 : bL 211 cd211 = true := by decide +kernel
theorem bL_212 : bL 212 cd212 = true := by decide +kernel
theorem bL_213 : bL 213 cd213 = true := by decide +kernel
theorem bL_214 : bL 214 cd214 = true := by decide +kernel
theorem bL_215 : bL 215 cd215 = true := by decide +kernel
theorem bL_216 : bL 216 cd216 = true := by decide +kernel
theorem bL_217 : bL 217 cd217 = true := by decide +kernel
theorem bL_218 : bL 218 cd218 = true := by decide +kernel
theorem bL_219 : bL 219 cd219 = true := by decide +kernel
theorem bL_220 : bL 220 cd220 = true := by decide +kernel
theorem bL_221 : bL 221 cd221 = true := by decide +kernel
theorem bL_222 : bL 222 cd222 = true := by decide +kernel
theorem bL_223 : bL 223 cd223 = true := by decide +kernel
theorem bL_224 : bL 224 cd224 = true := by decide +kernel
theorem bL_225 : bL 225 cd225 = true := by decide +kernel
theorem bL_226 : bL 226 cd226 = true := by decide +kernel
theorem bL_227 : bL 227 cd227 = true := by decide +kernel
theorem bL_228 : bL 228 cd228 = true := by decide +kernel
theorem bL_229 : bL 229 cd229 = true := by decide +kernel
theorem bL_230 : bL 230 cd230 = true := by decide +kernel
theorem bL_231 : bL 231 cd231 = true := by decide +kernel
theorem bL_232 : bL 232 cd232 = true := by decide +kernel
theorem bL_233 : bL 233 cd233 = true := by decide +kernel
theorem bL_234 : bL 234 cd234 = true := by decide +kernel
theorem bL_235 : bL 235 cd235 = true := by decide +kernel
theorem bL_236 : bL 236 cd236 = true := by decide +kernel
theorem bL_237 : bL 237 cd237 = true := by decide +kernel
theorem bL_238 : bL 238 cd238 = true := by decide +kernel
theorem bL_239 : bL 239 cd239 = true := by decide +kernel
theorem bL_240 : bL 240 cd240 = true := by decide +kernel
theorem bL_241 : bL 241 cd241 = true := by decide +kernel
theorem bL_242 : bL 242 cd242 = true := by decide +kernel
theorem bL_243 : bL 243 cd243 = true := by decide +kernel
theorem bL_244 : bL 244 cd244 = true := by decide +kernel
theorem bM_210 : bM 210 = true := by decide +kernel
theorem bM_211 : bM 211 = true := by decide +kernel
theorem bM_212 : bM 212 = true := by decide +kernel
theorem bM_213 : bM 213 = true := by decide +kernel
theorem bM_214 : bM 214 = true := by decide +kernel
theorem bM_215 : bM 215 = true := by decide +kernel
theorem bM_216 : bM 216 = true := by decide +kernel
theorem bM_217 : bM 217 = true := by decide +kernel
theorem bM_218 : bM 218 = true := by decide +kernel
theorem bM_219 : bM 219 = true := by decide +kernel
theorem bM_220 : bM 220 = true := by decide +kernel
theorem bM_221 : bM 221 = true := by decide +kernel
theorem bM_222 : bM 222 = true := by decide +kernel
theorem bM_223 : bM 223 = true := by decide +kernel
theorem bM_224 : bM 224 = true := by decide +kernel
theorem bM_225 : bM 225 = true := by decide +kernel
theorem bM_226 : bM 226 = true := by decide +kernel
theorem bM_227 : bM 227 = true := by decide +kernel
theorem bM_228 : bM 228 = true := by decide +kernel
theorem bM_229 : bM 229 = true := by decide +kernel
theorem bM_230 : bM 230 = true := by decide +kernel
theorem bM_231 : bM 231 = true := by decide +kernel
theorem bM_232 : bM 232 = true := by decide +kernel
theorem bM_233 : bM 233 = true := by decide +kernel
theorem bM_234 : bM 234 = true := by decide +kernel
theorem bM_235 : bM 235 = true := by decide +kernel
theorem bM_236 : bM 236 = true := by decide +kernel
theorem bM_237 : bM 237 = true := by decide +kernel
theorem bM_238 : bM 238 = true := by decide +kernel
theorem bM_239 : bM 239 = true := by decide +kernel
theorem bM_240 : bM 240 = true := by decide +kernel
theorem bM_241 : bM 241 = true := by decide +kernel
theorem bM_242 : bM 242 = true := by decide +kernel
theorem bM_243 : bM 243 = true := by decide +kernel
theorem bM_244 : bM 244 = true := by decide +kernel
