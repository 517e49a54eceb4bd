/-! Each instruction of each method, checked (written by program). -/
theorem bL_245 : bL 245 cd245 = true := by decide +kernel
theorem bL_246 : bL 246 cd246 = true := by decide +kernel
theorem bL_247 : bL 247 cd247 = true := by decide +kernel
theorem bL_248 : bL 248 cd248 = true := by decide +kernel
theorem bL_249 : bL 249 cd249 = true := by decide +kernel
theorem bL_250 : bL 250 cd250 = true := by decide +kernel
theorem bL_251 : bL 251 cd251 = true := by decide +kernel
theorem bL_252 : bL 252 cd252 = true := by decide +kernel
theorem bL_253 : bL 253 cd253 = true := by decide +kernel
theorem bL_254 : bL 254 cd254 = true := by decide +kernel
theorem bL_255 : bL 255 cd255 = true := by decide +kernel
theorem bL_256 : bL 256 cd256 = true := by decide +kernel
theorem bL_257 : bL 257 cd257 = true := by decide +kernel
theorem bL_258 : bL 258 cd258 = true := by decide +kernel
theorem bL_259 : bL 259 cd259 = true := by decide +kernel
theorem bL_260 : bL 260 cd260 = true := by decide +kernel
theorem bL_261 : bL 261 cd261 = true := by decide +kernel
theorem bL_262 : bL 262 cd262 = true := by decide +kernel
theorem bL_263 : bL 263 cd263 = true := by decide +kernel
theorem bL_264 : bL 264 cd264 = true := by decide +kernel
theorem bL_265 : bL 265 cd265 = true := by decide +kernel
theorem bL_266 : bL 266 cd266 = true := by decide +kernel
theorem bL_267 : bL 267 cd267 = true := by decide +kernel
theorem bL_268 : bL 268 cd268 = true := by decide +kernel
theorem bL_269 : bL 269 cd269 = true := by decide +kernel
theorem bL_270 : bL 270 cd270 = true := by decide +kernel
theorem bL_271 : bL 271 cd271 = true := by decide +kernel
theorem bL_272 : bL 272 cd272 = true := by decide +kernel
theorem bL_273 : bL 273 cd273 = true := by decide +kernel
theorem bL_274 : bL 274 cd274 = true := by decide +kernel
theorem bL_275 : bL 275 cd275 = true := by decide +kernel
theorem bL_276 : bL 276 cd276 = true := by decide +kernel
theorem bL_277 : bL 277 cd277 = true := by decide +kernel
theorem bL_278 : bL 278 cd278 = true := by decide +kernel
theorem bL_279 : bL 279 cd279 = true := by decide +kernel
theorem bM_245 : bM 245 = true := by decide +kernel
theorem bM_246 : bM 246 = true := by decide +kernel
theorem bM_247 : bM 247 = true := by decide +kernel
theorem bM_248 : bM 248 = true := by decide +kernel
theorem bM_249 : bM 249 = true := by decide +kernel
theorem bM_250 : bM 250 = true := by decide +kernel
theorem bM_251 : bM 251 = true := by decide +kernel
theorem bM_252 : bM 252 = true := by decide +kernel
theorem bM_253 : bM 253 = true := by decide +kernel
theorem bM_254 : bM 254 = true := by decide +kernel
theorem bM_255 : bM 255 = true := by decide +kernel
theorem bM_256 : bM 256 = true := by decide +kernel
theorem bM_257 : bM 257 = true := by decide +kernel
theorem bM_258 : bM 258 = true := by decide +kernel
theorem bM_259 : bM 259 = true := by decide +kernel
theorem bM_260 : bM 260 = true := by decide +kernel
theorem bM_261 : bM 261 = true := by decide +kernel
theorem bM_262 : bM 262 = true := by decide +kernel
theorem bM_263 : bM 263 = true := by decide +kernel
theorem bM_264 : bM 264 = true := by decide +kernel
theorem bM_265 : bM 265 = true := by decide +kernel
theorem bM_266 : bM 266 = true := by decide +kernel
theorem bM_267 : bM 267 = true := by decide +kernel
theorem bM_268 : bM 268 = true := by decide +kernel
theorem bM_269 : bM 269 = true := by decide +kernel
theorem bM_270 : bM 270 = true := by decide +kernel
theorem bM_271 : bM 271 = true := by decide +kernel
theorem bM_272 : bM 272 = true := by decide +kernel
theorem bM_273 : bM 273 = true := by decide +kernel
theorem bM_274 : bM 274 = true := by decide +kernel
theorem bM_275 : bM 275 = true := by decide +kernel
theorem bM_276 : bM 276 = true := by decide +kernel
theorem bM_277 : bM 277 = true := by decide +kernel
theorem bM_278 : bM 278 = true := by decide +kernel
theorem bM_279 : bM 279 = true := by decide +kernel
