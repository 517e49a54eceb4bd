/-! Each instruction of each method, checked (written by program). -/
theorem bL_280 : bL 280 cd280 = true := by decide +kernel
theorem bL_281 : bL 281 cd281 = true := by decide +kernel
theorem bL_282 : bL 282 cd282 = true := by decide +kernel
theorem bL_283 : bL 283 cd283 = true := by decide +kernel
theorem bL_284 : bL 284 cd284 = true := by decide +kernel
theorem bL_285 : bL 285 cd285 = true := by decide +kernel
theorem bL_286 : bL 286 cd286 = true := by decide +kernel
theorem bL_287 : bL 287 cd287 = true := by decide +kernel
theorem bL_288 : bL 288 cd288 = true := by decide +kernel
theorem bL_289 : bL 289 cd289 = true := by decide +kernel
theorem bL_290 : bL 290 cd290 = true := by decide +kernel
theorem bL_291 : bL 291 cd291 = true := by decide +kernel
theorem bL_292 : bL 292 cd292 = true := by decide +kernel
theorem bL_293 : bL 293 cd293 = true := by decide +kernel
theorem bL_294 : bL 294 cd294 = true := by decide +kernel
theorem bL_295 : bL 295 cd295 = true := by decide +kernel
theorem bL_296 : bL 296 cd296 = true := by decide +kernel
theorem bL_297 : bL 297 cd297 = true := by decide +kernel
theorem bL_298 : bL 298 cd298 = true := by decide +kernel
theorem bL_299 : bL 299 cd299 = true := by decide +kernel
theorem bL_300 : bL 300 cd300 = true := by decide +kernel
theorem bM_280 : bM 280 = true := by decide +kernel
theorem bM_281 : bM 281 = true := by decide +kernel
theorem bM_282 : bM 282 = true := by decide +kernel
theorem bM_283 : bM 283 = true := by decide +kernel
theorem bM_284 : bM 284 = true := by decide +kernel
theorem bM_285 : bM 285 = true := by decide +kernel
theorem bM_286 : bM 286 = true := by decide +kernel
theorem bM_287 : bM 287 = true := by decide +kernel
theorem bM_288 : bM 288 = true := by decide +kernel
theorem bM_289 : bM 289 = true := by decide +kernel
theorem bM_290 : bM 290 = true := by decide +kernel
theorem bM_291 : bM 291 = true := by decide +kernel
theorem bM_292 : bM 292 = true := by decide +kernel
theorem bM_293 : bM 293 = true := by decide +kernel
theorem bM_294 : bM 294 = true := by decide +kernel
theorem bM_295 : bM 295 = true := by decide +kernel
theorem bM_296 : bM 296 = true := by decide +kernel
theorem bM_297 : bM 297 = true := by decide +kernel
theorem bM_298 : bM 298 = true := by decide +kernel
theorem bM_299 : bM 299 = true := by decide +kernel
theorem bM_300 : bM 300 = true := by decide +kernel
