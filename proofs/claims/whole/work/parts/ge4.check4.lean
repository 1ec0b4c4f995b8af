/-! more checks -/
set_option maxRecDepth 100000 in
theorem tn_240 : tx_chkM lw_tbl "ContentRules$Speller" tm_240 = true := by decide +kernel
set_option maxRecDepth 100000 in
theorem tn_241 : tx_chkM lw_tbl "ContentRules$Walk" tm_241 = true := by decide +kernel
set_option maxRecDepth 100000 in
theorem tn_242 : tx_chkM lw_tbl "ContentRules$Walk" tm_242 = true := by decide +kernel
set_option maxRecDepth 100000 in
theorem tn_243 : tx_chkM lw_tbl "ContentRules$Walk" tm_243 = true := by decide +kernel
set_option maxRecDepth 100000 in
theorem tn_244 : tx_chkM lw_tbl "ContentRules$Walk" tm_244 = true := by decide +kernel
set_option maxRecDepth 100000 in
theorem tn_245 : tx_chkM lw_tbl "ContentRules$Walk" tm_245 = true := by decide +kernel
set_option maxRecDepth 100000 in
theorem tn_246 : tx_chkM lw_tbl "ContentRules$Walk" tm_246 = true := by decide +kernel
set_option maxRecDepth 100000 in
theorem tn_247 : tx_chkM lw_tbl "ContentRules$Walk" tm_247 = true := by decide +kernel
set_option maxRecDepth 100000 in
theorem tn_248 : tx_chkM lw_tbl "ContentRules$Walk" tm_248 = true := by decide +kernel
set_option maxRecDepth 100000 in
theorem tn_249 : tx_chkM lw_tbl "ContentRules$Walk" tm_249 = true := by decide +kernel
set_option maxRecDepth 100000 in
theorem tn_250 : tx_chkM lw_tbl "ContentRules$Walk" tm_250 = true := by decide +kernel
set_option maxRecDepth 100000 in
theorem tn_251 : tx_chkM lw_tbl "ContentRules$Walk" tm_251 = true := by decide +kernel
set_option maxRecDepth 100000 in
theorem tn_252 : tx_chkM lw_tbl "ContentRules$Walk" tm_252 = true := by decide +kernel
set_option maxRecDepth 100000 in
theorem tn_253 : tx_chkM lw_tbl "ContentRules$Walk" tm_253 = true := by decide +kernel
set_option maxRecDepth 100000 in
theorem tn_254 : tx_chkM lw_tbl "ContentRules$Walk" tm_254 = true := by decide +kernel
set_option maxRecDepth 100000 in
theorem tn_255 : tx_chkM lw_tbl "ContentRules$Walk" tm_255 = true := by decide +kernel
set_option maxRecDepth 100000 in
theorem tn_256 : tx_chkM lw_tbl "ContentRules$Walk" tm_256 = true := by decide +kernel
set_option maxRecDepth 100000 in
theorem tn_257 : tx_chkM lw_tbl "ContentRules$Walk" tm_257 = true := by decide +kernel
set_option maxRecDepth 100000 in
theorem tn_258 : tx_chkM lw_tbl "ContentRules$Ways" tm_258 = true := by decide +kernel
set_option maxRecDepth 100000 in
theorem tn_259 : tx_chkM lw_tbl "ContentRules$Ways" tm_259 = true := by decide +kernel
set_option maxRecDepth 100000 in
theorem tn_260 : tx_chkM lw_tbl "ContentRules$Ways" tm_260 = true := by decide +kernel
set_option maxRecDepth 100000 in
theorem tn_261 : tx_chkM lw_tbl "ContentRules$Ways" tm_261 = true := by decide +kernel
set_option maxRecDepth 100000 in
theorem tn_262 : tx_chkM lw_tbl "ContentRules$Ways" tm_262 = true := by decide +kernel
set_option maxRecDepth 100000 in
theorem tn_263 : tx_chkM lw_tbl "ContentRules$Ways" tm_263 = true := by decide +kernel
set_option maxRecDepth 100000 in
theorem tn_264 : tx_chkM lw_tbl "ContentRules$Ways" tm_264 = true := by decide +kernel
set_option maxRecDepth 100000 in
theorem tn_265 : tx_chkM lw_tbl "ContentRules$Ways" tm_265 = true := by decide +kernel
set_option maxRecDepth 100000 in
theorem tn_266 : tx_chkM lw_tbl "ContentRules$Ways" tm_266 = true := by decide +kernel
set_option maxRecDepth 100000 in
theorem tn_267 : tx_chkM lw_tbl "ContentRules$Ways" tm_267 = true := by decide +kernel
set_option maxRecDepth 100000 in
theorem tn_268 : tx_chkM lw_tbl "ContentRules$Ways" tm_268 = true := by decide +kernel
set_option maxRecDepth 100000 in
theorem tn_269 : tx_chkM lw_tbl "ContentRules$Ways" tm_269 = true := by decide +kernel
set_option maxRecDepth 100000 in
theorem tn_270 : tx_chkM lw_tbl "ContentRules$Ways" tm_270 = true := by decide +kernel
set_option maxRecDepth 100000 in
theorem tn_271 : tx_chkM lw_tbl "ContentRules$Ways" tm_271 = true := by decide +kernel
set_option maxRecDepth 100000 in
theorem tn_272 : tx_chkM lw_tbl "ContentRules$Ways" tm_272 = true := by decide +kernel
set_option maxRecDepth 100000 in
theorem tn_273 : tx_chkM lw_tbl "ContentRules$Ways" tm_273 = true := by decide +kernel
set_option maxRecDepth 100000 in
theorem tn_274 : tx_chkM lw_tbl "ContentRules$Ways" tm_274 = true := by decide +kernel
set_option maxRecDepth 100000 in
theorem tn_275 : tx_chkM lw_tbl "ContentRules$Witness" tm_275 = true := by decide +kernel
set_option maxRecDepth 100000 in
theorem tn_276 : tx_chkM lw_tbl "ContentRules$Witness" tm_276 = true := by decide +kernel
set_option maxRecDepth 100000 in
theorem tn_277 : tx_chkM lw_tbl "ContentRules$Witness" tm_277 = true := by decide +kernel
set_option maxRecDepth 100000 in
theorem tn_278 : tx_chkM lw_tbl "ContentRules$Witness" tm_278 = true := by decide +kernel
set_option maxRecDepth 100000 in
theorem tn_279 : tx_chkM lw_tbl "ContentRules$Witness" tm_279 = true := by decide +kernel
set_option maxRecDepth 100000 in
theorem tn_280 : tx_chkM lw_tbl "ContentRules$Witness" tm_280 = true := by decide +kernel
set_option maxRecDepth 100000 in
theorem tn_281 : tx_chkM lw_tbl "ContentRules$Witness" tm_281 = true := by decide +kernel
set_option maxRecDepth 100000 in
theorem tn_282 : tx_chkM lw_tbl "ContentRules" tm_282 = true := by decide +kernel
set_option maxRecDepth 100000 in
theorem tn_283 : tx_chkM lw_tbl "ContentRules" tm_283 = true := by decide +kernel
set_option maxRecDepth 100000 in
theorem tn_284 : tx_chkM lw_tbl "ContentRules" tm_284 = true := by decide +kernel
set_option maxRecDepth 100000 in
theorem tn_285 : tx_chkM lw_tbl "ContentRules" tm_285 = true := by decide +kernel
set_option maxRecDepth 100000 in
theorem tn_286 : tx_chkM lw_tbl "ContentRules" tm_286 = true := by decide +kernel
set_option maxRecDepth 100000 in
theorem tn_287 : tx_chkM lw_tbl "ContentRules" tm_287 = true := by decide +kernel
set_option maxRecDepth 100000 in
theorem tn_288 : tx_chkM lw_tbl "ContentRules" tm_288 = true := by decide +kernel
set_option maxRecDepth 100000 in
theorem tn_289 : tx_chkM lw_tbl "ContentRules" tm_289 = true := by decide +kernel
set_option maxRecDepth 100000 in
theorem tn_290 : tx_chkM lw_tbl "ContentRules" tm_290 = true := by decide +kernel
set_option maxRecDepth 100000 in
theorem tn_291 : tx_chkM lw_tbl "ContentRules" tm_291 = true := by decide +kernel
set_option maxRecDepth 100000 in
theorem tn_292 : tx_chkM lw_tbl "ContentRules" tm_292 = true := by decide +kernel
set_option maxRecDepth 100000 in
theorem tn_293 : tx_chkM lw_tbl "ContentRules" tm_293 = true := by decide +kernel
set_option maxRecDepth 100000 in
theorem tn_294 : tx_chkM lw_tbl "ContentRules" tm_294 = true := by decide +kernel
set_option maxRecDepth 100000 in
theorem tn_295 : tx_chkM lw_tbl "ContentRules" tm_295 = true := by decide +kernel
set_option maxRecDepth 100000 in
theorem tn_296 : tx_chkM lw_tbl "ContentRules" tm_296 = true := by decide +kernel
set_option maxRecDepth 100000 in
theorem tn_297 : tx_chkM lw_tbl "ContentRules" tm_297 = true := by decide +kernel
set_option maxRecDepth 100000 in
theorem tn_298 : tx_chkM lw_tbl "ContentRules" tm_298 = true := by decide +kernel
set_option maxRecDepth 100000 in
theorem tn_299 : tx_chkM lw_tbl "ContentRules" tm_299 = true := by decide +kernel
set_option maxRecDepth 100000 in
theorem tn_300 : tx_chkM lw_tbl "ContentRules" tm_300 = true := by decide +kernel
set_option maxRecDepth 100000 in
theorem tn_301 : tx_chkM lw_tbl "ContentRules" tm_301 = true := by decide +kernel
set_option maxRecDepth 100000 in
theorem tn_302 : tx_chkM lw_tbl "ContentRules" tm_302 = true := by decide +kernel
set_option maxRecDepth 100000 in
theorem tn_303 : tx_chkM lw_tbl "ContentRules" tm_303 = true := by decide +kernel
set_option maxRecDepth 100000 in
theorem tn_304 : tx_chkM lw_tbl "ContentRules" tm_304 = true := by decide +kernel
set_option maxRecDepth 100000 in
theorem tn_305 : tx_chkM lw_tbl "ContentRules" tm_305 = true := by decide +kernel
set_option maxRecDepth 100000 in
theorem tn_306 : tx_chkM lw_tbl "ContentRules" tm_306 = true := by decide +kernel
set_option maxRecDepth 100000 in
theorem tn_307 : tx_chkM lw_tbl "ContentRules" tm_307 = true := by decide +kernel
set_option maxRecDepth 100000 in
theorem tn_308 : tx_chkM lw_tbl "ContentRules" tm_308 = true := by decide +kernel
set_option maxRecDepth 100000 in
theorem tn_309 : tx_chkM lw_tbl "ContentRules" tm_309 = true := by decide +kernel
set_option maxRecDepth 100000 in
theorem tn_310 : tx_chkM lw_tbl "ContentRules" tm_310 = true := by decide +kernel
set_option maxRecDepth 100000 in
theorem tn_311 : tx_chkM lw_tbl "ContentRules" tm_311 = true := by decide +kernel
set_option maxRecDepth 100000 in
theorem tn_312 : tx_chkM lw_tbl "ContentRules" tm_312 = true := by decide +kernel
set_option maxRecDepth 100000 in
theorem tn_313 : tx_chkM lw_tbl "ContentRules" tm_313 = true := by decide +kernel
set_option maxRecDepth 100000 in
theorem tn_314 : tx_chkM lw_tbl "ContentRules" tm_314 = true := by decide +kernel
set_option maxRecDepth 100000 in
theorem tn_315 : tx_chkM lw_tbl "ContentRules" tm_315 = true := by decide +kernel
