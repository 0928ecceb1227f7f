/-! The tables hold: decided by the kernel. -/
set_option maxRecDepth 100000 in
theorem ck_260 : (chkM 260 && chkR 260 && (List.range (cln 260)).all (fun pc => chkP 260 pc)) = true := by decide +kernel
set_option maxRecDepth 100000 in
theorem ck_261 : (chkM 261 && chkR 261 && (List.range (cln 261)).all (fun pc => chkP 261 pc)) = true := by decide +kernel
set_option maxRecDepth 100000 in
theorem ck_262 : (chkM 262 && chkR 262 && (List.range (cln 262)).all (fun pc => chkP 262 pc)) = true := by decide +kernel
set_option maxRecDepth 100000 in
theorem ck_263 : (chkM 263 && chkR 263 && (List.range (cln 263)).all (fun pc => chkP 263 pc)) = true := by decide +kernel
set_option maxRecDepth 100000 in
theorem ck_264 : (chkM 264 && chkR 264 && (List.range (cln 264)).all (fun pc => chkP 264 pc)) = true := by decide +kernel
set_option maxRecDepth 100000 in
theorem ck_265 : (chkM 265 && chkR 265 && (List.range (cln 265)).all (fun pc => chkP 265 pc)) = true := by decide +kernel
set_option maxRecDepth 100000 in
theorem ck_266 : (chkM 266 && chkR 266 && (List.range (cln 266)).all (fun pc => chkP 266 pc)) = true := by decide +kernel
set_option maxRecDepth 100000 in
theorem ck_267 : (chkM 267 && chkR 267 && (List.range (cln 267)).all (fun pc => chkP 267 pc)) = true := by decide +kernel
set_option maxRecDepth 100000 in
theorem ck_268 : (chkM 268 && chkR 268 && (List.range (cln 268)).all (fun pc => chkP 268 pc)) = true := by decide +kernel
set_option maxRecDepth 100000 in
theorem ck_269 : (chkM 269 && chkR 269 && (List.range (cln 269)).all (fun pc => chkP 269 pc)) = true := by decide +kernel
set_option maxRecDepth 100000 in
theorem ck_270 : (chkM 270 && chkR 270 && (List.range (cln 270)).all (fun pc => chkP 270 pc)) = true := by decide +kernel
set_option maxRecDepth 100000 in
theorem ck_271 : (chkM 271 && chkR 271 && (List.range (cln 271)).all (fun pc => chkP 271 pc)) = true := by decide +kernel
set_option maxRecDepth 100000 in
theorem ck_272 : (chkM 272 && chkR 272 && (List.range (cln 272)).all (fun pc => chkP 272 pc)) = true := by decide +kernel
set_option maxRecDepth 100000 in
theorem ck_273 : (chkM 273 && chkR 273 && (List.range (cln 273)).all (fun pc => chkP 273 pc)) = true := by decide +kernel
set_option maxRecDepth 100000 in
theorem ck_274 : (chkM 274 && chkR 274 && (List.range (cln 274)).all (fun pc => chkP 274 pc)) = true := by decide +kernel
set_option maxRecDepth 100000 in
theorem ck_275 : (chkM 275 && chkR 275 && (List.range (cln 275)).all (fun pc => chkP 275 pc)) = true := by decide +kernel
set_option maxRecDepth 100000 in
theorem ck_276 : (chkM 276 && chkR 276 && (List.range (cln 276)).all (fun pc => chkP 276 pc)) = true := by decide +kernel
set_option maxRecDepth 100000 in
theorem ck_277 : (chkM 277 && chkR 277 && (List.range (cln 277)).all (fun pc => chkP 277 pc)) = true := by decide +kernel
set_option maxRecDepth 100000 in
theorem ck_278 : (chkM 278 && chkR 278 && (List.range (cln 278)).all (fun pc => chkP 278 pc)) = true := by decide +kernel
set_option maxRecDepth 100000 in
theorem ck_279 : (chkM 279 && chkR 279 && (List.range (cln 279)).all (fun pc => chkP 279 pc)) = true := by decide +kernel
set_option maxRecDepth 100000 in
theorem ck_280 : (chkM 280 && chkR 280 && (List.range (cln 280)).all (fun pc => chkP 280 pc)) = true := by decide +kernel
set_option maxRecDepth 100000 in
theorem ck_281 : (chkM 281 && chkR 281 && (List.range (cln 281)).all (fun pc => chkP 281 pc)) = true := by decide +kernel
set_option maxRecDepth 100000 in
theorem ck_282 : (chkM 282 && chkR 282 && (List.range (cln 282)).all (fun pc => chkP 282 pc)) = true := by decide +kernel
set_option maxRecDepth 100000 in
theorem ck_283 : (chkM 283 && chkR 283 && (List.range (cln 283)).all (fun pc => chkP 283 pc)) = true := by decide +kernel
set_option maxRecDepth 100000 in
theorem ck_284 : (chkM 284 && chkR 284 && (List.range (cln 284)).all (fun pc => chkP 284 pc)) = true := by decide +kernel
set_option maxRecDepth 100000 in
theorem ck_285 : (chkM 285 && chkR 285 && (List.range (cln 285)).all (fun pc => chkP 285 pc)) = true := by decide +kernel
set_option maxRecDepth 100000 in
theorem ck_286 : (chkM 286 && chkR 286 && (List.range (cln 286)).all (fun pc => chkP 286 pc)) = true := by decide +kernel
set_option maxRecDepth 100000 in
theorem ck_287 : (chkM 287 && chkR 287 && (List.range (cln 287)).all (fun pc => chkP 287 pc)) = true := by decide +kernel
set_option maxRecDepth 100000 in
theorem ck_288 : (chkM 288 && chkR 288 && (List.range (cln 288)).all (fun pc => chkP 288 pc)) = true := by decide +kernel
set_option maxRecDepth 100000 in
theorem ck_289 : (chkM 289 && chkR 289 && (List.range (cln 289)).all (fun pc => chkP 289 pc)) = true := by decide +kernel
set_option maxRecDepth 100000 in
theorem ck_290 : (chkM 290 && chkR 290 && (List.range (cln 290)).all (fun pc => chkP 290 pc)) = true := by decide +kernel
set_option maxRecDepth 100000 in
theorem ck_291 : (chkM 291 && chkR 291 && (List.range (cln 291)).all (fun pc => chkP 291 pc)) = true := by decide +kernel
set_option maxRecDepth 100000 in
theorem ck_292 : (chkM 292 && chkR 292 && (List.range (cln 292)).all (fun pc => chkP 292 pc)) = true := by decide +kernel
set_option maxRecDepth 100000 in
theorem ck_293 : (chkM 293 && chkR 293 && (List.range (cln 293)).all (fun pc => chkP 293 pc)) = true := by decide +kernel
set_option maxRecDepth 100000 in
theorem ck_294 : (chkM 294 && chkR 294 && (List.range (cln 294)).all (fun pc => chkP 294 pc)) = true := by decide +kernel
set_option maxRecDepth 100000 in
theorem ck_295 : (chkM 295 && chkR 295 && (List.range (cln 295)).all (fun pc => chkP 295 pc)) = true := by decide +kernel
set_option maxRecDepth 100000 in
theorem ck_296 : (chkM 296 && chkR 296 && (List.range (cln 296)).all (fun pc => chkP 296 pc)) = true := by decide +kernel
set_option maxRecDepth 100000 in
theorem ck_297 : (chkM 297 && chkR 297 && (List.range (cln 297)).all (fun pc => chkP 297 pc)) = true := by decide +kernel
set_option maxRecDepth 100000 in
theorem ck_298 : (chkM 298 && chkR 298 && (List.range (cln 298)).all (fun pc => chkP 298 pc)) = true := by decide +kernel
set_option maxRecDepth 100000 in
theorem ck_299 : (chkM 299 && chkR 299 && (List.range (cln 299)).all (fun pc => chkP 299 pc)) = true := by decide +kernel
set_option maxRecDepth 100000 in
theorem ck_300 : (chkM 300 && chkR 300 && (List.range (cln 300)).all (fun pc => chkP 300 pc)) = true := by decide +kernel
set_option maxRecDepth 100000 in
theorem ck_301 : (chkM 301 && chkR 301 && (List.range (cln 301)).all (fun pc => chkP 301 pc)) = true := by decide +kernel
set_option maxRecDepth 100000 in
theorem ck_302 : (chkM 302 && chkR 302 && (List.range (cln 302)).all (fun pc => chkP 302 pc)) = true := by decide +kernel
set_option maxRecDepth 100000 in
theorem ck_303 : (chkM 303 && chkR 303 && (List.range (cln 303)).all (fun pc => chkP 303 pc)) = true := by decide +kernel
set_option maxRecDepth 100000 in
theorem ck_304 : (chkM 304 && chkR 304 && (List.range (cln 304)).all (fun pc => chkP 304 pc)) = true := by decide +kernel
set_option maxRecDepth 100000 in
theorem ck_305 : (chkM 305 && chkR 305 && (List.range (cln 305)).all (fun pc => chkP 305 pc)) = true := by decide +kernel
set_option maxRecDepth 100000 in
theorem ck_306 : (chkM 306 && chkR 306 && (List.range (cln 306)).all (fun pc => chkP 306 pc)) = true := by decide +kernel
set_option maxRecDepth 100000 in
theorem ck_307 : (chkM 307 && chkR 307 && (List.range (cln 307)).all (fun pc => chkP 307 pc)) = true := by decide +kernel
set_option maxRecDepth 100000 in
theorem ck_308 : (chkM 308 && chkR 308 && (List.range (cln 308)).all (fun pc => chkP 308 pc)) = true := by decide +kernel
set_option maxRecDepth 100000 in
theorem ck_309 : (chkM 309 && chkR 309 && (List.range (cln 309)).all (fun pc => chkP 309 pc)) = true := by decide +kernel
set_option maxRecDepth 100000 in
theorem ck_310 : (chkM 310 && chkR 310 && (List.range (cln 310)).all (fun pc => chkP 310 pc)) = true := by decide +kernel
set_option maxRecDepth 100000 in
theorem ck_311 : (chkM 311 && chkR 311 && (List.range (cln 311)).all (fun pc => chkP 311 pc)) = true := by decide +kernel
set_option maxRecDepth 100000 in
theorem ck_312 : (chkM 312 && chkR 312 && (List.range (cln 312)).all (fun pc => chkP 312 pc)) = true := by decide +kernel
set_option maxRecDepth 100000 in
theorem ck_313 : (chkM 313 && chkR 313 && (List.range (cln 313)).all (fun pc => chkP 313 pc)) = true := by decide +kernel
set_option maxRecDepth 100000 in
theorem ck_314 : (chkM 314 && chkR 314 && (List.range (cln 314)).all (fun pc => chkP 314 pc)) = true := by decide +kernel
set_option maxRecDepth 100000 in
theorem ck_315 : (chkM 315 && chkR 315 && (List.range (cln 315)).all (fun pc => chkP 315 pc)) = true := by decide +kernel
set_option maxRecDepth 100000 in
theorem ck_316 : (chkM 316 && chkR 316 && (List.range (cln 316)).all (fun pc => chkP 316 pc)) = true := by decide +kernel
