/-! The tables hold: decided by the kernel. -/
set_option maxRecDepth 100000 in
theorem ck_215 : (chkM 215 && chkR 215 && (List.range (cln 215)).all (fun pc => chkP 215 pc)) = true := by decide +kernel
set_option maxRecDepth 100000 in
theorem ck_216 : (chkM 216 && chkR 216 && (List.range (cln 216)).all (fun pc => chkP 216 pc)) = true := by decide +kernel
set_option maxRecDepth 100000 in
theorem ck_217 : (chkM 217 && chkR 217 && (List.range (cln 217)).all (fun pc => chkP 217 pc)) = true := by decide +kernel
set_option maxRecDepth 100000 in
theorem ck_218 : (chkM 218 && chkR 218 && (List.range (cln 218)).all (fun pc => chkP 218 pc)) = true := by decide +kernel
set_option maxRecDepth 100000 in
theorem ck_219 : (chkM 219 && chkR 219 && (List.range (cln 219)).all (fun pc => chkP 219 pc)) = true := by decide +kernel
set_option maxRecDepth 100000 in
theorem ck_220 : (chkM 220 && chkR 220 && (List.range (cln 220)).all (fun pc => chkP 220 pc)) = true := by decide +kernel
set_option maxRecDepth 100000 in
theorem ck_221 : (chkM 221 && chkR 221 && (List.range (cln 221)).all (fun pc => chkP 221 pc)) = true := by decide +kernel
set_option maxRecDepth 100000 in
theorem ck_222 : (chkM 222 && chkR 222 && (List.range (cln 222)).all (fun pc => chkP 222 pc)) = true := by decide +kernel
set_option maxRecDepth 100000 in
theorem ck_223 : (chkM 223 && chkR 223 && (List.range (cln 223)).all (fun pc => chkP 223 pc)) = true := by decide +kernel
set_option maxRecDepth 100000 in
theorem ck_224 : (chkM 224 && chkR 224 && (List.range (cln 224)).all (fun pc => chkP 224 pc)) = true := by decide +kernel
set_option maxRecDepth 100000 in
theorem ck_225 : (chkM 225 && chkR 225 && (List.range (cln 225)).all (fun pc => chkP 225 pc)) = true := by decide +kernel
set_option maxRecDepth 100000 in
theorem ck_226 : (chkM 226 && chkR 226 && (List.range (cln 226)).all (fun pc => chkP 226 pc)) = true := by decide +kernel
set_option maxRecDepth 100000 in
theorem ck_227 : (chkM 227 && chkR 227 && (List.range (cln 227)).all (fun pc => chkP 227 pc)) = true := by decide +kernel
set_option maxRecDepth 100000 in
theorem ck_228 : (chkM 228 && chkR 228 && (List.range (cln 228)).all (fun pc => chkP 228 pc)) = true := by decide +kernel
set_option maxRecDepth 100000 in
theorem ck_229 : (chkM 229 && chkR 229 && (List.range (cln 229)).all (fun pc => chkP 229 pc)) = true := by decide +kernel
set_option maxRecDepth 100000 in
theorem ck_230 : (chkM 230 && chkR 230 && (List.range (cln 230)).all (fun pc => chkP 230 pc)) = true := by decide +kernel
set_option maxRecDepth 100000 in
theorem ck_231 : (chkM 231 && chkR 231 && (List.range (cln 231)).all (fun pc => chkP 231 pc)) = true := by decide +kernel
set_option maxRecDepth 100000 in
theorem ck_232 : (chkM 232 && chkR 232 && (List.range (cln 232)).all (fun pc => chkP 232 pc)) = true := by decide +kernel
set_option maxRecDepth 100000 in
theorem ck_233 : (chkM 233 && chkR 233 && (List.range (cln 233)).all (fun pc => chkP 233 pc)) = true := by decide +kernel
set_option maxRecDepth 100000 in
theorem ck_234 : (chkM 234 && chkR 234 && (List.range (cln 234)).all (fun pc => chkP 234 pc)) = true := by decide +kernel
set_option maxRecDepth 100000 in
theorem ck_235 : (chkM 235 && chkR 235 && (List.range (cln 235)).all (fun pc => chkP 235 pc)) = true := by decide +kernel
set_option maxRecDepth 100000 in
theorem ck_236 : (chkM 236 && chkR 236 && (List.range (cln 236)).all (fun pc => chkP 236 pc)) = true := by decide +kernel
set_option maxRecDepth 100000 in
theorem ck_237 : (chkM 237 && chkR 237 && (List.range (cln 237)).all (fun pc => chkP 237 pc)) = true := by decide +kernel
set_option maxRecDepth 100000 in
theorem ck_238 : (chkM 238 && chkR 238 && (List.range (cln 238)).all (fun pc => chkP 238 pc)) = true := by decide +kernel
set_option maxRecDepth 100000 in
theorem ck_239 : (chkM 239 && chkR 239 && (List.range (cln 239)).all (fun pc => chkP 239 pc)) = true := by decide +kernel
set_option maxRecDepth 100000 in
theorem ck_240 : (chkM 240 && chkR 240 && (List.range (cln 240)).all (fun pc => chkP 240 pc)) = true := by decide +kernel
set_option maxRecDepth 100000 in
theorem ck_241 : (chkM 241 && chkR 241 && (List.range (cln 241)).all (fun pc => chkP 241 pc)) = true := by decide +kernel
set_option maxRecDepth 100000 in
theorem ck_242 : (chkM 242 && chkR 242 && (List.range (cln 242)).all (fun pc => chkP 242 pc)) = true := by decide +kernel
set_option maxRecDepth 100000 in
theorem ck_243 : (chkM 243 && chkR 243 && (List.range (cln 243)).all (fun pc => chkP 243 pc)) = true := by decide +kernel
set_option maxRecDepth 100000 in
theorem ck_244 : (chkM 244 && chkR 244 && (List.range (cln 244)).all (fun pc => chkP 244 pc)) = true := by decide +kernel
set_option maxRecDepth 100000 in
theorem ck_245 : (chkM 245 && chkR 245 && (List.range (cln 245)).all (fun pc => chkP 245 pc)) = true := by decide +kernel
set_option maxRecDepth 100000 in
theorem ck_246 : (chkM 246 && chkR 246 && (List.range (cln 246)).all (fun pc => chkP 246 pc)) = true := by decide +kernel
set_option maxRecDepth 100000 in
theorem ck_247 : (chkM 247 && chkR 247 && (List.range (cln 247)).all (fun pc => chkP 247 pc)) = true := by decide +kernel
set_option maxRecDepth 100000 in
theorem ck_248 : (chkM 248 && chkR 248 && (List.range (cln 248)).all (fun pc => chkP 248 pc)) = true := by decide +kernel
set_option maxRecDepth 100000 in
theorem ck_249 : (chkM 249 && chkR 249 && (List.range (cln 249)).all (fun pc => chkP 249 pc)) = true := by decide +kernel
set_option maxRecDepth 100000 in
theorem ck_250 : (chkM 250 && chkR 250 && (List.range (cln 250)).all (fun pc => chkP 250 pc)) = true := by decide +kernel
set_option maxRecDepth 100000 in
theorem ck_251 : (chkM 251 && chkR 251 && (List.range (cln 251)).all (fun pc => chkP 251 pc)) = true := by decide +kernel
set_option maxRecDepth 100000 in
theorem ck_252 : (chkM 252 && chkR 252 && (List.range (cln 252)).all (fun pc => chkP 252 pc)) = true := by decide +kernel
set_option maxRecDepth 100000 in
theorem ck_253 : (chkM 253 && chkR 253 && (List.range (cln 253)).all (fun pc => chkP 253 pc)) = true := by decide +kernel
set_option maxRecDepth 100000 in
theorem ck_254 : (chkM 254 && chkR 254 && (List.range (cln 254)).all (fun pc => chkP 254 pc)) = true := by decide +kernel
set_option maxRecDepth 100000 in
theorem ck_255 : (chkM 255 && chkR 255 && (List.range (cln 255)).all (fun pc => chkP 255 pc)) = true := by decide +kernel
set_option maxRecDepth 100000 in
theorem ck_256 : (chkM 256 && chkR 256 && (List.range (cln 256)).all (fun pc => chkP 256 pc)) = true := by decide +kernel
set_option maxRecDepth 100000 in
theorem ck_257 : (chkM 257 && chkR 257 && (List.range (cln 257)).all (fun pc => chkP 257 pc)) = true := by decide +kernel
set_option maxRecDepth 100000 in
theorem ck_258 : (chkM 258 && chkR 258 && (List.range (cln 258)).all (fun pc => chkP 258 pc)) = true := by decide +kernel
set_option maxRecDepth 100000 in
theorem ck_259 : (chkM 259 && chkR 259 && (List.range (cln 259)).all (fun pc => chkP 259 pc)) = true := by decide +kernel
