theorem e_L_law_18 : zIL cL_law 18 3 19 := .inl ⟨3, by decide +kernel, rfl, rfl⟩
theorem e_L_law_19 : zAL cL_law 19 0 20 := .inl ⟨0, by decide +kernel, rfl, rfl⟩
theorem e_L_law_20 : zD cL_law 20 (.arraylength) 1 21 := ⟨by decide +kernel, rfl⟩
theorem e_L_law_21 : zK cL_law 21 6 23 := .inr (.inl ⟨6, by decide +kernel, by decide +kernel, rfl⟩)
theorem e_L_law_23 : zD cL_law 23 (.isub) 1 24 := ⟨by decide +kernel, rfl⟩
theorem e_L_law_24 : zB cL_law 24 (.if_icmp .gt 1088) 1088 1112 27 := ⟨by decide +kernel, by decide, rfl⟩
theorem e_L_law_1112 : zK cL_law 1112 1 1113 := .inl ⟨1, by decide +kernel, by decide +kernel, rfl⟩
theorem e_L_law_1113 : decode cL_law 1113 = .ok (.ireturn, 1) := by decide +kernel
theorem e_L_law_27 : zAL cL_law 27 0 28 := .inl ⟨0, by decide +kernel, rfl, rfl⟩
theorem e_L_law_28 : zIL cL_law 28 3 29 := .inl ⟨3, by decide +kernel, rfl, rfl⟩
theorem e_L_law_29 : zD cL_law 29 (.iaload) 1 30 := ⟨by decide +kernel, rfl⟩
theorem e_L_law_30 : zK cL_law 30 31 32 := .inr (.inl ⟨31, by decide +kernel, by decide +kernel, rfl⟩)
theorem e_L_law_32 : zD cL_law 32 (.iand) 1 33 := ⟨by decide +kernel, rfl⟩
theorem e_L_law_33 : decode cL_law 33 = .ok (.tableswitch 1073 0 28 #[131, 174, 227, 286, 319, 342, 405, 428, 461, 484, 507, 530, 563, 586, 619, 663, 707, 741, 790, 823, 846, 879, 912, 945, 978, 1001, 1014, 1027, 1050], 131) := by decide +kernel
theorem e_L_law_164 : zAL cL_law 164 1 165 := .inl ⟨1, by decide +kernel, rfl, rfl⟩
theorem e_L_law_165 : zAL cL_law 165 0 166 := .inl ⟨0, by decide +kernel, rfl, rfl⟩
theorem e_L_law_166 : zIL cL_law 166 3 167 := .inl ⟨3, by decide +kernel, rfl, rfl⟩
theorem e_L_law_167 : zK cL_law 167 1 168 := .inl ⟨1, by decide +kernel, by decide +kernel, rfl⟩
theorem e_L_law_168 : zD cL_law 168 (.iadd) 1 169 := ⟨by decide +kernel, rfl⟩
theorem e_L_law_169 : zD cL_law 169 (.iaload) 1 170 := ⟨by decide +kernel, rfl⟩
theorem e_L_law_170 : zAL cL_law 170 0 171 := .inl ⟨0, by decide +kernel, rfl, rfl⟩
theorem e_L_law_171 : zIL cL_law 171 3 172 := .inl ⟨3, by decide +kernel, rfl, rfl⟩
theorem e_L_law_172 : zK cL_law 172 2 173 := .inl ⟨2, by decide +kernel, by decide +kernel, rfl⟩
theorem e_L_law_173 : zD cL_law 173 (.iadd) 1 174 := ⟨by decide +kernel, rfl⟩
theorem e_L_law_174 : zD cL_law 174 (.iaload) 1 175 := ⟨by decide +kernel, rfl⟩
theorem e_L_law_175 : zAL cL_law 175 0 176 := .inl ⟨0, by decide +kernel, rfl, rfl⟩
theorem e_L_law_176 : zIL cL_law 176 3 177 := .inl ⟨3, by decide +kernel, rfl, rfl⟩
theorem e_L_law_177 : zK cL_law 177 3 178 := .inl ⟨3, by decide +kernel, by decide +kernel, rfl⟩
theorem e_L_law_178 : zD cL_law 178 (.iadd) 1 179 := ⟨by decide +kernel, rfl⟩
theorem e_L_law_179 : zD cL_law 179 (.iaload) 1 180 := ⟨by decide +kernel, rfl⟩
theorem e_L_law_180 : zD cL_law 180 (.invokevirtual 13) 3 183 := ⟨by decide +kernel, rfl⟩
theorem e_L_law_183 : zAL cL_law 183 2 184 := .inl ⟨2, by decide +kernel, rfl, rfl⟩
theorem e_L_law_184 : zAL cL_law 184 0 185 := .inl ⟨0, by decide +kernel, rfl, rfl⟩
theorem e_L_law_185 : zIL cL_law 185 3 186 := .inl ⟨3, by decide +kernel, rfl, rfl⟩
theorem e_L_law_186 : zK cL_law 186 1 187 := .inl ⟨1, by decide +kernel, by decide +kernel, rfl⟩
theorem e_L_law_187 : zD cL_law 187 (.iadd) 1 188 := ⟨by decide +kernel, rfl⟩
theorem e_L_law_188 : zD cL_law 188 (.iaload) 1 189 := ⟨by decide +kernel, rfl⟩
theorem e_L_law_189 : zAL cL_law 189 0 190 := .inl ⟨0, by decide +kernel, rfl, rfl⟩
theorem e_L_law_190 : zIL cL_law 190 3 191 := .inl ⟨3, by decide +kernel, rfl, rfl⟩
theorem e_L_law_191 : zK cL_law 191 2 192 := .inl ⟨2, by decide +kernel, by decide +kernel, rfl⟩
theorem e_L_law_192 : zD cL_law 192 (.iadd) 1 193 := ⟨by decide +kernel, rfl⟩
theorem e_L_law_193 : zD cL_law 193 (.iaload) 1 194 := ⟨by decide +kernel, rfl⟩
theorem e_L_law_194 : zAL cL_law 194 0 195 := .inl ⟨0, by decide +kernel, rfl, rfl⟩
theorem e_L_law_195 : zIL cL_law 195 3 196 := .inl ⟨3, by decide +kernel, rfl, rfl⟩
theorem e_L_law_196 : zK cL_law 196 3 197 := .inl ⟨3, by decide +kernel, by decide +kernel, rfl⟩
theorem e_L_law_197 : zD cL_law 197 (.iadd) 1 198 := ⟨by decide +kernel, rfl⟩
theorem e_L_law_198 : zD cL_law 198 (.iaload) 1 199 := ⟨by decide +kernel, rfl⟩
theorem e_L_law_199 : zD cL_law 199 (.invokevirtual 17) 3 202 := ⟨by decide +kernel, rfl⟩
theorem e_L_law_202 : zB cL_law 202 (.if_icmp .eq 904) 904 1106 205 := ⟨by decide +kernel, by decide, rfl⟩
theorem e_L_law_1106 : zD cL_law 1106 (.iinc 3 6) 3 1109 := ⟨by decide +kernel, rfl⟩
theorem e_L_law_1109 : zB cL_law 1109 (.goto (-1091)) (-1091) 18 1112 := ⟨by decide +kernel, by decide, rfl⟩
theorem e_L_law_205 : zK cL_law 205 0 206 := .inl ⟨0, by decide +kernel, by decide +kernel, rfl⟩
theorem e_L_law_206 : decode cL_law 206 = .ok (.ireturn, 1) := by decide +kernel
theorem e_L_law_207 : zAL cL_law 207 1 208 := .inl ⟨1, by decide +kernel, rfl, rfl⟩
theorem e_L_law_208 : zAL cL_law 208 0 209 := .inl ⟨0, by decide +kernel, rfl, rfl⟩
theorem e_L_law_209 : zIL cL_law 209 3 210 := .inl ⟨3, by decide +kernel, rfl, rfl⟩
theorem e_L_law_210 : zK cL_law 210 1 211 := .inl ⟨1, by decide +kernel, by decide +kernel, rfl⟩
theorem e_L_law_211 : zD cL_law 211 (.iadd) 1 212 := ⟨by decide +kernel, rfl⟩
theorem e_L_law_212 : zD cL_law 212 (.iaload) 1 213 := ⟨by decide +kernel, rfl⟩
theorem e_L_law_213 : zAL cL_law 213 0 214 := .inl ⟨0, by decide +kernel, rfl, rfl⟩
theorem e_L_law_214 : zIL cL_law 214 3 215 := .inl ⟨3, by decide +kernel, rfl, rfl⟩
theorem e_L_law_215 : zK cL_law 215 2 216 := .inl ⟨2, by decide +kernel, by decide +kernel, rfl⟩
theorem e_L_law_216 : zD cL_law 216 (.iadd) 1 217 := ⟨by decide +kernel, rfl⟩
theorem e_L_law_217 : zD cL_law 217 (.iaload) 1 218 := ⟨by decide +kernel, rfl⟩
theorem e_L_law_218 : zAL cL_law 218 0 219 := .inl ⟨0, by decide +kernel, rfl, rfl⟩
theorem e_L_law_219 : zIL cL_law 219 3 220 := .inl ⟨3, by decide +kernel, rfl, rfl⟩
theorem e_L_law_220 : zK cL_law 220 3 221 := .inl ⟨3, by decide +kernel, by decide +kernel, rfl⟩
theorem e_L_law_221 : zD cL_law 221 (.iadd) 1 222 := ⟨by decide +kernel, rfl⟩
theorem e_L_law_222 : zD cL_law 222 (.iaload) 1 223 := ⟨by decide +kernel, rfl⟩
theorem e_L_law_223 : zAL cL_law 223 0 224 := .inl ⟨0, by decide +kernel, rfl, rfl⟩
theorem e_L_law_224 : zIL cL_law 224 3 225 := .inl ⟨3, by decide +kernel, rfl, rfl⟩
theorem e_L_law_225 : zK cL_law 225 4 226 := .inl ⟨4, by decide +kernel, by decide +kernel, rfl⟩
theorem e_L_law_226 : zD cL_law 226 (.iadd) 1 227 := ⟨by decide +kernel, rfl⟩
theorem e_L_law_227 : zD cL_law 227 (.iaload) 1 228 := ⟨by decide +kernel, rfl⟩
theorem e_L_law_228 : zD cL_law 228 (.invokevirtual 18) 3 231 := ⟨by decide +kernel, rfl⟩
theorem e_L_law_231 : zAL cL_law 231 2 232 := .inl ⟨2, by decide +kernel, rfl, rfl⟩
theorem e_L_law_232 : zAL cL_law 232 0 233 := .inl ⟨0, by decide +kernel, rfl, rfl⟩
theorem e_L_law_233 : zIL cL_law 233 3 234 := .inl ⟨3, by decide +kernel, rfl, rfl⟩
theorem e_L_law_234 : zK cL_law 234 1 235 := .inl ⟨1, by decide +kernel, by decide +kernel, rfl⟩
theorem e_L_law_235 : zD cL_law 235 (.iadd) 1 236 := ⟨by decide +kernel, rfl⟩
theorem e_L_law_236 : zD cL_law 236 (.iaload) 1 237 := ⟨by decide +kernel, rfl⟩
theorem e_L_law_237 : zAL cL_law 237 0 238 := .inl ⟨0, by decide +kernel, rfl, rfl⟩
theorem e_L_law_238 : zIL cL_law 238 3 239 := .inl ⟨3, by decide +kernel, rfl, rfl⟩
theorem e_L_law_239 : zK cL_law 239 2 240 := .inl ⟨2, by decide +kernel, by decide +kernel, rfl⟩
theorem e_L_law_240 : zD cL_law 240 (.iadd) 1 241 := ⟨by decide +kernel, rfl⟩
theorem e_L_law_241 : zD cL_law 241 (.iaload) 1 242 := ⟨by decide +kernel, rfl⟩
theorem e_L_law_242 : zAL cL_law 242 0 243 := .inl ⟨0, by decide +kernel, rfl, rfl⟩
theorem e_L_law_243 : zIL cL_law 243 3 244 := .inl ⟨3, by decide +kernel, rfl, rfl⟩
theorem e_L_law_244 : zK cL_law 244 3 245 := .inl ⟨3, by decide +kernel, by decide +kernel, rfl⟩
theorem e_L_law_245 : zD cL_law 245 (.iadd) 1 246 := ⟨by decide +kernel, rfl⟩
theorem e_L_law_246 : zD cL_law 246 (.iaload) 1 247 := ⟨by decide +kernel, rfl⟩
theorem e_L_law_247 : zAL cL_law 247 0 248 := .inl ⟨0, by decide +kernel, rfl, rfl⟩
theorem e_L_law_248 : zIL cL_law 248 3 249 := .inl ⟨3, by decide +kernel, rfl, rfl⟩
theorem e_L_law_249 : zK cL_law 249 4 250 := .inl ⟨4, by decide +kernel, by decide +kernel, rfl⟩
theorem e_L_law_250 : zD cL_law 250 (.iadd) 1 251 := ⟨by decide +kernel, rfl⟩
theorem e_L_law_251 : zD cL_law 251 (.iaload) 1 252 := ⟨by decide +kernel, rfl⟩
theorem e_L_law_252 : zD cL_law 252 (.invokevirtual 22) 3 255 := ⟨by decide +kernel, rfl⟩
theorem e_L_law_255 : zB cL_law 255 (.if_icmp .eq 851) 851 1106 258 := ⟨by decide +kernel, by decide, rfl⟩
theorem e_L_law_258 : zK cL_law 258 0 259 := .inl ⟨0, by decide +kernel, by decide +kernel, rfl⟩
theorem e_L_law_259 : decode cL_law 259 = .ok (.ireturn, 1) := by decide +kernel
theorem e_L_law_260 : zAL cL_law 260 1 261 := .inl ⟨1, by decide +kernel, rfl, rfl⟩
theorem e_L_law_261 : zAL cL_law 261 0 262 := .inl ⟨0, by decide +kernel, rfl, rfl⟩
theorem e_L_law_262 : zIL cL_law 262 3 263 := .inl ⟨3, by decide +kernel, rfl, rfl⟩
theorem e_L_law_263 : zK cL_law 263 1 264 := .inl ⟨1, by decide +kernel, by decide +kernel, rfl⟩
theorem e_L_law_264 : zD cL_law 264 (.iadd) 1 265 := ⟨by decide +kernel, rfl⟩
theorem e_L_law_265 : zD cL_law 265 (.iaload) 1 266 := ⟨by decide +kernel, rfl⟩
theorem e_L_law_266 : zAL cL_law 266 0 267 := .inl ⟨0, by decide +kernel, rfl, rfl⟩
theorem e_L_law_267 : zIL cL_law 267 3 268 := .inl ⟨3, by decide +kernel, rfl, rfl⟩
theorem e_L_law_268 : zK cL_law 268 2 269 := .inl ⟨2, by decide +kernel, by decide +kernel, rfl⟩
theorem e_L_law_269 : zD cL_law 269 (.iadd) 1 270 := ⟨by decide +kernel, rfl⟩
theorem e_L_law_270 : zD cL_law 270 (.iaload) 1 271 := ⟨by decide +kernel, rfl⟩
theorem e_L_law_271 : zB cL_law 271 (.ifCond .eq 7) 7 278 274 := ⟨by decide +kernel, by decide, rfl⟩
theorem e_L_law_278 : zK cL_law 278 0 279 := .inl ⟨0, by decide +kernel, by decide +kernel, rfl⟩
theorem e_L_law_274 : zK cL_law 274 1 275 := .inl ⟨1, by decide +kernel, by decide +kernel, rfl⟩
theorem e_L_law_275 : zB cL_law 275 (.goto 4) 4 279 278 := ⟨by decide +kernel, by decide, rfl⟩
theorem e_L_law_279 : zAL cL_law 279 0 280 := .inl ⟨0, by decide +kernel, rfl, rfl⟩
theorem e_L_law_280 : zIL cL_law 280 3 281 := .inl ⟨3, by decide +kernel, rfl, rfl⟩
theorem e_L_law_281 : zK cL_law 281 3 282 := .inl ⟨3, by decide +kernel, by decide +kernel, rfl⟩
theorem e_L_law_282 : zD cL_law 282 (.iadd) 1 283 := ⟨by decide +kernel, rfl⟩
theorem e_L_law_283 : zD cL_law 283 (.iaload) 1 284 := ⟨by decide +kernel, rfl⟩
theorem e_L_law_284 : zD cL_law 284 (.invokevirtual 23) 3 287 := ⟨by decide +kernel, rfl⟩
theorem e_L_law_287 : zAL cL_law 287 2 288 := .inl ⟨2, by decide +kernel, rfl, rfl⟩
theorem e_L_law_288 : zAL cL_law 288 0 289 := .inl ⟨0, by decide +kernel, rfl, rfl⟩
theorem e_L_law_289 : zIL cL_law 289 3 290 := .inl ⟨3, by decide +kernel, rfl, rfl⟩
theorem e_L_law_290 : zK cL_law 290 1 291 := .inl ⟨1, by decide +kernel, by decide +kernel, rfl⟩
theorem e_L_law_291 : zD cL_law 291 (.iadd) 1 292 := ⟨by decide +kernel, rfl⟩
theorem e_L_law_292 : zD cL_law 292 (.iaload) 1 293 := ⟨by decide +kernel, rfl⟩
theorem e_L_law_293 : zAL cL_law 293 0 294 := .inl ⟨0, by decide +kernel, rfl, rfl⟩
theorem e_L_law_294 : zIL cL_law 294 3 295 := .inl ⟨3, by decide +kernel, rfl, rfl⟩
theorem e_L_law_295 : zK cL_law 295 2 296 := .inl ⟨2, by decide +kernel, by decide +kernel, rfl⟩
theorem e_L_law_296 : zD cL_law 296 (.iadd) 1 297 := ⟨by decide +kernel, rfl⟩
theorem e_L_law_297 : zD cL_law 297 (.iaload) 1 298 := ⟨by decide +kernel, rfl⟩
theorem e_L_law_298 : zB cL_law 298 (.ifCond .eq 7) 7 305 301 := ⟨by decide +kernel, by decide, rfl⟩
theorem e_L_law_305 : zK cL_law 305 0 306 := .inl ⟨0, by decide +kernel, by decide +kernel, rfl⟩
theorem e_L_law_301 : zK cL_law 301 1 302 := .inl ⟨1, by decide +kernel, by decide +kernel, rfl⟩
theorem e_L_law_302 : zB cL_law 302 (.goto 4) 4 306 305 := ⟨by decide +kernel, by decide, rfl⟩
theorem e_L_law_306 : zAL cL_law 306 0 307 := .inl ⟨0, by decide +kernel, rfl, rfl⟩
theorem e_L_law_307 : zIL cL_law 307 3 308 := .inl ⟨3, by decide +kernel, rfl, rfl⟩
theorem e_L_law_308 : zK cL_law 308 3 309 := .inl ⟨3, by decide +kernel, by decide +kernel, rfl⟩
theorem e_L_law_309 : zD cL_law 309 (.iadd) 1 310 := ⟨by decide +kernel, rfl⟩
theorem e_L_law_310 : zD cL_law 310 (.iaload) 1 311 := ⟨by decide +kernel, rfl⟩
theorem e_L_law_311 : zD cL_law 311 (.invokevirtual 27) 3 314 := ⟨by decide +kernel, rfl⟩
theorem e_L_law_314 : zB cL_law 314 (.if_icmp .eq 792) 792 1106 317 := ⟨by decide +kernel, by decide, rfl⟩
theorem e_L_law_317 : zK cL_law 317 0 318 := .inl ⟨0, by decide +kernel, by decide +kernel, rfl⟩
theorem e_L_law_318 : decode cL_law 318 = .ok (.ireturn, 1) := by decide +kernel
theorem e_L_law_319 : zAL cL_law 319 1 320 := .inl ⟨1, by decide +kernel, rfl, rfl⟩
theorem e_L_law_320 : zAL cL_law 320 0 321 := .inl ⟨0, by decide +kernel, rfl, rfl⟩
theorem e_L_law_321 : zIL cL_law 321 3 322 := .inl ⟨3, by decide +kernel, rfl, rfl⟩
theorem e_L_law_322 : zK cL_law 322 1 323 := .inl ⟨1, by decide +kernel, by decide +kernel, rfl⟩
theorem e_L_law_323 : zD cL_law 323 (.iadd) 1 324 := ⟨by decide +kernel, rfl⟩
theorem e_L_law_324 : zD cL_law 324 (.iaload) 1 325 := ⟨by decide +kernel, rfl⟩
theorem e_L_law_325 : zAL cL_law 325 0 326 := .inl ⟨0, by decide +kernel, rfl, rfl⟩
theorem e_L_law_326 : zIL cL_law 326 3 327 := .inl ⟨3, by decide +kernel, rfl, rfl⟩
theorem e_L_law_327 : zK cL_law 327 2 328 := .inl ⟨2, by decide +kernel, by decide +kernel, rfl⟩
theorem e_L_law_328 : zD cL_law 328 (.iadd) 1 329 := ⟨by decide +kernel, rfl⟩
theorem e_L_law_329 : zD cL_law 329 (.iaload) 1 330 := ⟨by decide +kernel, rfl⟩
theorem e_L_law_330 : zD cL_law 330 (.invokevirtual 28) 3 333 := ⟨by decide +kernel, rfl⟩
theorem e_L_law_333 : zAL cL_law 333 2 334 := .inl ⟨2, by decide +kernel, rfl, rfl⟩
theorem e_L_law_334 : zAL cL_law 334 0 335 := .inl ⟨0, by decide +kernel, rfl, rfl⟩
theorem e_L_law_335 : zIL cL_law 335 3 336 := .inl ⟨3, by decide +kernel, rfl, rfl⟩
theorem e_L_law_336 : zK cL_law 336 1 337 := .inl ⟨1, by decide +kernel, by decide +kernel, rfl⟩
theorem e_L_law_337 : zD cL_law 337 (.iadd) 1 338 := ⟨by decide +kernel, rfl⟩
theorem e_L_law_338 : zD cL_law 338 (.iaload) 1 339 := ⟨by decide +kernel, rfl⟩
theorem e_L_law_339 : zAL cL_law 339 0 340 := .inl ⟨0, by decide +kernel, rfl, rfl⟩
theorem e_L_law_340 : zIL cL_law 340 3 341 := .inl ⟨3, by decide +kernel, rfl, rfl⟩
theorem e_L_law_341 : zK cL_law 341 2 342 := .inl ⟨2, by decide +kernel, by decide +kernel, rfl⟩
theorem e_L_law_342 : zD cL_law 342 (.iadd) 1 343 := ⟨by decide +kernel, rfl⟩
theorem e_L_law_343 : zD cL_law 343 (.iaload) 1 344 := ⟨by decide +kernel, rfl⟩
theorem e_L_law_344 : zD cL_law 344 (.invokevirtual 32) 3 347 := ⟨by decide +kernel, rfl⟩
theorem e_L_law_347 : zB cL_law 347 (.if_icmp .eq 759) 759 1106 350 := ⟨by decide +kernel, by decide, rfl⟩
theorem e_L_law_350 : zK cL_law 350 0 351 := .inl ⟨0, by decide +kernel, by decide +kernel, rfl⟩
theorem e_L_law_351 : decode cL_law 351 = .ok (.ireturn, 1) := by decide +kernel
theorem e_L_law_352 : zAL cL_law 352 1 353 := .inl ⟨1, by decide +kernel, rfl, rfl⟩
theorem e_L_law_353 : zAL cL_law 353 0 354 := .inl ⟨0, by decide +kernel, rfl, rfl⟩
theorem e_L_law_354 : zIL cL_law 354 3 355 := .inl ⟨3, by decide +kernel, rfl, rfl⟩
theorem e_L_law_355 : zK cL_law 355 1 356 := .inl ⟨1, by decide +kernel, by decide +kernel, rfl⟩
theorem e_L_law_356 : zD cL_law 356 (.iadd) 1 357 := ⟨by decide +kernel, rfl⟩
theorem e_L_law_357 : zD cL_law 357 (.iaload) 1 358 := ⟨by decide +kernel, rfl⟩
theorem e_L_law_358 : zD cL_law 358 (.invokevirtual 33) 3 361 := ⟨by decide +kernel, rfl⟩
theorem e_L_law_361 : zAL cL_law 361 2 362 := .inl ⟨2, by decide +kernel, rfl, rfl⟩
theorem e_L_law_362 : zAL cL_law 362 0 363 := .inl ⟨0, by decide +kernel, rfl, rfl⟩
theorem e_L_law_363 : zIL cL_law 363 3 364 := .inl ⟨3, by decide +kernel, rfl, rfl⟩
theorem e_L_law_364 : zK cL_law 364 1 365 := .inl ⟨1, by decide +kernel, by decide +kernel, rfl⟩
theorem e_L_law_365 : zD cL_law 365 (.iadd) 1 366 := ⟨by decide +kernel, rfl⟩
theorem e_L_law_366 : zD cL_law 366 (.iaload) 1 367 := ⟨by decide +kernel, rfl⟩
theorem e_L_law_367 : zD cL_law 367 (.invokevirtual 37) 3 370 := ⟨by decide +kernel, rfl⟩
theorem e_L_law_370 : zB cL_law 370 (.if_icmp .eq 736) 736 1106 373 := ⟨by decide +kernel, by decide, rfl⟩
theorem e_L_law_373 : zK cL_law 373 0 374 := .inl ⟨0, by decide +kernel, by decide +kernel, rfl⟩
theorem e_L_law_374 : decode cL_law 374 = .ok (.ireturn, 1) := by decide +kernel
theorem e_L_law_375 : zAL cL_law 375 1 376 := .inl ⟨1, by decide +kernel, rfl, rfl⟩
theorem e_L_law_376 : zAL cL_law 376 0 377 := .inl ⟨0, by decide +kernel, rfl, rfl⟩
theorem e_L_law_377 : zIL cL_law 377 3 378 := .inl ⟨3, by decide +kernel, rfl, rfl⟩
theorem e_L_law_378 : zK cL_law 378 1 379 := .inl ⟨1, by decide +kernel, by decide +kernel, rfl⟩
theorem e_L_law_379 : zD cL_law 379 (.iadd) 1 380 := ⟨by decide +kernel, rfl⟩
theorem e_L_law_380 : zD cL_law 380 (.iaload) 1 381 := ⟨by decide +kernel, rfl⟩
theorem e_L_law_381 : zAL cL_law 381 0 382 := .inl ⟨0, by decide +kernel, rfl, rfl⟩
theorem e_L_law_382 : zIL cL_law 382 3 383 := .inl ⟨3, by decide +kernel, rfl, rfl⟩
theorem e_L_law_383 : zK cL_law 383 2 384 := .inl ⟨2, by decide +kernel, by decide +kernel, rfl⟩
theorem e_L_law_384 : zD cL_law 384 (.iadd) 1 385 := ⟨by decide +kernel, rfl⟩
theorem e_L_law_385 : zD cL_law 385 (.iaload) 1 386 := ⟨by decide +kernel, rfl⟩
theorem e_L_law_386 : zAL cL_law 386 0 387 := .inl ⟨0, by decide +kernel, rfl, rfl⟩
theorem e_L_law_387 : zIL cL_law 387 3 388 := .inl ⟨3, by decide +kernel, rfl, rfl⟩
theorem e_L_law_388 : zK cL_law 388 3 389 := .inl ⟨3, by decide +kernel, by decide +kernel, rfl⟩
theorem e_L_law_389 : zD cL_law 389 (.iadd) 1 390 := ⟨by decide +kernel, rfl⟩
theorem e_L_law_390 : zD cL_law 390 (.iaload) 1 391 := ⟨by decide +kernel, rfl⟩
theorem e_L_law_391 : zAL cL_law 391 0 392 := .inl ⟨0, by decide +kernel, rfl, rfl⟩
theorem e_L_law_392 : zIL cL_law 392 3 393 := .inl ⟨3, by decide +kernel, rfl, rfl⟩
theorem e_L_law_393 : zK cL_law 393 4 394 := .inl ⟨4, by decide +kernel, by decide +kernel, rfl⟩
theorem e_L_law_394 : zD cL_law 394 (.iadd) 1 395 := ⟨by decide +kernel, rfl⟩
theorem e_L_law_395 : zD cL_law 395 (.iaload) 1 396 := ⟨by decide +kernel, rfl⟩
theorem e_L_law_396 : zAL cL_law 396 0 397 := .inl ⟨0, by decide +kernel, rfl, rfl⟩
theorem e_L_law_397 : zIL cL_law 397 3 398 := .inl ⟨3, by decide +kernel, rfl, rfl⟩
theorem e_L_law_398 : zK cL_law 398 5 399 := .inl ⟨5, by decide +kernel, by decide +kernel, rfl⟩
theorem e_L_law_399 : zD cL_law 399 (.iadd) 1 400 := ⟨by decide +kernel, rfl⟩
theorem e_L_law_400 : zD cL_law 400 (.iaload) 1 401 := ⟨by decide +kernel, rfl⟩
theorem e_L_law_401 : zD cL_law 401 (.invokevirtual 38) 3 404 := ⟨by decide +kernel, rfl⟩
theorem e_L_law_404 : zAL cL_law 404 2 405 := .inl ⟨2, by decide +kernel, rfl, rfl⟩
theorem e_L_law_405 : zAL cL_law 405 0 406 := .inl ⟨0, by decide +kernel, rfl, rfl⟩
theorem e_L_law_406 : zIL cL_law 406 3 407 := .inl ⟨3, by decide +kernel, rfl, rfl⟩
theorem e_L_law_407 : zK cL_law 407 1 408 := .inl ⟨1, by decide +kernel, by decide +kernel, rfl⟩
theorem e_L_law_408 : zD cL_law 408 (.iadd) 1 409 := ⟨by decide +kernel, rfl⟩
theorem e_L_law_409 : zD cL_law 409 (.iaload) 1 410 := ⟨by decide +kernel, rfl⟩
theorem e_L_law_410 : zAL cL_law 410 0 411 := .inl ⟨0, by decide +kernel, rfl, rfl⟩
theorem e_L_law_411 : zIL cL_law 411 3 412 := .inl ⟨3, by decide +kernel, rfl, rfl⟩
theorem e_L_law_412 : zK cL_law 412 2 413 := .inl ⟨2, by decide +kernel, by decide +kernel, rfl⟩
theorem e_L_law_413 : zD cL_law 413 (.iadd) 1 414 := ⟨by decide +kernel, rfl⟩
theorem e_L_law_414 : zD cL_law 414 (.iaload) 1 415 := ⟨by decide +kernel, rfl⟩
theorem e_L_law_415 : zAL cL_law 415 0 416 := .inl ⟨0, by decide +kernel, rfl, rfl⟩
theorem e_L_law_416 : zIL cL_law 416 3 417 := .inl ⟨3, by decide +kernel, rfl, rfl⟩
theorem e_L_law_417 : zK cL_law 417 3 418 := .inl ⟨3, by decide +kernel, by decide +kernel, rfl⟩
theorem e_L_law_418 : zD cL_law 418 (.iadd) 1 419 := ⟨by decide +kernel, rfl⟩
theorem e_L_law_419 : zD cL_law 419 (.iaload) 1 420 := ⟨by decide +kernel, rfl⟩
theorem e_L_law_420 : zAL cL_law 420 0 421 := .inl ⟨0, by decide +kernel, rfl, rfl⟩
theorem e_L_law_421 : zIL cL_law 421 3 422 := .inl ⟨3, by decide +kernel, rfl, rfl⟩
theorem e_L_law_422 : zK cL_law 422 4 423 := .inl ⟨4, by decide +kernel, by decide +kernel, rfl⟩
theorem e_L_law_423 : zD cL_law 423 (.iadd) 1 424 := ⟨by decide +kernel, rfl⟩
theorem e_L_law_424 : zD cL_law 424 (.iaload) 1 425 := ⟨by decide +kernel, rfl⟩
theorem e_L_law_425 : zAL cL_law 425 0 426 := .inl ⟨0, by decide +kernel, rfl, rfl⟩
theorem e_L_law_426 : zIL cL_law 426 3 427 := .inl ⟨3, by decide +kernel, rfl, rfl⟩
theorem e_L_law_427 : zK cL_law 427 5 428 := .inl ⟨5, by decide +kernel, by decide +kernel, rfl⟩
theorem e_L_law_428 : zD cL_law 428 (.iadd) 1 429 := ⟨by decide +kernel, rfl⟩
theorem e_L_law_429 : zD cL_law 429 (.iaload) 1 430 := ⟨by decide +kernel, rfl⟩
theorem e_L_law_430 : zD cL_law 430 (.invokevirtual 42) 3 433 := ⟨by decide +kernel, rfl⟩
theorem e_L_law_433 : zB cL_law 433 (.if_icmp .eq 673) 673 1106 436 := ⟨by decide +kernel, by decide, rfl⟩
theorem e_L_law_436 : zK cL_law 436 0 437 := .inl ⟨0, by decide +kernel, by decide +kernel, rfl⟩
theorem e_L_law_437 : decode cL_law 437 = .ok (.ireturn, 1) := by decide +kernel
theorem e_L_law_438 : zAL cL_law 438 1 439 := .inl ⟨1, by decide +kernel, rfl, rfl⟩
theorem e_L_law_439 : zAL cL_law 439 0 440 := .inl ⟨0, by decide +kernel, rfl, rfl⟩
theorem e_L_law_440 : zIL cL_law 440 3 441 := .inl ⟨3, by decide +kernel, rfl, rfl⟩
theorem e_L_law_441 : zK cL_law 441 1 442 := .inl ⟨1, by decide +kernel, by decide +kernel, rfl⟩
theorem e_L_law_442 : zD cL_law 442 (.iadd) 1 443 := ⟨by decide +kernel, rfl⟩
theorem e_L_law_443 : zD cL_law 443 (.iaload) 1 444 := ⟨by decide +kernel, rfl⟩
theorem e_L_law_444 : zD cL_law 444 (.invokevirtual 43) 3 447 := ⟨by decide +kernel, rfl⟩
theorem e_L_law_447 : zAL cL_law 447 2 448 := .inl ⟨2, by decide +kernel, rfl, rfl⟩
theorem e_L_law_448 : zAL cL_law 448 0 449 := .inl ⟨0, by decide +kernel, rfl, rfl⟩
theorem e_L_law_449 : zIL cL_law 449 3 450 := .inl ⟨3, by decide +kernel, rfl, rfl⟩
theorem e_L_law_450 : zK cL_law 450 1 451 := .inl ⟨1, by decide +kernel, by decide +kernel, rfl⟩
theorem e_L_law_451 : zD cL_law 451 (.iadd) 1 452 := ⟨by decide +kernel, rfl⟩
theorem e_L_law_452 : zD cL_law 452 (.iaload) 1 453 := ⟨by decide +kernel, rfl⟩
theorem e_L_law_453 : zD cL_law 453 (.invokevirtual 47) 3 456 := ⟨by decide +kernel, rfl⟩
theorem e_L_law_456 : zB cL_law 456 (.if_icmp .eq 650) 650 1106 459 := ⟨by decide +kernel, by decide, rfl⟩
theorem e_L_law_459 : zK cL_law 459 0 460 := .inl ⟨0, by decide +kernel, by decide +kernel, rfl⟩
theorem e_L_law_460 : decode cL_law 460 = .ok (.ireturn, 1) := by decide +kernel
theorem e_L_law_461 : zAL cL_law 461 1 462 := .inl ⟨1, by decide +kernel, rfl, rfl⟩
theorem e_L_law_462 : zAL cL_law 462 0 463 := .inl ⟨0, by decide +kernel, rfl, rfl⟩
theorem e_L_law_463 : zIL cL_law 463 3 464 := .inl ⟨3, by decide +kernel, rfl, rfl⟩
theorem e_L_law_464 : zK cL_law 464 1 465 := .inl ⟨1, by decide +kernel, by decide +kernel, rfl⟩
theorem e_L_law_465 : zD cL_law 465 (.iadd) 1 466 := ⟨by decide +kernel, rfl⟩
theorem e_L_law_466 : zD cL_law 466 (.iaload) 1 467 := ⟨by decide +kernel, rfl⟩
theorem e_L_law_467 : zAL cL_law 467 0 468 := .inl ⟨0, by decide +kernel, rfl, rfl⟩
theorem e_L_law_468 : zIL cL_law 468 3 469 := .inl ⟨3, by decide +kernel, rfl, rfl⟩
theorem e_L_law_469 : zK cL_law 469 2 470 := .inl ⟨2, by decide +kernel, by decide +kernel, rfl⟩
theorem e_L_law_470 : zD cL_law 470 (.iadd) 1 471 := ⟨by decide +kernel, rfl⟩
theorem e_L_law_471 : zD cL_law 471 (.iaload) 1 472 := ⟨by decide +kernel, rfl⟩
theorem e_L_law_472 : zD cL_law 472 (.invokevirtual 48) 3 475 := ⟨by decide +kernel, rfl⟩
theorem e_L_law_475 : zAL cL_law 475 2 476 := .inl ⟨2, by decide +kernel, rfl, rfl⟩
theorem e_L_law_476 : zAL cL_law 476 0 477 := .inl ⟨0, by decide +kernel, rfl, rfl⟩
theorem e_L_law_477 : zIL cL_law 477 3 478 := .inl ⟨3, by decide +kernel, rfl, rfl⟩
theorem e_L_law_478 : zK cL_law 478 1 479 := .inl ⟨1, by decide +kernel, by decide +kernel, rfl⟩
theorem e_L_law_479 : zD cL_law 479 (.iadd) 1 480 := ⟨by decide +kernel, rfl⟩
theorem e_L_law_480 : zD cL_law 480 (.iaload) 1 481 := ⟨by decide +kernel, rfl⟩
theorem e_L_law_481 : zAL cL_law 481 0 482 := .inl ⟨0, by decide +kernel, rfl, rfl⟩
theorem e_L_law_482 : zIL cL_law 482 3 483 := .inl ⟨3, by decide +kernel, rfl, rfl⟩
theorem e_L_law_483 : zK cL_law 483 2 484 := .inl ⟨2, by decide +kernel, by decide +kernel, rfl⟩
theorem e_L_law_484 : zD cL_law 484 (.iadd) 1 485 := ⟨by decide +kernel, rfl⟩
theorem e_L_law_485 : zD cL_law 485 (.iaload) 1 486 := ⟨by decide +kernel, rfl⟩
theorem e_L_law_486 : zD cL_law 486 (.invokevirtual 52) 3 489 := ⟨by decide +kernel, rfl⟩
theorem e_L_law_489 : zB cL_law 489 (.if_icmp .eq 617) 617 1106 492 := ⟨by decide +kernel, by decide, rfl⟩
theorem e_L_law_492 : zK cL_law 492 0 493 := .inl ⟨0, by decide +kernel, by decide +kernel, rfl⟩
theorem e_L_law_493 : decode cL_law 493 = .ok (.ireturn, 1) := by decide +kernel
theorem e_L_law_494 : zAL cL_law 494 1 495 := .inl ⟨1, by decide +kernel, rfl, rfl⟩
theorem e_L_law_495 : zAL cL_law 495 0 496 := .inl ⟨0, by decide +kernel, rfl, rfl⟩
theorem e_L_law_496 : zIL cL_law 496 3 497 := .inl ⟨3, by decide +kernel, rfl, rfl⟩
theorem e_L_law_497 : zK cL_law 497 1 498 := .inl ⟨1, by decide +kernel, by decide +kernel, rfl⟩
theorem e_L_law_498 : zD cL_law 498 (.iadd) 1 499 := ⟨by decide +kernel, rfl⟩
theorem e_L_law_499 : zD cL_law 499 (.iaload) 1 500 := ⟨by decide +kernel, rfl⟩
theorem e_L_law_500 : zD cL_law 500 (.invokevirtual 53) 3 503 := ⟨by decide +kernel, rfl⟩
theorem e_L_law_503 : zAL cL_law 503 2 504 := .inl ⟨2, by decide +kernel, rfl, rfl⟩
theorem e_L_law_504 : zAL cL_law 504 0 505 := .inl ⟨0, by decide +kernel, rfl, rfl⟩
theorem e_L_law_505 : zIL cL_law 505 3 506 := .inl ⟨3, by decide +kernel, rfl, rfl⟩
theorem e_L_law_506 : zK cL_law 506 1 507 := .inl ⟨1, by decide +kernel, by decide +kernel, rfl⟩
theorem e_L_law_507 : zD cL_law 507 (.iadd) 1 508 := ⟨by decide +kernel, rfl⟩
theorem e_L_law_508 : zD cL_law 508 (.iaload) 1 509 := ⟨by decide +kernel, rfl⟩
theorem e_L_law_509 : zD cL_law 509 (.invokevirtual 56) 3 512 := ⟨by decide +kernel, rfl⟩
theorem e_L_law_512 : zB cL_law 512 (.if_icmp .eq 594) 594 1106 515 := ⟨by decide +kernel, by decide, rfl⟩
theorem e_L_law_515 : zK cL_law 515 0 516 := .inl ⟨0, by decide +kernel, by decide +kernel, rfl⟩
theorem e_L_law_516 : decode cL_law 516 = .ok (.ireturn, 1) := by decide +kernel
theorem e_L_law_517 : zAL cL_law 517 1 518 := .inl ⟨1, by decide +kernel, rfl, rfl⟩
theorem e_L_law_518 : zAL cL_law 518 0 519 := .inl ⟨0, by decide +kernel, rfl, rfl⟩
theorem e_L_law_519 : zIL cL_law 519 3 520 := .inl ⟨3, by decide +kernel, rfl, rfl⟩
theorem e_L_law_520 : zK cL_law 520 1 521 := .inl ⟨1, by decide +kernel, by decide +kernel, rfl⟩
theorem e_L_law_521 : zD cL_law 521 (.iadd) 1 522 := ⟨by decide +kernel, rfl⟩
theorem e_L_law_522 : zD cL_law 522 (.iaload) 1 523 := ⟨by decide +kernel, rfl⟩
theorem e_L_law_523 : zD cL_law 523 (.invokevirtual 57) 3 526 := ⟨by decide +kernel, rfl⟩
theorem e_L_law_526 : zAL cL_law 526 2 527 := .inl ⟨2, by decide +kernel, rfl, rfl⟩
theorem e_L_law_527 : zAL cL_law 527 0 528 := .inl ⟨0, by decide +kernel, rfl, rfl⟩
theorem e_L_law_528 : zIL cL_law 528 3 529 := .inl ⟨3, by decide +kernel, rfl, rfl⟩
theorem e_L_law_529 : zK cL_law 529 1 530 := .inl ⟨1, by decide +kernel, by decide +kernel, rfl⟩
theorem e_L_law_530 : zD cL_law 530 (.iadd) 1 531 := ⟨by decide +kernel, rfl⟩
theorem e_L_law_531 : zD cL_law 531 (.iaload) 1 532 := ⟨by decide +kernel, rfl⟩
theorem e_L_law_532 : zD cL_law 532 (.invokevirtual 60) 3 535 := ⟨by decide +kernel, rfl⟩
theorem e_L_law_535 : zB cL_law 535 (.if_icmp .eq 571) 571 1106 538 := ⟨by decide +kernel, by decide, rfl⟩
theorem e_L_law_538 : zK cL_law 538 0 539 := .inl ⟨0, by decide +kernel, by decide +kernel, rfl⟩
theorem e_L_law_539 : decode cL_law 539 = .ok (.ireturn, 1) := by decide +kernel
theorem e_L_law_540 : zAL cL_law 540 1 541 := .inl ⟨1, by decide +kernel, rfl, rfl⟩
theorem e_L_law_541 : zAL cL_law 541 0 542 := .inl ⟨0, by decide +kernel, rfl, rfl⟩
theorem e_L_law_542 : zIL cL_law 542 3 543 := .inl ⟨3, by decide +kernel, rfl, rfl⟩
theorem e_L_law_543 : zK cL_law 543 1 544 := .inl ⟨1, by decide +kernel, by decide +kernel, rfl⟩
theorem e_L_law_544 : zD cL_law 544 (.iadd) 1 545 := ⟨by decide +kernel, rfl⟩
theorem e_L_law_545 : zD cL_law 545 (.iaload) 1 546 := ⟨by decide +kernel, rfl⟩
theorem e_L_law_546 : zD cL_law 546 (.invokevirtual 61) 3 549 := ⟨by decide +kernel, rfl⟩
theorem e_L_law_549 : zAL cL_law 549 2 550 := .inl ⟨2, by decide +kernel, rfl, rfl⟩
theorem e_L_law_550 : zAL cL_law 550 0 551 := .inl ⟨0, by decide +kernel, rfl, rfl⟩
theorem e_L_law_551 : zIL cL_law 551 3 552 := .inl ⟨3, by decide +kernel, rfl, rfl⟩
theorem e_L_law_552 : zK cL_law 552 1 553 := .inl ⟨1, by decide +kernel, by decide +kernel, rfl⟩
theorem e_L_law_553 : zD cL_law 553 (.iadd) 1 554 := ⟨by decide +kernel, rfl⟩
theorem e_L_law_554 : zD cL_law 554 (.iaload) 1 555 := ⟨by decide +kernel, rfl⟩
theorem e_L_law_555 : zD cL_law 555 (.invokevirtual 64) 3 558 := ⟨by decide +kernel, rfl⟩
theorem e_L_law_558 : zB cL_law 558 (.if_icmp .eq 548) 548 1106 561 := ⟨by decide +kernel, by decide, rfl⟩
theorem e_L_law_561 : zK cL_law 561 0 562 := .inl ⟨0, by decide +kernel, by decide +kernel, rfl⟩
theorem e_L_law_562 : decode cL_law 562 = .ok (.ireturn, 1) := by decide +kernel
theorem e_L_law_563 : zAL cL_law 563 1 564 := .inl ⟨1, by decide +kernel, rfl, rfl⟩
theorem e_L_law_564 : zAL cL_law 564 0 565 := .inl ⟨0, by decide +kernel, rfl, rfl⟩
theorem e_L_law_565 : zIL cL_law 565 3 566 := .inl ⟨3, by decide +kernel, rfl, rfl⟩
theorem e_L_law_566 : zK cL_law 566 1 567 := .inl ⟨1, by decide +kernel, by decide +kernel, rfl⟩
theorem e_L_law_567 : zD cL_law 567 (.iadd) 1 568 := ⟨by decide +kernel, rfl⟩
theorem e_L_law_568 : zD cL_law 568 (.iaload) 1 569 := ⟨by decide +kernel, rfl⟩
theorem e_L_law_569 : zAL cL_law 569 0 570 := .inl ⟨0, by decide +kernel, rfl, rfl⟩
theorem e_L_law_570 : zIL cL_law 570 3 571 := .inl ⟨3, by decide +kernel, rfl, rfl⟩
theorem e_L_law_571 : zK cL_law 571 2 572 := .inl ⟨2, by decide +kernel, by decide +kernel, rfl⟩
theorem e_L_law_572 : zD cL_law 572 (.iadd) 1 573 := ⟨by decide +kernel, rfl⟩
theorem e_L_law_573 : zD cL_law 573 (.iaload) 1 574 := ⟨by decide +kernel, rfl⟩
theorem e_L_law_574 : zD cL_law 574 (.invokevirtual 65) 3 577 := ⟨by decide +kernel, rfl⟩
theorem e_L_law_577 : zAL cL_law 577 2 578 := .inl ⟨2, by decide +kernel, rfl, rfl⟩
theorem e_L_law_578 : zAL cL_law 578 0 579 := .inl ⟨0, by decide +kernel, rfl, rfl⟩
theorem e_L_law_579 : zIL cL_law 579 3 580 := .inl ⟨3, by decide +kernel, rfl, rfl⟩
theorem e_L_law_580 : zK cL_law 580 1 581 := .inl ⟨1, by decide +kernel, by decide +kernel, rfl⟩
theorem e_L_law_581 : zD cL_law 581 (.iadd) 1 582 := ⟨by decide +kernel, rfl⟩
theorem e_L_law_582 : zD cL_law 582 (.iaload) 1 583 := ⟨by decide +kernel, rfl⟩
theorem e_L_law_583 : zAL cL_law 583 0 584 := .inl ⟨0, by decide +kernel, rfl, rfl⟩
theorem e_L_law_584 : zIL cL_law 584 3 585 := .inl ⟨3, by decide +kernel, rfl, rfl⟩
theorem e_L_law_585 : zK cL_law 585 2 586 := .inl ⟨2, by decide +kernel, by decide +kernel, rfl⟩
theorem e_L_law_586 : zD cL_law 586 (.iadd) 1 587 := ⟨by decide +kernel, rfl⟩
theorem e_L_law_587 : zD cL_law 587 (.iaload) 1 588 := ⟨by decide +kernel, rfl⟩
theorem e_L_law_588 : zD cL_law 588 (.invokevirtual 68) 3 591 := ⟨by decide +kernel, rfl⟩
theorem e_L_law_591 : zB cL_law 591 (.if_icmp .eq 515) 515 1106 594 := ⟨by decide +kernel, by decide, rfl⟩
theorem e_L_law_594 : zK cL_law 594 0 595 := .inl ⟨0, by decide +kernel, by decide +kernel, rfl⟩
theorem e_L_law_595 : decode cL_law 595 = .ok (.ireturn, 1) := by decide +kernel
theorem e_L_law_596 : zAL cL_law 596 1 597 := .inl ⟨1, by decide +kernel, rfl, rfl⟩
theorem e_L_law_597 : zAL cL_law 597 0 598 := .inl ⟨0, by decide +kernel, rfl, rfl⟩
theorem e_L_law_598 : zIL cL_law 598 3 599 := .inl ⟨3, by decide +kernel, rfl, rfl⟩
theorem e_L_law_599 : zK cL_law 599 1 600 := .inl ⟨1, by decide +kernel, by decide +kernel, rfl⟩
theorem e_L_law_600 : zD cL_law 600 (.iadd) 1 601 := ⟨by decide +kernel, rfl⟩
theorem e_L_law_601 : zD cL_law 601 (.iaload) 1 602 := ⟨by decide +kernel, rfl⟩
theorem e_L_law_602 : zD cL_law 602 (.invokevirtual 69) 3 605 := ⟨by decide +kernel, rfl⟩
theorem e_L_law_605 : zAL cL_law 605 2 606 := .inl ⟨2, by decide +kernel, rfl, rfl⟩
theorem e_L_law_606 : zAL cL_law 606 0 607 := .inl ⟨0, by decide +kernel, rfl, rfl⟩
theorem e_L_law_607 : zIL cL_law 607 3 608 := .inl ⟨3, by decide +kernel, rfl, rfl⟩
theorem e_L_law_608 : zK cL_law 608 1 609 := .inl ⟨1, by decide +kernel, by decide +kernel, rfl⟩
theorem e_L_law_609 : zD cL_law 609 (.iadd) 1 610 := ⟨by decide +kernel, rfl⟩
theorem e_L_law_610 : zD cL_law 610 (.iaload) 1 611 := ⟨by decide +kernel, rfl⟩
theorem e_L_law_611 : zD cL_law 611 (.invokevirtual 72) 3 614 := ⟨by decide +kernel, rfl⟩
theorem e_L_law_614 : zB cL_law 614 (.if_icmp .eq 492) 492 1106 617 := ⟨by decide +kernel, by decide, rfl⟩
theorem e_L_law_617 : zK cL_law 617 0 618 := .inl ⟨0, by decide +kernel, by decide +kernel, rfl⟩
theorem e_L_law_618 : decode cL_law 618 = .ok (.ireturn, 1) := by decide +kernel
theorem e_L_law_619 : zAL cL_law 619 1 620 := .inl ⟨1, by decide +kernel, rfl, rfl⟩
theorem e_L_law_620 : zAL cL_law 620 0 621 := .inl ⟨0, by decide +kernel, rfl, rfl⟩
theorem e_L_law_621 : zIL cL_law 621 3 622 := .inl ⟨3, by decide +kernel, rfl, rfl⟩
theorem e_L_law_622 : zK cL_law 622 1 623 := .inl ⟨1, by decide +kernel, by decide +kernel, rfl⟩
theorem e_L_law_623 : zD cL_law 623 (.iadd) 1 624 := ⟨by decide +kernel, rfl⟩
theorem e_L_law_624 : zD cL_law 624 (.iaload) 1 625 := ⟨by decide +kernel, rfl⟩
theorem e_L_law_625 : zAL cL_law 625 0 626 := .inl ⟨0, by decide +kernel, rfl, rfl⟩
theorem e_L_law_626 : zIL cL_law 626 3 627 := .inl ⟨3, by decide +kernel, rfl, rfl⟩
theorem e_L_law_627 : zK cL_law 627 2 628 := .inl ⟨2, by decide +kernel, by decide +kernel, rfl⟩
theorem e_L_law_628 : zD cL_law 628 (.iadd) 1 629 := ⟨by decide +kernel, rfl⟩
theorem e_L_law_629 : zD cL_law 629 (.iaload) 1 630 := ⟨by decide +kernel, rfl⟩
theorem e_L_law_630 : zD cL_law 630 (.invokevirtual 73) 3 633 := ⟨by decide +kernel, rfl⟩
theorem e_L_law_633 : zAL cL_law 633 2 634 := .inl ⟨2, by decide +kernel, rfl, rfl⟩
theorem e_L_law_634 : zAL cL_law 634 0 635 := .inl ⟨0, by decide +kernel, rfl, rfl⟩
theorem e_L_law_635 : zIL cL_law 635 3 636 := .inl ⟨3, by decide +kernel, rfl, rfl⟩
theorem e_L_law_636 : zK cL_law 636 1 637 := .inl ⟨1, by decide +kernel, by decide +kernel, rfl⟩
theorem e_L_law_637 : zD cL_law 637 (.iadd) 1 638 := ⟨by decide +kernel, rfl⟩
theorem e_L_law_638 : zD cL_law 638 (.iaload) 1 639 := ⟨by decide +kernel, rfl⟩
theorem e_L_law_639 : zAL cL_law 639 0 640 := .inl ⟨0, by decide +kernel, rfl, rfl⟩
theorem e_L_law_640 : zIL cL_law 640 3 641 := .inl ⟨3, by decide +kernel, rfl, rfl⟩
theorem e_L_law_641 : zK cL_law 641 2 642 := .inl ⟨2, by decide +kernel, by decide +kernel, rfl⟩
theorem e_L_law_642 : zD cL_law 642 (.iadd) 1 643 := ⟨by decide +kernel, rfl⟩
theorem e_L_law_643 : zD cL_law 643 (.iaload) 1 644 := ⟨by decide +kernel, rfl⟩
theorem e_L_law_644 : zD cL_law 644 (.invokevirtual 76) 3 647 := ⟨by decide +kernel, rfl⟩
theorem e_L_law_647 : zB cL_law 647 (.if_icmp .eq 459) 459 1106 650 := ⟨by decide +kernel, by decide, rfl⟩
theorem e_L_law_650 : zK cL_law 650 0 651 := .inl ⟨0, by decide +kernel, by decide +kernel, rfl⟩
theorem e_L_law_651 : decode cL_law 651 = .ok (.ireturn, 1) := by decide +kernel
theorem e_L_law_652 : zAL cL_law 652 1 653 := .inl ⟨1, by decide +kernel, rfl, rfl⟩
theorem e_L_law_653 : zAL cL_law 653 0 654 := .inl ⟨0, by decide +kernel, rfl, rfl⟩
theorem e_L_law_654 : zIL cL_law 654 3 655 := .inl ⟨3, by decide +kernel, rfl, rfl⟩
theorem e_L_law_655 : zK cL_law 655 1 656 := .inl ⟨1, by decide +kernel, by decide +kernel, rfl⟩
theorem e_L_law_656 : zD cL_law 656 (.iadd) 1 657 := ⟨by decide +kernel, rfl⟩
theorem e_L_law_657 : zD cL_law 657 (.iaload) 1 658 := ⟨by decide +kernel, rfl⟩
theorem e_L_law_658 : zAL cL_law 658 0 659 := .inl ⟨0, by decide +kernel, rfl, rfl⟩
theorem e_L_law_659 : zIL cL_law 659 3 660 := .inl ⟨3, by decide +kernel, rfl, rfl⟩
theorem e_L_law_660 : zK cL_law 660 2 661 := .inl ⟨2, by decide +kernel, by decide +kernel, rfl⟩
theorem e_L_law_661 : zD cL_law 661 (.iadd) 1 662 := ⟨by decide +kernel, rfl⟩
theorem e_L_law_662 : zD cL_law 662 (.iaload) 1 663 := ⟨by decide +kernel, rfl⟩
theorem e_L_law_663 : zAL cL_law 663 0 664 := .inl ⟨0, by decide +kernel, rfl, rfl⟩
theorem e_L_law_664 : zIL cL_law 664 3 665 := .inl ⟨3, by decide +kernel, rfl, rfl⟩
theorem e_L_law_665 : zK cL_law 665 3 666 := .inl ⟨3, by decide +kernel, by decide +kernel, rfl⟩
theorem e_L_law_666 : zD cL_law 666 (.iadd) 1 667 := ⟨by decide +kernel, rfl⟩
theorem e_L_law_667 : zD cL_law 667 (.iaload) 1 668 := ⟨by decide +kernel, rfl⟩
theorem e_L_law_668 : zD cL_law 668 (.invokevirtual 77) 3 671 := ⟨by decide +kernel, rfl⟩
theorem e_L_law_671 : zAL cL_law 671 2 672 := .inl ⟨2, by decide +kernel, rfl, rfl⟩
theorem e_L_law_672 : zAL cL_law 672 0 673 := .inl ⟨0, by decide +kernel, rfl, rfl⟩
theorem e_L_law_673 : zIL cL_law 673 3 674 := .inl ⟨3, by decide +kernel, rfl, rfl⟩
theorem e_L_law_674 : zK cL_law 674 1 675 := .inl ⟨1, by decide +kernel, by decide +kernel, rfl⟩
theorem e_L_law_675 : zD cL_law 675 (.iadd) 1 676 := ⟨by decide +kernel, rfl⟩
theorem e_L_law_676 : zD cL_law 676 (.iaload) 1 677 := ⟨by decide +kernel, rfl⟩
theorem e_L_law_677 : zAL cL_law 677 0 678 := .inl ⟨0, by decide +kernel, rfl, rfl⟩
theorem e_L_law_678 : zIL cL_law 678 3 679 := .inl ⟨3, by decide +kernel, rfl, rfl⟩
theorem e_L_law_679 : zK cL_law 679 2 680 := .inl ⟨2, by decide +kernel, by decide +kernel, rfl⟩
theorem e_L_law_680 : zD cL_law 680 (.iadd) 1 681 := ⟨by decide +kernel, rfl⟩
theorem e_L_law_681 : zD cL_law 681 (.iaload) 1 682 := ⟨by decide +kernel, rfl⟩
theorem e_L_law_682 : zAL cL_law 682 0 683 := .inl ⟨0, by decide +kernel, rfl, rfl⟩
theorem e_L_law_683 : zIL cL_law 683 3 684 := .inl ⟨3, by decide +kernel, rfl, rfl⟩
theorem e_L_law_684 : zK cL_law 684 3 685 := .inl ⟨3, by decide +kernel, by decide +kernel, rfl⟩
theorem e_L_law_685 : zD cL_law 685 (.iadd) 1 686 := ⟨by decide +kernel, rfl⟩
theorem e_L_law_686 : zD cL_law 686 (.iaload) 1 687 := ⟨by decide +kernel, rfl⟩
theorem e_L_law_687 : zD cL_law 687 (.invokevirtual 81) 3 690 := ⟨by decide +kernel, rfl⟩
theorem e_L_law_690 : zD cL_law 690 (.lcmp) 1 691 := ⟨by decide +kernel, rfl⟩
theorem e_L_law_691 : zB cL_law 691 (.ifCond .eq 415) 415 1106 694 := ⟨by decide +kernel, by decide, rfl⟩
theorem e_L_law_694 : zK cL_law 694 0 695 := .inl ⟨0, by decide +kernel, by decide +kernel, rfl⟩
theorem e_L_law_695 : decode cL_law 695 = .ok (.ireturn, 1) := by decide +kernel
theorem e_L_law_696 : zAL cL_law 696 1 697 := .inl ⟨1, by decide +kernel, rfl, rfl⟩
theorem e_L_law_697 : zAL cL_law 697 0 698 := .inl ⟨0, by decide +kernel, rfl, rfl⟩
theorem e_L_law_698 : zIL cL_law 698 3 699 := .inl ⟨3, by decide +kernel, rfl, rfl⟩
theorem e_L_law_699 : zK cL_law 699 1 700 := .inl ⟨1, by decide +kernel, by decide +kernel, rfl⟩
theorem e_L_law_700 : zD cL_law 700 (.iadd) 1 701 := ⟨by decide +kernel, rfl⟩
theorem e_L_law_701 : zD cL_law 701 (.iaload) 1 702 := ⟨by decide +kernel, rfl⟩
theorem e_L_law_702 : zAL cL_law 702 0 703 := .inl ⟨0, by decide +kernel, rfl, rfl⟩
theorem e_L_law_703 : zIL cL_law 703 3 704 := .inl ⟨3, by decide +kernel, rfl, rfl⟩
theorem e_L_law_704 : zK cL_law 704 2 705 := .inl ⟨2, by decide +kernel, by decide +kernel, rfl⟩
theorem e_L_law_705 : zD cL_law 705 (.iadd) 1 706 := ⟨by decide +kernel, rfl⟩
theorem e_L_law_706 : zD cL_law 706 (.iaload) 1 707 := ⟨by decide +kernel, rfl⟩
theorem e_L_law_707 : zAL cL_law 707 0 708 := .inl ⟨0, by decide +kernel, rfl, rfl⟩
theorem e_L_law_708 : zIL cL_law 708 3 709 := .inl ⟨3, by decide +kernel, rfl, rfl⟩
theorem e_L_law_709 : zK cL_law 709 3 710 := .inl ⟨3, by decide +kernel, by decide +kernel, rfl⟩
theorem e_L_law_710 : zD cL_law 710 (.iadd) 1 711 := ⟨by decide +kernel, rfl⟩
theorem e_L_law_711 : zD cL_law 711 (.iaload) 1 712 := ⟨by decide +kernel, rfl⟩
theorem e_L_law_712 : zD cL_law 712 (.invokevirtual 82) 3 715 := ⟨by decide +kernel, rfl⟩
theorem e_L_law_715 : zAL cL_law 715 2 716 := .inl ⟨2, by decide +kernel, rfl, rfl⟩
theorem e_L_law_716 : zAL cL_law 716 0 717 := .inl ⟨0, by decide +kernel, rfl, rfl⟩
theorem e_L_law_717 : zIL cL_law 717 3 718 := .inl ⟨3, by decide +kernel, rfl, rfl⟩
theorem e_L_law_718 : zK cL_law 718 1 719 := .inl ⟨1, by decide +kernel, by decide +kernel, rfl⟩
theorem e_L_law_719 : zD cL_law 719 (.iadd) 1 720 := ⟨by decide +kernel, rfl⟩
theorem e_L_law_720 : zD cL_law 720 (.iaload) 1 721 := ⟨by decide +kernel, rfl⟩
theorem e_L_law_721 : zAL cL_law 721 0 722 := .inl ⟨0, by decide +kernel, rfl, rfl⟩
theorem e_L_law_722 : zIL cL_law 722 3 723 := .inl ⟨3, by decide +kernel, rfl, rfl⟩
theorem e_L_law_723 : zK cL_law 723 2 724 := .inl ⟨2, by decide +kernel, by decide +kernel, rfl⟩
theorem e_L_law_724 : zD cL_law 724 (.iadd) 1 725 := ⟨by decide +kernel, rfl⟩
theorem e_L_law_725 : zD cL_law 725 (.iaload) 1 726 := ⟨by decide +kernel, rfl⟩
theorem e_L_law_726 : zAL cL_law 726 0 727 := .inl ⟨0, by decide +kernel, rfl, rfl⟩
theorem e_L_law_727 : zIL cL_law 727 3 728 := .inl ⟨3, by decide +kernel, rfl, rfl⟩
theorem e_L_law_728 : zK cL_law 728 3 729 := .inl ⟨3, by decide +kernel, by decide +kernel, rfl⟩
theorem e_L_law_729 : zD cL_law 729 (.iadd) 1 730 := ⟨by decide +kernel, rfl⟩
theorem e_L_law_730 : zD cL_law 730 (.iaload) 1 731 := ⟨by decide +kernel, rfl⟩
theorem e_L_law_731 : zD cL_law 731 (.invokevirtual 85) 3 734 := ⟨by decide +kernel, rfl⟩
theorem e_L_law_734 : zD cL_law 734 (.lcmp) 1 735 := ⟨by decide +kernel, rfl⟩
theorem e_L_law_735 : zB cL_law 735 (.ifCond .eq 371) 371 1106 738 := ⟨by decide +kernel, by decide, rfl⟩
theorem e_L_law_738 : zK cL_law 738 0 739 := .inl ⟨0, by decide +kernel, by decide +kernel, rfl⟩
theorem e_L_law_739 : decode cL_law 739 = .ok (.ireturn, 1) := by decide +kernel
theorem e_L_law_740 : zAL cL_law 740 1 741 := .inl ⟨1, by decide +kernel, rfl, rfl⟩
theorem e_L_law_741 : zAL cL_law 741 0 742 := .inl ⟨0, by decide +kernel, rfl, rfl⟩
theorem e_L_law_742 : zIL cL_law 742 3 743 := .inl ⟨3, by decide +kernel, rfl, rfl⟩
theorem e_L_law_743 : zK cL_law 743 1 744 := .inl ⟨1, by decide +kernel, by decide +kernel, rfl⟩
theorem e_L_law_744 : zD cL_law 744 (.iadd) 1 745 := ⟨by decide +kernel, rfl⟩
theorem e_L_law_745 : zD cL_law 745 (.iaload) 1 746 := ⟨by decide +kernel, rfl⟩
theorem e_L_law_746 : zAL cL_law 746 0 747 := .inl ⟨0, by decide +kernel, rfl, rfl⟩
theorem e_L_law_747 : zIL cL_law 747 3 748 := .inl ⟨3, by decide +kernel, rfl, rfl⟩
theorem e_L_law_748 : zK cL_law 748 2 749 := .inl ⟨2, by decide +kernel, by decide +kernel, rfl⟩
theorem e_L_law_749 : zD cL_law 749 (.iadd) 1 750 := ⟨by decide +kernel, rfl⟩
theorem e_L_law_750 : zD cL_law 750 (.iaload) 1 751 := ⟨by decide +kernel, rfl⟩
theorem e_L_law_751 : zD cL_law 751 (.invokevirtual 86) 3 754 := ⟨by decide +kernel, rfl⟩
theorem e_L_law_754 : zAL cL_law 754 2 755 := .inl ⟨2, by decide +kernel, rfl, rfl⟩
theorem e_L_law_755 : zAL cL_law 755 0 756 := .inl ⟨0, by decide +kernel, rfl, rfl⟩
theorem e_L_law_756 : zIL cL_law 756 3 757 := .inl ⟨3, by decide +kernel, rfl, rfl⟩
theorem e_L_law_757 : zK cL_law 757 1 758 := .inl ⟨1, by decide +kernel, by decide +kernel, rfl⟩
theorem e_L_law_758 : zD cL_law 758 (.iadd) 1 759 := ⟨by decide +kernel, rfl⟩
theorem e_L_law_759 : zD cL_law 759 (.iaload) 1 760 := ⟨by decide +kernel, rfl⟩
theorem e_L_law_760 : zAL cL_law 760 0 761 := .inl ⟨0, by decide +kernel, rfl, rfl⟩
theorem e_L_law_761 : zIL cL_law 761 3 762 := .inl ⟨3, by decide +kernel, rfl, rfl⟩
theorem e_L_law_762 : zK cL_law 762 2 763 := .inl ⟨2, by decide +kernel, by decide +kernel, rfl⟩
theorem e_L_law_763 : zD cL_law 763 (.iadd) 1 764 := ⟨by decide +kernel, rfl⟩
theorem e_L_law_764 : zD cL_law 764 (.iaload) 1 765 := ⟨by decide +kernel, rfl⟩
theorem e_L_law_765 : zD cL_law 765 (.invokevirtual 90) 3 768 := ⟨by decide +kernel, rfl⟩
theorem e_L_law_768 : zD cL_law 768 (.lcmp) 1 769 := ⟨by decide +kernel, rfl⟩
theorem e_L_law_769 : zB cL_law 769 (.ifCond .eq 337) 337 1106 772 := ⟨by decide +kernel, by decide, rfl⟩
theorem e_L_law_772 : zK cL_law 772 0 773 := .inl ⟨0, by decide +kernel, by decide +kernel, rfl⟩
theorem e_L_law_773 : decode cL_law 773 = .ok (.ireturn, 1) := by decide +kernel
theorem e_L_law_774 : zAL cL_law 774 1 775 := .inl ⟨1, by decide +kernel, rfl, rfl⟩
theorem e_L_law_775 : zAL cL_law 775 0 776 := .inl ⟨0, by decide +kernel, rfl, rfl⟩
theorem e_L_law_776 : zIL cL_law 776 3 777 := .inl ⟨3, by decide +kernel, rfl, rfl⟩
theorem e_L_law_777 : zK cL_law 777 1 778 := .inl ⟨1, by decide +kernel, by decide +kernel, rfl⟩
theorem e_L_law_778 : zD cL_law 778 (.iadd) 1 779 := ⟨by decide +kernel, rfl⟩
theorem e_L_law_779 : zD cL_law 779 (.iaload) 1 780 := ⟨by decide +kernel, rfl⟩
theorem e_L_law_780 : zAL cL_law 780 0 781 := .inl ⟨0, by decide +kernel, rfl, rfl⟩
theorem e_L_law_781 : zIL cL_law 781 3 782 := .inl ⟨3, by decide +kernel, rfl, rfl⟩
theorem e_L_law_782 : zK cL_law 782 2 783 := .inl ⟨2, by decide +kernel, by decide +kernel, rfl⟩
theorem e_L_law_783 : zD cL_law 783 (.iadd) 1 784 := ⟨by decide +kernel, rfl⟩
theorem e_L_law_784 : zD cL_law 784 (.iaload) 1 785 := ⟨by decide +kernel, rfl⟩
theorem e_L_law_785 : zB cL_law 785 (.ifCond .eq 7) 7 792 788 := ⟨by decide +kernel, by decide, rfl⟩
theorem e_L_law_792 : zK cL_law 792 0 793 := .inl ⟨0, by decide +kernel, by decide +kernel, rfl⟩
theorem e_L_law_788 : zK cL_law 788 1 789 := .inl ⟨1, by decide +kernel, by decide +kernel, rfl⟩
theorem e_L_law_789 : zB cL_law 789 (.goto 4) 4 793 792 := ⟨by decide +kernel, by decide, rfl⟩
theorem e_L_law_793 : zD cL_law 793 (.invokevirtual 91) 3 796 := ⟨by decide +kernel, rfl⟩
theorem e_L_law_796 : zAL cL_law 796 2 797 := .inl ⟨2, by decide +kernel, rfl, rfl⟩
theorem e_L_law_797 : zAL cL_law 797 0 798 := .inl ⟨0, by decide +kernel, rfl, rfl⟩
theorem e_L_law_798 : zIL cL_law 798 3 799 := .inl ⟨3, by decide +kernel, rfl, rfl⟩
theorem e_L_law_799 : zK cL_law 799 1 800 := .inl ⟨1, by decide +kernel, by decide +kernel, rfl⟩
theorem e_L_law_800 : zD cL_law 800 (.iadd) 1 801 := ⟨by decide +kernel, rfl⟩
theorem e_L_law_801 : zD cL_law 801 (.iaload) 1 802 := ⟨by decide +kernel, rfl⟩
theorem e_L_law_802 : zAL cL_law 802 0 803 := .inl ⟨0, by decide +kernel, rfl, rfl⟩
theorem e_L_law_803 : zIL cL_law 803 3 804 := .inl ⟨3, by decide +kernel, rfl, rfl⟩
theorem e_L_law_804 : zK cL_law 804 2 805 := .inl ⟨2, by decide +kernel, by decide +kernel, rfl⟩
theorem e_L_law_805 : zD cL_law 805 (.iadd) 1 806 := ⟨by decide +kernel, rfl⟩
theorem e_L_law_806 : zD cL_law 806 (.iaload) 1 807 := ⟨by decide +kernel, rfl⟩
theorem e_L_law_807 : zB cL_law 807 (.ifCond .eq 7) 7 814 810 := ⟨by decide +kernel, by decide, rfl⟩
theorem e_L_law_814 : zK cL_law 814 0 815 := .inl ⟨0, by decide +kernel, by decide +kernel, rfl⟩
theorem e_L_law_810 : zK cL_law 810 1 811 := .inl ⟨1, by decide +kernel, by decide +kernel, rfl⟩
theorem e_L_law_811 : zB cL_law 811 (.goto 4) 4 815 814 := ⟨by decide +kernel, by decide, rfl⟩
theorem e_L_law_815 : zD cL_law 815 (.invokevirtual 95) 3 818 := ⟨by decide +kernel, rfl⟩
theorem e_L_law_818 : zB cL_law 818 (.if_icmp .eq 288) 288 1106 821 := ⟨by decide +kernel, by decide, rfl⟩
theorem e_L_law_821 : zK cL_law 821 0 822 := .inl ⟨0, by decide +kernel, by decide +kernel, rfl⟩
theorem e_L_law_822 : decode cL_law 822 = .ok (.ireturn, 1) := by decide +kernel
theorem e_L_law_823 : zAL cL_law 823 1 824 := .inl ⟨1, by decide +kernel, rfl, rfl⟩
theorem e_L_law_824 : zAL cL_law 824 0 825 := .inl ⟨0, by decide +kernel, rfl, rfl⟩
theorem e_L_law_825 : zIL cL_law 825 3 826 := .inl ⟨3, by decide +kernel, rfl, rfl⟩
theorem e_L_law_826 : zK cL_law 826 1 827 := .inl ⟨1, by decide +kernel, by decide +kernel, rfl⟩
theorem e_L_law_827 : zD cL_law 827 (.iadd) 1 828 := ⟨by decide +kernel, rfl⟩
theorem e_L_law_828 : zD cL_law 828 (.iaload) 1 829 := ⟨by decide +kernel, rfl⟩
theorem e_L_law_829 : zAL cL_law 829 0 830 := .inl ⟨0, by decide +kernel, rfl, rfl⟩
theorem e_L_law_830 : zIL cL_law 830 3 831 := .inl ⟨3, by decide +kernel, rfl, rfl⟩
theorem e_L_law_831 : zK cL_law 831 2 832 := .inl ⟨2, by decide +kernel, by decide +kernel, rfl⟩
theorem e_L_law_832 : zD cL_law 832 (.iadd) 1 833 := ⟨by decide +kernel, rfl⟩
theorem e_L_law_833 : zD cL_law 833 (.iaload) 1 834 := ⟨by decide +kernel, rfl⟩
theorem e_L_law_834 : zD cL_law 834 (.invokevirtual 96) 3 837 := ⟨by decide +kernel, rfl⟩
theorem e_L_law_837 : zAL cL_law 837 2 838 := .inl ⟨2, by decide +kernel, rfl, rfl⟩
theorem e_L_law_838 : zAL cL_law 838 0 839 := .inl ⟨0, by decide +kernel, rfl, rfl⟩
theorem e_L_law_839 : zIL cL_law 839 3 840 := .inl ⟨3, by decide +kernel, rfl, rfl⟩
theorem e_L_law_840 : zK cL_law 840 1 841 := .inl ⟨1, by decide +kernel, by decide +kernel, rfl⟩
theorem e_L_law_841 : zD cL_law 841 (.iadd) 1 842 := ⟨by decide +kernel, rfl⟩
theorem e_L_law_842 : zD cL_law 842 (.iaload) 1 843 := ⟨by decide +kernel, rfl⟩
theorem e_L_law_843 : zAL cL_law 843 0 844 := .inl ⟨0, by decide +kernel, rfl, rfl⟩
theorem e_L_law_844 : zIL cL_law 844 3 845 := .inl ⟨3, by decide +kernel, rfl, rfl⟩
theorem e_L_law_845 : zK cL_law 845 2 846 := .inl ⟨2, by decide +kernel, by decide +kernel, rfl⟩
theorem e_L_law_846 : zD cL_law 846 (.iadd) 1 847 := ⟨by decide +kernel, rfl⟩
theorem e_L_law_847 : zD cL_law 847 (.iaload) 1 848 := ⟨by decide +kernel, rfl⟩
theorem e_L_law_848 : zD cL_law 848 (.invokevirtual 99) 3 851 := ⟨by decide +kernel, rfl⟩
theorem e_L_law_851 : zB cL_law 851 (.if_icmp .eq 255) 255 1106 854 := ⟨by decide +kernel, by decide, rfl⟩
theorem e_L_law_854 : zK cL_law 854 0 855 := .inl ⟨0, by decide +kernel, by decide +kernel, rfl⟩
theorem e_L_law_855 : decode cL_law 855 = .ok (.ireturn, 1) := by decide +kernel
theorem e_L_law_856 : zAL cL_law 856 1 857 := .inl ⟨1, by decide +kernel, rfl, rfl⟩
theorem e_L_law_857 : zAL cL_law 857 0 858 := .inl ⟨0, by decide +kernel, rfl, rfl⟩
theorem e_L_law_858 : zIL cL_law 858 3 859 := .inl ⟨3, by decide +kernel, rfl, rfl⟩
theorem e_L_law_859 : zK cL_law 859 1 860 := .inl ⟨1, by decide +kernel, by decide +kernel, rfl⟩
theorem e_L_law_860 : zD cL_law 860 (.iadd) 1 861 := ⟨by decide +kernel, rfl⟩
theorem e_L_law_861 : zD cL_law 861 (.iaload) 1 862 := ⟨by decide +kernel, rfl⟩
theorem e_L_law_862 : zD cL_law 862 (.invokevirtual 100) 3 865 := ⟨by decide +kernel, rfl⟩
theorem e_L_law_865 : zAL cL_law 865 2 866 := .inl ⟨2, by decide +kernel, rfl, rfl⟩
theorem e_L_law_866 : zAL cL_law 866 0 867 := .inl ⟨0, by decide +kernel, rfl, rfl⟩
theorem e_L_law_867 : zIL cL_law 867 3 868 := .inl ⟨3, by decide +kernel, rfl, rfl⟩
theorem e_L_law_868 : zK cL_law 868 1 869 := .inl ⟨1, by decide +kernel, by decide +kernel, rfl⟩
theorem e_L_law_869 : zD cL_law 869 (.iadd) 1 870 := ⟨by decide +kernel, rfl⟩
theorem e_L_law_870 : zD cL_law 870 (.iaload) 1 871 := ⟨by decide +kernel, rfl⟩
theorem e_L_law_871 : zD cL_law 871 (.invokevirtual 103) 3 874 := ⟨by decide +kernel, rfl⟩
theorem e_L_law_874 : zB cL_law 874 (.if_icmp .eq 232) 232 1106 877 := ⟨by decide +kernel, by decide, rfl⟩
theorem e_L_law_877 : zK cL_law 877 0 878 := .inl ⟨0, by decide +kernel, by decide +kernel, rfl⟩
theorem e_L_law_878 : decode cL_law 878 = .ok (.ireturn, 1) := by decide +kernel
theorem e_L_law_879 : zAL cL_law 879 1 880 := .inl ⟨1, by decide +kernel, rfl, rfl⟩
theorem e_L_law_880 : zAL cL_law 880 0 881 := .inl ⟨0, by decide +kernel, rfl, rfl⟩
theorem e_L_law_881 : zIL cL_law 881 3 882 := .inl ⟨3, by decide +kernel, rfl, rfl⟩
theorem e_L_law_882 : zK cL_law 882 1 883 := .inl ⟨1, by decide +kernel, by decide +kernel, rfl⟩
theorem e_L_law_883 : zD cL_law 883 (.iadd) 1 884 := ⟨by decide +kernel, rfl⟩
theorem e_L_law_884 : zD cL_law 884 (.iaload) 1 885 := ⟨by decide +kernel, rfl⟩
theorem e_L_law_885 : zAL cL_law 885 0 886 := .inl ⟨0, by decide +kernel, rfl, rfl⟩
theorem e_L_law_886 : zIL cL_law 886 3 887 := .inl ⟨3, by decide +kernel, rfl, rfl⟩
theorem e_L_law_887 : zK cL_law 887 2 888 := .inl ⟨2, by decide +kernel, by decide +kernel, rfl⟩
theorem e_L_law_888 : zD cL_law 888 (.iadd) 1 889 := ⟨by decide +kernel, rfl⟩
theorem e_L_law_889 : zD cL_law 889 (.iaload) 1 890 := ⟨by decide +kernel, rfl⟩
theorem e_L_law_890 : zD cL_law 890 (.invokevirtual 104) 3 893 := ⟨by decide +kernel, rfl⟩
theorem e_L_law_893 : zAL cL_law 893 2 894 := .inl ⟨2, by decide +kernel, rfl, rfl⟩
theorem e_L_law_894 : zAL cL_law 894 0 895 := .inl ⟨0, by decide +kernel, rfl, rfl⟩
theorem e_L_law_895 : zIL cL_law 895 3 896 := .inl ⟨3, by decide +kernel, rfl, rfl⟩
theorem e_L_law_896 : zK cL_law 896 1 897 := .inl ⟨1, by decide +kernel, by decide +kernel, rfl⟩
theorem e_L_law_897 : zD cL_law 897 (.iadd) 1 898 := ⟨by decide +kernel, rfl⟩
theorem e_L_law_898 : zD cL_law 898 (.iaload) 1 899 := ⟨by decide +kernel, rfl⟩
theorem e_L_law_899 : zAL cL_law 899 0 900 := .inl ⟨0, by decide +kernel, rfl, rfl⟩
theorem e_L_law_900 : zIL cL_law 900 3 901 := .inl ⟨3, by decide +kernel, rfl, rfl⟩
theorem e_L_law_901 : zK cL_law 901 2 902 := .inl ⟨2, by decide +kernel, by decide +kernel, rfl⟩
theorem e_L_law_902 : zD cL_law 902 (.iadd) 1 903 := ⟨by decide +kernel, rfl⟩
theorem e_L_law_903 : zD cL_law 903 (.iaload) 1 904 := ⟨by decide +kernel, rfl⟩
theorem e_L_law_904 : zD cL_law 904 (.invokevirtual 107) 3 907 := ⟨by decide +kernel, rfl⟩
theorem e_L_law_907 : zB cL_law 907 (.if_icmp .eq 199) 199 1106 910 := ⟨by decide +kernel, by decide, rfl⟩
theorem e_L_law_910 : zK cL_law 910 0 911 := .inl ⟨0, by decide +kernel, by decide +kernel, rfl⟩
theorem e_L_law_911 : decode cL_law 911 = .ok (.ireturn, 1) := by decide +kernel
theorem e_L_law_912 : zAL cL_law 912 1 913 := .inl ⟨1, by decide +kernel, rfl, rfl⟩
theorem e_L_law_913 : zAL cL_law 913 0 914 := .inl ⟨0, by decide +kernel, rfl, rfl⟩
theorem e_L_law_914 : zIL cL_law 914 3 915 := .inl ⟨3, by decide +kernel, rfl, rfl⟩
theorem e_L_law_915 : zK cL_law 915 1 916 := .inl ⟨1, by decide +kernel, by decide +kernel, rfl⟩
theorem e_L_law_916 : zD cL_law 916 (.iadd) 1 917 := ⟨by decide +kernel, rfl⟩
theorem e_L_law_917 : zD cL_law 917 (.iaload) 1 918 := ⟨by decide +kernel, rfl⟩
theorem e_L_law_918 : zAL cL_law 918 0 919 := .inl ⟨0, by decide +kernel, rfl, rfl⟩
theorem e_L_law_919 : zIL cL_law 919 3 920 := .inl ⟨3, by decide +kernel, rfl, rfl⟩
theorem e_L_law_920 : zK cL_law 920 2 921 := .inl ⟨2, by decide +kernel, by decide +kernel, rfl⟩
theorem e_L_law_921 : zD cL_law 921 (.iadd) 1 922 := ⟨by decide +kernel, rfl⟩
theorem e_L_law_922 : zD cL_law 922 (.iaload) 1 923 := ⟨by decide +kernel, rfl⟩
theorem e_L_law_923 : zD cL_law 923 (.invokevirtual 108) 3 926 := ⟨by decide +kernel, rfl⟩
theorem e_L_law_926 : zAL cL_law 926 2 927 := .inl ⟨2, by decide +kernel, rfl, rfl⟩
theorem e_L_law_927 : zAL cL_law 927 0 928 := .inl ⟨0, by decide +kernel, rfl, rfl⟩
theorem e_L_law_928 : zIL cL_law 928 3 929 := .inl ⟨3, by decide +kernel, rfl, rfl⟩
theorem e_L_law_929 : zK cL_law 929 1 930 := .inl ⟨1, by decide +kernel, by decide +kernel, rfl⟩
theorem e_L_law_930 : zD cL_law 930 (.iadd) 1 931 := ⟨by decide +kernel, rfl⟩
theorem e_L_law_931 : zD cL_law 931 (.iaload) 1 932 := ⟨by decide +kernel, rfl⟩
theorem e_L_law_932 : zAL cL_law 932 0 933 := .inl ⟨0, by decide +kernel, rfl, rfl⟩
theorem e_L_law_933 : zIL cL_law 933 3 934 := .inl ⟨3, by decide +kernel, rfl, rfl⟩
theorem e_L_law_934 : zK cL_law 934 2 935 := .inl ⟨2, by decide +kernel, by decide +kernel, rfl⟩
theorem e_L_law_935 : zD cL_law 935 (.iadd) 1 936 := ⟨by decide +kernel, rfl⟩
theorem e_L_law_936 : zD cL_law 936 (.iaload) 1 937 := ⟨by decide +kernel, rfl⟩
theorem e_L_law_937 : zD cL_law 937 (.invokevirtual 111) 3 940 := ⟨by decide +kernel, rfl⟩
theorem e_L_law_940 : zB cL_law 940 (.if_icmp .eq 166) 166 1106 943 := ⟨by decide +kernel, by decide, rfl⟩
theorem e_L_law_943 : zK cL_law 943 0 944 := .inl ⟨0, by decide +kernel, by decide +kernel, rfl⟩
theorem e_L_law_944 : decode cL_law 944 = .ok (.ireturn, 1) := by decide +kernel
theorem e_L_law_945 : zAL cL_law 945 1 946 := .inl ⟨1, by decide +kernel, rfl, rfl⟩
theorem e_L_law_946 : zAL cL_law 946 0 947 := .inl ⟨0, by decide +kernel, rfl, rfl⟩
theorem e_L_law_947 : zIL cL_law 947 3 948 := .inl ⟨3, by decide +kernel, rfl, rfl⟩
theorem e_L_law_948 : zK cL_law 948 1 949 := .inl ⟨1, by decide +kernel, by decide +kernel, rfl⟩
theorem e_L_law_949 : zD cL_law 949 (.iadd) 1 950 := ⟨by decide +kernel, rfl⟩
theorem e_L_law_950 : zD cL_law 950 (.iaload) 1 951 := ⟨by decide +kernel, rfl⟩
theorem e_L_law_951 : zAL cL_law 951 0 952 := .inl ⟨0, by decide +kernel, rfl, rfl⟩
theorem e_L_law_952 : zIL cL_law 952 3 953 := .inl ⟨3, by decide +kernel, rfl, rfl⟩
theorem e_L_law_953 : zK cL_law 953 2 954 := .inl ⟨2, by decide +kernel, by decide +kernel, rfl⟩
theorem e_L_law_954 : zD cL_law 954 (.iadd) 1 955 := ⟨by decide +kernel, rfl⟩
theorem e_L_law_955 : zD cL_law 955 (.iaload) 1 956 := ⟨by decide +kernel, rfl⟩
theorem e_L_law_956 : zD cL_law 956 (.invokevirtual 112) 3 959 := ⟨by decide +kernel, rfl⟩
theorem e_L_law_959 : zAL cL_law 959 2 960 := .inl ⟨2, by decide +kernel, rfl, rfl⟩
theorem e_L_law_960 : zAL cL_law 960 0 961 := .inl ⟨0, by decide +kernel, rfl, rfl⟩
theorem e_L_law_961 : zIL cL_law 961 3 962 := .inl ⟨3, by decide +kernel, rfl, rfl⟩
theorem e_L_law_962 : zK cL_law 962 1 963 := .inl ⟨1, by decide +kernel, by decide +kernel, rfl⟩
theorem e_L_law_963 : zD cL_law 963 (.iadd) 1 964 := ⟨by decide +kernel, rfl⟩
theorem e_L_law_964 : zD cL_law 964 (.iaload) 1 965 := ⟨by decide +kernel, rfl⟩
theorem e_L_law_965 : zAL cL_law 965 0 966 := .inl ⟨0, by decide +kernel, rfl, rfl⟩
theorem e_L_law_966 : zIL cL_law 966 3 967 := .inl ⟨3, by decide +kernel, rfl, rfl⟩
theorem e_L_law_967 : zK cL_law 967 2 968 := .inl ⟨2, by decide +kernel, by decide +kernel, rfl⟩
theorem e_L_law_968 : zD cL_law 968 (.iadd) 1 969 := ⟨by decide +kernel, rfl⟩
theorem e_L_law_969 : zD cL_law 969 (.iaload) 1 970 := ⟨by decide +kernel, rfl⟩
theorem e_L_law_970 : zD cL_law 970 (.invokevirtual 115) 3 973 := ⟨by decide +kernel, rfl⟩
theorem e_L_law_973 : zB cL_law 973 (.if_icmp .eq 133) 133 1106 976 := ⟨by decide +kernel, by decide, rfl⟩
theorem e_L_law_976 : zK cL_law 976 0 977 := .inl ⟨0, by decide +kernel, by decide +kernel, rfl⟩
theorem e_L_law_977 : decode cL_law 977 = .ok (.ireturn, 1) := by decide +kernel
theorem e_L_law_978 : zAL cL_law 978 1 979 := .inl ⟨1, by decide +kernel, rfl, rfl⟩
theorem e_L_law_979 : zAL cL_law 979 0 980 := .inl ⟨0, by decide +kernel, rfl, rfl⟩
theorem e_L_law_980 : zIL cL_law 980 3 981 := .inl ⟨3, by decide +kernel, rfl, rfl⟩
theorem e_L_law_981 : zK cL_law 981 1 982 := .inl ⟨1, by decide +kernel, by decide +kernel, rfl⟩
theorem e_L_law_982 : zD cL_law 982 (.iadd) 1 983 := ⟨by decide +kernel, rfl⟩
theorem e_L_law_983 : zD cL_law 983 (.iaload) 1 984 := ⟨by decide +kernel, rfl⟩
theorem e_L_law_984 : zAL cL_law 984 0 985 := .inl ⟨0, by decide +kernel, rfl, rfl⟩
theorem e_L_law_985 : zIL cL_law 985 3 986 := .inl ⟨3, by decide +kernel, rfl, rfl⟩
theorem e_L_law_986 : zK cL_law 986 2 987 := .inl ⟨2, by decide +kernel, by decide +kernel, rfl⟩
theorem e_L_law_987 : zD cL_law 987 (.iadd) 1 988 := ⟨by decide +kernel, rfl⟩
theorem e_L_law_988 : zD cL_law 988 (.iaload) 1 989 := ⟨by decide +kernel, rfl⟩
theorem e_L_law_989 : zD cL_law 989 (.invokevirtual 116) 3 992 := ⟨by decide +kernel, rfl⟩
theorem e_L_law_992 : zAL cL_law 992 2 993 := .inl ⟨2, by decide +kernel, rfl, rfl⟩
theorem e_L_law_993 : zAL cL_law 993 0 994 := .inl ⟨0, by decide +kernel, rfl, rfl⟩
theorem e_L_law_994 : zIL cL_law 994 3 995 := .inl ⟨3, by decide +kernel, rfl, rfl⟩
theorem e_L_law_995 : zK cL_law 995 1 996 := .inl ⟨1, by decide +kernel, by decide +kernel, rfl⟩
theorem e_L_law_996 : zD cL_law 996 (.iadd) 1 997 := ⟨by decide +kernel, rfl⟩
theorem e_L_law_997 : zD cL_law 997 (.iaload) 1 998 := ⟨by decide +kernel, rfl⟩
theorem e_L_law_998 : zAL cL_law 998 0 999 := .inl ⟨0, by decide +kernel, rfl, rfl⟩
theorem e_L_law_999 : zIL cL_law 999 3 1000 := .inl ⟨3, by decide +kernel, rfl, rfl⟩
theorem e_L_law_1000 : zK cL_law 1000 2 1001 := .inl ⟨2, by decide +kernel, by decide +kernel, rfl⟩
theorem e_L_law_1001 : zD cL_law 1001 (.iadd) 1 1002 := ⟨by decide +kernel, rfl⟩
theorem e_L_law_1002 : zD cL_law 1002 (.iaload) 1 1003 := ⟨by decide +kernel, rfl⟩
theorem e_L_law_1003 : zD cL_law 1003 (.invokevirtual 119) 3 1006 := ⟨by decide +kernel, rfl⟩
theorem e_L_law_1006 : zB cL_law 1006 (.if_icmp .eq 100) 100 1106 1009 := ⟨by decide +kernel, by decide, rfl⟩
theorem e_L_law_1009 : zK cL_law 1009 0 1010 := .inl ⟨0, by decide +kernel, by decide +kernel, rfl⟩
theorem e_L_law_1010 : decode cL_law 1010 = .ok (.ireturn, 1) := by decide +kernel
theorem e_L_law_1011 : zAL cL_law 1011 1 1012 := .inl ⟨1, by decide +kernel, rfl, rfl⟩
theorem e_L_law_1012 : zAL cL_law 1012 0 1013 := .inl ⟨0, by decide +kernel, rfl, rfl⟩
theorem e_L_law_1013 : zIL cL_law 1013 3 1014 := .inl ⟨3, by decide +kernel, rfl, rfl⟩
theorem e_L_law_1014 : zK cL_law 1014 1 1015 := .inl ⟨1, by decide +kernel, by decide +kernel, rfl⟩
theorem e_L_law_1015 : zD cL_law 1015 (.iadd) 1 1016 := ⟨by decide +kernel, rfl⟩
theorem e_L_law_1016 : zD cL_law 1016 (.iaload) 1 1017 := ⟨by decide +kernel, rfl⟩
theorem e_L_law_1017 : zD cL_law 1017 (.invokevirtual 120) 3 1020 := ⟨by decide +kernel, rfl⟩
theorem e_L_law_1020 : zAL cL_law 1020 2 1021 := .inl ⟨2, by decide +kernel, rfl, rfl⟩
theorem e_L_law_1021 : zAL cL_law 1021 0 1022 := .inl ⟨0, by decide +kernel, rfl, rfl⟩
theorem e_L_law_1022 : zIL cL_law 1022 3 1023 := .inl ⟨3, by decide +kernel, rfl, rfl⟩
theorem e_L_law_1023 : zK cL_law 1023 1 1024 := .inl ⟨1, by decide +kernel, by decide +kernel, rfl⟩
theorem e_L_law_1024 : zD cL_law 1024 (.iadd) 1 1025 := ⟨by decide +kernel, rfl⟩
theorem e_L_law_1025 : zD cL_law 1025 (.iaload) 1 1026 := ⟨by decide +kernel, rfl⟩
theorem e_L_law_1026 : zD cL_law 1026 (.invokevirtual 123) 3 1029 := ⟨by decide +kernel, rfl⟩
theorem e_L_law_1029 : zB cL_law 1029 (.if_icmp .eq 77) 77 1106 1032 := ⟨by decide +kernel, by decide, rfl⟩
theorem e_L_law_1032 : zK cL_law 1032 0 1033 := .inl ⟨0, by decide +kernel, by decide +kernel, rfl⟩
theorem e_L_law_1033 : decode cL_law 1033 = .ok (.ireturn, 1) := by decide +kernel
theorem e_L_law_1034 : zAL cL_law 1034 1 1035 := .inl ⟨1, by decide +kernel, rfl, rfl⟩
theorem e_L_law_1035 : zD cL_law 1035 (.invokevirtual 124) 3 1038 := ⟨by decide +kernel, rfl⟩
theorem e_L_law_1038 : zAL cL_law 1038 2 1039 := .inl ⟨2, by decide +kernel, rfl, rfl⟩
theorem e_L_law_1039 : zD cL_law 1039 (.invokevirtual 128) 3 1042 := ⟨by decide +kernel, rfl⟩
theorem e_L_law_1042 : zB cL_law 1042 (.if_icmp .eq 64) 64 1106 1045 := ⟨by decide +kernel, by decide, rfl⟩
theorem e_L_law_1045 : zK cL_law 1045 0 1046 := .inl ⟨0, by decide +kernel, by decide +kernel, rfl⟩
theorem e_L_law_1046 : decode cL_law 1046 = .ok (.ireturn, 1) := by decide +kernel
theorem e_L_law_1047 : zAL cL_law 1047 1 1048 := .inl ⟨1, by decide +kernel, rfl, rfl⟩
theorem e_L_law_1048 : zD cL_law 1048 (.invokevirtual 129) 3 1051 := ⟨by decide +kernel, rfl⟩
theorem e_L_law_1051 : zAL cL_law 1051 2 1052 := .inl ⟨2, by decide +kernel, rfl, rfl⟩
theorem e_L_law_1052 : zD cL_law 1052 (.invokevirtual 133) 3 1055 := ⟨by decide +kernel, rfl⟩
theorem e_L_law_1055 : zB cL_law 1055 (.if_icmp .eq 51) 51 1106 1058 := ⟨by decide +kernel, by decide, rfl⟩
theorem e_L_law_1058 : zK cL_law 1058 0 1059 := .inl ⟨0, by decide +kernel, by decide +kernel, rfl⟩
theorem e_L_law_1059 : decode cL_law 1059 = .ok (.ireturn, 1) := by decide +kernel
theorem e_L_law_1060 : zAL cL_law 1060 1 1061 := .inl ⟨1, by decide +kernel, rfl, rfl⟩
theorem e_L_law_1061 : zAL cL_law 1061 0 1062 := .inl ⟨0, by decide +kernel, rfl, rfl⟩
theorem e_L_law_1062 : zIL cL_law 1062 3 1063 := .inl ⟨3, by decide +kernel, rfl, rfl⟩
theorem e_L_law_1063 : zK cL_law 1063 1 1064 := .inl ⟨1, by decide +kernel, by decide +kernel, rfl⟩
theorem e_L_law_1064 : zD cL_law 1064 (.iadd) 1 1065 := ⟨by decide +kernel, rfl⟩
theorem e_L_law_1065 : zD cL_law 1065 (.iaload) 1 1066 := ⟨by decide +kernel, rfl⟩
theorem e_L_law_1066 : zD cL_law 1066 (.invokevirtual 134) 3 1069 := ⟨by decide +kernel, rfl⟩
theorem e_L_law_1069 : zAL cL_law 1069 2 1070 := .inl ⟨2, by decide +kernel, rfl, rfl⟩
theorem e_L_law_1070 : zAL cL_law 1070 0 1071 := .inl ⟨0, by decide +kernel, rfl, rfl⟩
theorem e_L_law_1071 : zIL cL_law 1071 3 1072 := .inl ⟨3, by decide +kernel, rfl, rfl⟩
theorem e_L_law_1072 : zK cL_law 1072 1 1073 := .inl ⟨1, by decide +kernel, by decide +kernel, rfl⟩
theorem e_L_law_1073 : zD cL_law 1073 (.iadd) 1 1074 := ⟨by decide +kernel, rfl⟩
theorem e_L_law_1074 : zD cL_law 1074 (.iaload) 1 1075 := ⟨by decide +kernel, rfl⟩
theorem e_L_law_1075 : zD cL_law 1075 (.invokevirtual 137) 3 1078 := ⟨by decide +kernel, rfl⟩
theorem e_L_law_1078 : zB cL_law 1078 (.if_icmp .eq 28) 28 1106 1081 := ⟨by decide +kernel, by decide, rfl⟩
theorem e_L_law_1081 : zK cL_law 1081 0 1082 := .inl ⟨0, by decide +kernel, by decide +kernel, rfl⟩
theorem e_L_law_1082 : decode cL_law 1082 = .ok (.ireturn, 1) := by decide +kernel
theorem e_L_law_1083 : zAL cL_law 1083 1 1084 := .inl ⟨1, by decide +kernel, rfl, rfl⟩
theorem e_L_law_1084 : zAL cL_law 1084 0 1085 := .inl ⟨0, by decide +kernel, rfl, rfl⟩
theorem e_L_law_1085 : zIL cL_law 1085 3 1086 := .inl ⟨3, by decide +kernel, rfl, rfl⟩
theorem e_L_law_1086 : zK cL_law 1086 1 1087 := .inl ⟨1, by decide +kernel, by decide +kernel, rfl⟩
theorem e_L_law_1087 : zD cL_law 1087 (.iadd) 1 1088 := ⟨by decide +kernel, rfl⟩
theorem e_L_law_1088 : zD cL_law 1088 (.iaload) 1 1089 := ⟨by decide +kernel, rfl⟩
theorem e_L_law_1089 : zD cL_law 1089 (.invokevirtual 138) 3 1092 := ⟨by decide +kernel, rfl⟩
theorem e_L_law_1092 : zAL cL_law 1092 2 1093 := .inl ⟨2, by decide +kernel, rfl, rfl⟩
theorem e_L_law_1093 : zAL cL_law 1093 0 1094 := .inl ⟨0, by decide +kernel, rfl, rfl⟩
theorem e_L_law_1094 : zIL cL_law 1094 3 1095 := .inl ⟨3, by decide +kernel, rfl, rfl⟩
theorem e_L_law_1095 : zK cL_law 1095 1 1096 := .inl ⟨1, by decide +kernel, by decide +kernel, rfl⟩
theorem e_L_law_1096 : zD cL_law 1096 (.iadd) 1 1097 := ⟨by decide +kernel, rfl⟩
theorem e_L_law_1097 : zD cL_law 1097 (.iaload) 1 1098 := ⟨by decide +kernel, rfl⟩
theorem e_L_law_1098 : zD cL_law 1098 (.invokevirtual 141) 3 1101 := ⟨by decide +kernel, rfl⟩
theorem e_L_law_1101 : zB cL_law 1101 (.if_icmp .eq 5) 5 1106 1104 := ⟨by decide +kernel, by decide, rfl⟩
theorem e_L_law_1104 : zK cL_law 1104 0 1105 := .inl ⟨0, by decide +kernel, by decide +kernel, rfl⟩
theorem e_L_law_1105 : decode cL_law 1105 = .ok (.ireturn, 1) := by decide +kernel
set_option maxRecDepth 20000 in
theorem lk_L_13 : zLV RL 13 yX11_way cX11_way 4 (some .boolean) 3 := ⟨⟨zT_in 556 (by decide +kernel) (by decide +kernel), zT_in 557 (by decide +kernel) (by decide +kernel), zT_in 558 (by decide +kernel) (by decide +kernel), zT_in 106 (by decide +kernel) (by decide +kernel), zT_in 559 (by decide +kernel) (by decide +kernel)⟩, ⟨by decide +kernel, by decide +kernel, by decide +kernel⟩, by decide⟩
set_option maxRecDepth 20000 in
theorem lk_L_17 : zLV RL 17 yX12_way cX12_way 4 (some .boolean) 3 := ⟨⟨zT_in 1505 (by decide +kernel) (by decide +kernel), zT_in 1506 (by decide +kernel) (by decide +kernel), zT_in 1507 (by decide +kernel) (by decide +kernel), zT_in 118 (by decide +kernel) (by decide +kernel), zT_in 1508 (by decide +kernel) (by decide +kernel)⟩, ⟨by decide +kernel, by decide +kernel, by decide +kernel⟩, by decide⟩
set_option maxRecDepth 20000 in
theorem lk_L_18 : zLV RL 18 yX11_place cX11_place 5 (some .boolean) 4 := ⟨⟨zT_in 563 (by decide +kernel) (by decide +kernel), zT_in 564 (by decide +kernel) (by decide +kernel), zT_in 565 (by decide +kernel) (by decide +kernel), zT_in 106 (by decide +kernel) (by decide +kernel), zT_in 566 (by decide +kernel) (by decide +kernel)⟩, ⟨by decide +kernel, by decide +kernel, by decide +kernel⟩, by decide⟩
set_option maxRecDepth 20000 in
theorem lk_L_22 : zLV RL 22 yX12_place cX12_place 5 (some .boolean) 4 := ⟨⟨zT_in 1515 (by decide +kernel) (by decide +kernel), zT_in 1516 (by decide +kernel) (by decide +kernel), zT_in 1517 (by decide +kernel) (by decide +kernel), zT_in 118 (by decide +kernel) (by decide +kernel), zT_in 1518 (by decide +kernel) (by decide +kernel)⟩, ⟨by decide +kernel, by decide +kernel, by decide +kernel⟩, by decide⟩
set_option maxRecDepth 20000 in
theorem lk_L_23 : zLV RL 23 yX11_more cX11_more 4 (some .boolean) 3 := ⟨⟨zT_in 576 (by decide +kernel) (by decide +kernel), zT_in 577 (by decide +kernel) (by decide +kernel), zT_in 578 (by decide +kernel) (by decide +kernel), zT_in 106 (by decide +kernel) (by decide +kernel), zT_in 579 (by decide +kernel) (by decide +kernel)⟩, ⟨by decide +kernel, by decide +kernel, by decide +kernel⟩, by decide⟩
set_option maxRecDepth 20000 in
theorem lk_L_27 : zLV RL 27 yX12_more cX12_more 4 (some .boolean) 3 := ⟨⟨zT_in 1529 (by decide +kernel) (by decide +kernel), zT_in 1530 (by decide +kernel) (by decide +kernel), zT_in 1531 (by decide +kernel) (by decide +kernel), zT_in 118 (by decide +kernel) (by decide +kernel), zT_in 1532 (by decide +kernel) (by decide +kernel)⟩, ⟨by decide +kernel, by decide +kernel, by decide +kernel⟩, by decide⟩
set_option maxRecDepth 20000 in
theorem lk_L_28 : zLV RL 28 yX11_key cX11_key 4 (some .boolean) 2 := ⟨⟨zT_in 580 (by decide +kernel) (by decide +kernel), zT_in 581 (by decide +kernel) (by decide +kernel), zT_in 582 (by decide +kernel) (by decide +kernel), zT_in 106 (by decide +kernel) (by decide +kernel), zT_in 583 (by decide +kernel) (by decide +kernel)⟩, ⟨by decide +kernel, by decide +kernel, by decide +kernel⟩, by decide⟩
set_option maxRecDepth 20000 in
theorem lk_L_32 : zLV RL 32 yX12_key cX12_key 3 (some .boolean) 2 := ⟨⟨zT_in 1533 (by decide +kernel) (by decide +kernel), zT_in 1534 (by decide +kernel) (by decide +kernel), zT_in 1535 (by decide +kernel) (by decide +kernel), zT_in 118 (by decide +kernel) (by decide +kernel), zT_in 1536 (by decide +kernel) (by decide +kernel)⟩, ⟨by decide +kernel, by decide +kernel, by decide +kernel⟩, by decide⟩
set_option maxRecDepth 20000 in
theorem lk_L_33 : zLV RL 33 yX11_heart cX11_heart 2 (some .boolean) 1 := ⟨⟨zT_in 584 (by decide +kernel) (by decide +kernel), zT_in 585 (by decide +kernel) (by decide +kernel), zT_in 586 (by decide +kernel) (by decide +kernel), zT_in 106 (by decide +kernel) (by decide +kernel), zT_in 587 (by decide +kernel) (by decide +kernel)⟩, ⟨by decide +kernel, by decide +kernel, by decide +kernel⟩, by decide⟩
set_option maxRecDepth 20000 in
theorem lk_L_37 : zLV RL 37 yX12_heart cX12_heart 2 (some .boolean) 1 := ⟨⟨zT_in 1537 (by decide +kernel) (by decide +kernel), zT_in 1538 (by decide +kernel) (by decide +kernel), zT_in 1539 (by decide +kernel) (by decide +kernel), zT_in 118 (by decide +kernel) (by decide +kernel), zT_in 1540 (by decide +kernel) (by decide +kernel)⟩, ⟨by decide +kernel, by decide +kernel, by decide +kernel⟩, by decide⟩
set_option maxRecDepth 20000 in
theorem lk_L_38 : zLV RL 38 yX11_feed cX11_feed 6 (some .int) 5 := ⟨⟨zT_in 588 (by decide +kernel) (by decide +kernel), zT_in 589 (by decide +kernel) (by decide +kernel), zT_in 590 (by decide +kernel) (by decide +kernel), zT_in 106 (by decide +kernel) (by decide +kernel), zT_in 591 (by decide +kernel) (by decide +kernel)⟩, ⟨by decide +kernel, by decide +kernel, by decide +kernel⟩, by decide⟩
set_option maxRecDepth 20000 in
theorem lk_L_42 : zLV RL 42 yX12_feed cX12_feed 6 (some .int) 5 := ⟨⟨zT_in 1557 (by decide +kernel) (by decide +kernel), zT_in 1558 (by decide +kernel) (by decide +kernel), zT_in 1559 (by decide +kernel) (by decide +kernel), zT_in 118 (by decide +kernel) (by decide +kernel), zT_in 1560 (by decide +kernel) (by decide +kernel)⟩, ⟨by decide +kernel, by decide +kernel, by decide +kernel⟩, by decide⟩
set_option maxRecDepth 20000 in
theorem lk_L_43 : zLV RL 43 yX11_law cX11_law 3 (some .int) 1 := ⟨⟨zT_in 601 (by decide +kernel) (by decide +kernel), zT_in 602 (by decide +kernel) (by decide +kernel), zT_in 603 (by decide +kernel) (by decide +kernel), zT_in 106 (by decide +kernel) (by decide +kernel), zT_in 604 (by decide +kernel) (by decide +kernel)⟩, ⟨by decide +kernel, by decide +kernel, by decide +kernel⟩, by decide⟩
set_option maxRecDepth 20000 in
theorem lk_L_47 : zLV RL 47 yX12_law cX12_law 4 (some .int) 1 := ⟨⟨zT_in 1565 (by decide +kernel) (by decide +kernel), zT_in 1566 (by decide +kernel) (by decide +kernel), zT_in 1567 (by decide +kernel) (by decide +kernel), zT_in 118 (by decide +kernel) (by decide +kernel), zT_in 1568 (by decide +kernel) (by decide +kernel)⟩, ⟨by decide +kernel, by decide +kernel, by decide +kernel⟩, by decide⟩
set_option maxRecDepth 20000 in
theorem lk_L_48 : zLV RL 48 yX11_tale cX11_tale 4 (some .int) 2 := ⟨⟨zT_in 753 (by decide +kernel) (by decide +kernel), zT_in 754 (by decide +kernel) (by decide +kernel), zT_in 755 (by decide +kernel) (by decide +kernel), zT_in 106 (by decide +kernel) (by decide +kernel), zT_in 756 (by decide +kernel) (by decide +kernel)⟩, ⟨by decide +kernel, by decide +kernel, by decide +kernel⟩, by decide⟩
set_option maxRecDepth 20000 in
theorem lk_L_52 : zLV RL 52 yX12_tale cX12_tale 5 (some .int) 2 := ⟨⟨zT_in 1692 (by decide +kernel) (by decide +kernel), zT_in 1693 (by decide +kernel) (by decide +kernel), zT_in 1694 (by decide +kernel) (by decide +kernel), zT_in 118 (by decide +kernel) (by decide +kernel), zT_in 1695 (by decide +kernel) (by decide +kernel)⟩, ⟨by decide +kernel, by decide +kernel, by decide +kernel⟩, by decide⟩
set_option maxRecDepth 20000 in
theorem lk_L_53 : zLV RL 53 yX11_soonest cX11_soonest 2 (some .int) 1 := ⟨⟨zT_in 847 (by decide +kernel) (by decide +kernel), zT_in 848 (by decide +kernel) (by decide +kernel), zT_in 849 (by decide +kernel) (by decide +kernel), zT_in 106 (by decide +kernel) (by decide +kernel), zT_in 850 (by decide +kernel) (by decide +kernel)⟩, ⟨by decide +kernel, by decide +kernel, by decide +kernel⟩, by decide⟩
set_option maxRecDepth 20000 in
theorem lk_L_56 : zLV RL 56 yX12_soonest cX12_soonest 3 (some .int) 1 := ⟨⟨zT_in 1733 (by decide +kernel) (by decide +kernel), zT_in 1734 (by decide +kernel) (by decide +kernel), zT_in 1735 (by decide +kernel) (by decide +kernel), zT_in 118 (by decide +kernel) (by decide +kernel), zT_in 1736 (by decide +kernel) (by decide +kernel)⟩, ⟨by decide +kernel, by decide +kernel, by decide +kernel⟩, by decide⟩
set_option maxRecDepth 20000 in
theorem lk_L_57 : zLV RL 57 yX11_plan cX11_plan 3 (some .int) 1 := ⟨⟨zT_in 929 (by decide +kernel) (by decide +kernel), zT_in 930 (by decide +kernel) (by decide +kernel), zT_in 931 (by decide +kernel) (by decide +kernel), zT_in 106 (by decide +kernel) (by decide +kernel), zT_in 932 (by decide +kernel) (by decide +kernel)⟩, ⟨by decide +kernel, by decide +kernel, by decide +kernel⟩, by decide⟩
set_option maxRecDepth 20000 in
theorem lk_L_60 : zLV RL 60 yX12_plan cX12_plan 6 (some .int) 1 := ⟨⟨zT_in 1774 (by decide +kernel) (by decide +kernel), zT_in 1775 (by decide +kernel) (by decide +kernel), zT_in 1776 (by decide +kernel) (by decide +kernel), zT_in 118 (by decide +kernel) (by decide +kernel), zT_in 1777 (by decide +kernel) (by decide +kernel)⟩, ⟨by decide +kernel, by decide +kernel, by decide +kernel⟩, by decide⟩
set_option maxRecDepth 20000 in
theorem lk_L_61 : zLV RL 61 yX11_missed cX11_missed 3 (some .int) 1 := ⟨⟨zT_in 947 (by decide +kernel) (by decide +kernel), zT_in 948 (by decide +kernel) (by decide +kernel), zT_in 949 (by decide +kernel) (by decide +kernel), zT_in 106 (by decide +kernel) (by decide +kernel), zT_in 950 (by decide +kernel) (by decide +kernel)⟩, ⟨by decide +kernel, by decide +kernel, by decide +kernel⟩, by decide⟩
set_option maxRecDepth 20000 in
theorem lk_L_64 : zLV RL 64 yX12_missed cX12_missed 5 (some .int) 1 := ⟨⟨zT_in 1782 (by decide +kernel) (by decide +kernel), zT_in 1783 (by decide +kernel) (by decide +kernel), zT_in 1784 (by decide +kernel) (by decide +kernel), zT_in 118 (by decide +kernel) (by decide +kernel), zT_in 1785 (by decide +kernel) (by decide +kernel)⟩, ⟨by decide +kernel, by decide +kernel, by decide +kernel⟩, by decide⟩
set_option maxRecDepth 20000 in
theorem lk_L_65 : zLV RL 65 yX11_hidden cX11_hidden 5 (some .int) 2 := ⟨⟨zT_in 955 (by decide +kernel) (by decide +kernel), zT_in 956 (by decide +kernel) (by decide +kernel), zT_in 957 (by decide +kernel) (by decide +kernel), zT_in 106 (by decide +kernel) (by decide +kernel), zT_in 958 (by decide +kernel) (by decide +kernel)⟩, ⟨by decide +kernel, by decide +kernel, by decide +kernel⟩, by decide⟩
set_option maxRecDepth 20000 in
theorem lk_L_68 : zLV RL 68 yX12_hidden cX12_hidden 9 (some .int) 2 := ⟨⟨zT_in 1786 (by decide +kernel) (by decide +kernel), zT_in 1787 (by decide +kernel) (by decide +kernel), zT_in 1788 (by decide +kernel) (by decide +kernel), zT_in 118 (by decide +kernel) (by decide +kernel), zT_in 1789 (by decide +kernel) (by decide +kernel)⟩, ⟨by decide +kernel, by decide +kernel, by decide +kernel⟩, by decide⟩
set_option maxRecDepth 20000 in
theorem lk_L_69 : zLV RL 69 yX11_night cX11_night 2 (some .int) 1 := ⟨⟨zT_in 991 (by decide +kernel) (by decide +kernel), zT_in 992 (by decide +kernel) (by decide +kernel), zT_in 993 (by decide +kernel) (by decide +kernel), zT_in 106 (by decide +kernel) (by decide +kernel), zT_in 994 (by decide +kernel) (by decide +kernel)⟩, ⟨by decide +kernel, by decide +kernel, by decide +kernel⟩, by decide⟩
set_option maxRecDepth 20000 in
theorem lk_L_72 : zLV RL 72 yX12_night cX12_night 2 (some .int) 1 := ⟨⟨zT_in 1648 (by decide +kernel) (by decide +kernel), zT_in 1649 (by decide +kernel) (by decide +kernel), zT_in 1650 (by decide +kernel) (by decide +kernel), zT_in 118 (by decide +kernel) (by decide +kernel), zT_in 1651 (by decide +kernel) (by decide +kernel)⟩, ⟨by decide +kernel, by decide +kernel, by decide +kernel⟩, by decide⟩
set_option maxRecDepth 20000 in
theorem lk_L_73 : zLV RL 73 yX11_tried cX11_tried 3 (some .int) 2 := ⟨⟨zT_in 1034 (by decide +kernel) (by decide +kernel), zT_in 1035 (by decide +kernel) (by decide +kernel), zT_in 1036 (by decide +kernel) (by decide +kernel), zT_in 106 (by decide +kernel) (by decide +kernel), zT_in 1037 (by decide +kernel) (by decide +kernel)⟩, ⟨by decide +kernel, by decide +kernel, by decide +kernel⟩, by decide⟩
set_option maxRecDepth 20000 in
theorem lk_L_76 : zLV RL 76 yX12_tried cX12_tried 12 (some .int) 2 := ⟨⟨zT_in 1688 (by decide +kernel) (by decide +kernel), zT_in 1689 (by decide +kernel) (by decide +kernel), zT_in 1690 (by decide +kernel) (by decide +kernel), zT_in 118 (by decide +kernel) (by decide +kernel), zT_in 1691 (by decide +kernel) (by decide +kernel)⟩, ⟨by decide +kernel, by decide +kernel, by decide +kernel⟩, by decide⟩
set_option maxRecDepth 20000 in
theorem lk_L_77 : zLV RL 77 yX11_story cX11_story 5 (some .long) 3 := ⟨⟨zT_in 1044 (by decide +kernel) (by decide +kernel), zT_in 1045 (by decide +kernel) (by decide +kernel), zT_in 1046 (by decide +kernel) (by decide +kernel), zT_in 106 (by decide +kernel) (by decide +kernel), zT_in 1047 (by decide +kernel) (by decide +kernel)⟩, ⟨by decide +kernel, by decide +kernel, by decide +kernel⟩, by decide⟩
set_option maxRecDepth 20000 in
theorem lk_L_81 : zLV RL 81 yX12_story cX12_story 8 (some .long) 3 := ⟨⟨zT_in 1805 (by decide +kernel) (by decide +kernel), zT_in 1806 (by decide +kernel) (by decide +kernel), zT_in 1807 (by decide +kernel) (by decide +kernel), zT_in 118 (by decide +kernel) (by decide +kernel), zT_in 1808 (by decide +kernel) (by decide +kernel)⟩, ⟨by decide +kernel, by decide +kernel, by decide +kernel⟩, by decide⟩
set_option maxRecDepth 20000 in
theorem lk_L_82 : zLV RL 82 yX11_toDust cX11_toDust 5 (some .long) 3 := ⟨⟨zT_in 1097 (by decide +kernel) (by decide +kernel), zT_in 1098 (by decide +kernel) (by decide +kernel), zT_in 1099 (by decide +kernel) (by decide +kernel), zT_in 106 (by decide +kernel) (by decide +kernel), zT_in 1100 (by decide +kernel) (by decide +kernel)⟩, ⟨by decide +kernel, by decide +kernel, by decide +kernel⟩, by decide⟩
set_option maxRecDepth 20000 in
theorem lk_L_85 : zLV RL 85 yX12_toDust cX12_toDust 12 (some .long) 3 := ⟨⟨zT_in 1842 (by decide +kernel) (by decide +kernel), zT_in 1843 (by decide +kernel) (by decide +kernel), zT_in 1844 (by decide +kernel) (by decide +kernel), zT_in 118 (by decide +kernel) (by decide +kernel), zT_in 1845 (by decide +kernel) (by decide +kernel)⟩, ⟨by decide +kernel, by decide +kernel, by decide +kernel⟩, by decide⟩
set_option maxRecDepth 20000 in
theorem lk_L_86 : zLV RL 86 yX11_lots cX11_lots 4 (some .long) 2 := ⟨⟨zT_in 1112 (by decide +kernel) (by decide +kernel), zT_in 1113 (by decide +kernel) (by decide +kernel), zT_in 1114 (by decide +kernel) (by decide +kernel), zT_in 106 (by decide +kernel) (by decide +kernel), zT_in 1115 (by decide +kernel) (by decide +kernel)⟩, ⟨by decide +kernel, by decide +kernel, by decide +kernel⟩, by decide⟩
set_option maxRecDepth 20000 in
theorem lk_L_90 : zLV RL 90 yX12_lots cX12_lots 8 (some .long) 2 := ⟨⟨zT_in 1851 (by decide +kernel) (by decide +kernel), zT_in 1852 (by decide +kernel) (by decide +kernel), zT_in 1853 (by decide +kernel) (by decide +kernel), zT_in 118 (by decide +kernel) (by decide +kernel), zT_in 1854 (by decide +kernel) (by decide +kernel)⟩, ⟨by decide +kernel, by decide +kernel, by decide +kernel⟩, by decide⟩
set_option maxRecDepth 20000 in
theorem lk_L_91 : zLV RL 91 yX11_egg cX11_egg 3 (some .boolean) 2 := ⟨⟨zT_in 1133 (by decide +kernel) (by decide +kernel), zT_in 1134 (by decide +kernel) (by decide +kernel), zT_in 1135 (by decide +kernel) (by decide +kernel), zT_in 106 (by decide +kernel) (by decide +kernel), zT_in 1136 (by decide +kernel) (by decide +kernel)⟩, ⟨by decide +kernel, by decide +kernel, by decide +kernel⟩, by decide⟩
set_option maxRecDepth 20000 in
theorem lk_L_95 : zLV RL 95 yX12_egg cX12_egg 3 (some .boolean) 2 := ⟨⟨zT_in 1855 (by decide +kernel) (by decide +kernel), zT_in 1856 (by decide +kernel) (by decide +kernel), zT_in 1857 (by decide +kernel) (by decide +kernel), zT_in 118 (by decide +kernel) (by decide +kernel), zT_in 1858 (by decide +kernel) (by decide +kernel)⟩, ⟨by decide +kernel, by decide +kernel, by decide +kernel⟩, by decide⟩
set_option maxRecDepth 20000 in
theorem lk_L_96 : zLV RL 96 yX11_test cX11_test 3 (some .boolean) 2 := ⟨⟨zT_in 1146 (by decide +kernel) (by decide +kernel), zT_in 1147 (by decide +kernel) (by decide +kernel), zT_in 1148 (by decide +kernel) (by decide +kernel), zT_in 106 (by decide +kernel) (by decide +kernel), zT_in 1149 (by decide +kernel) (by decide +kernel)⟩, ⟨by decide +kernel, by decide +kernel, by decide +kernel⟩, by decide⟩
set_option maxRecDepth 20000 in
theorem lk_L_99 : zLV RL 99 yX12_test cX12_test 3 (some .boolean) 2 := ⟨⟨zT_in 1859 (by decide +kernel) (by decide +kernel), zT_in 1860 (by decide +kernel) (by decide +kernel), zT_in 1861 (by decide +kernel) (by decide +kernel), zT_in 118 (by decide +kernel) (by decide +kernel), zT_in 1862 (by decide +kernel) (by decide +kernel)⟩, ⟨by decide +kernel, by decide +kernel, by decide +kernel⟩, by decide⟩
set_option maxRecDepth 20000 in
theorem lk_L_100 : zLV RL 100 yX11_apart cX11_apart 2 (some .int) 1 := ⟨⟨zT_in 1154 (by decide +kernel) (by decide +kernel), zT_in 1155 (by decide +kernel) (by decide +kernel), zT_in 1156 (by decide +kernel) (by decide +kernel), zT_in 106 (by decide +kernel) (by decide +kernel), zT_in 1157 (by decide +kernel) (by decide +kernel)⟩, ⟨by decide +kernel, by decide +kernel, by decide +kernel⟩, by decide⟩
set_option maxRecDepth 20000 in
theorem lk_L_103 : zLV RL 103 yX12_apart cX12_apart 4 (some .int) 1 := ⟨⟨zT_in 1863 (by decide +kernel) (by decide +kernel), zT_in 1864 (by decide +kernel) (by decide +kernel), zT_in 1865 (by decide +kernel) (by decide +kernel), zT_in 118 (by decide +kernel) (by decide +kernel), zT_in 1866 (by decide +kernel) (by decide +kernel)⟩, ⟨by decide +kernel, by decide +kernel, by decide +kernel⟩, by decide⟩
set_option maxRecDepth 20000 in
theorem lk_L_104 : zLV RL 104 yX11_alike cX11_alike 3 (some .int) 2 := ⟨⟨zT_in 1175 (by decide +kernel) (by decide +kernel), zT_in 1176 (by decide +kernel) (by decide +kernel), zT_in 1177 (by decide +kernel) (by decide +kernel), zT_in 106 (by decide +kernel) (by decide +kernel), zT_in 1178 (by decide +kernel) (by decide +kernel)⟩, ⟨by decide +kernel, by decide +kernel, by decide +kernel⟩, by decide⟩
set_option maxRecDepth 20000 in
theorem lk_L_107 : zLV RL 107 yX12_alike cX12_alike 5 (some .int) 2 := ⟨⟨zT_in 1875 (by decide +kernel) (by decide +kernel), zT_in 1876 (by decide +kernel) (by decide +kernel), zT_in 1877 (by decide +kernel) (by decide +kernel), zT_in 118 (by decide +kernel) (by decide +kernel), zT_in 1878 (by decide +kernel) (by decide +kernel)⟩, ⟨by decide +kernel, by decide +kernel, by decide +kernel⟩, by decide⟩
set_option maxRecDepth 20000 in
theorem lk_L_108 : zLV RL 108 yX11_owes cX11_owes 3 (some .boolean) 2 := ⟨⟨zT_in 1180 (by decide +kernel) (by decide +kernel), zT_in 1181 (by decide +kernel) (by decide +kernel), zT_in 1182 (by decide +kernel) (by decide +kernel), zT_in 106 (by decide +kernel) (by decide +kernel), zT_in 1183 (by decide +kernel) (by decide +kernel)⟩, ⟨by decide +kernel, by decide +kernel, by decide +kernel⟩, by decide⟩
set_option maxRecDepth 20000 in
theorem lk_L_111 : zLV RL 111 yX12_owes cX12_owes 3 (some .boolean) 2 := ⟨⟨zT_in 1879 (by decide +kernel) (by decide +kernel), zT_in 1880 (by decide +kernel) (by decide +kernel), zT_in 1881 (by decide +kernel) (by decide +kernel), zT_in 118 (by decide +kernel) (by decide +kernel), zT_in 1882 (by decide +kernel) (by decide +kernel)⟩, ⟨by decide +kernel, by decide +kernel, by decide +kernel⟩, by decide⟩
set_option maxRecDepth 20000 in
theorem lk_L_112 : zLV RL 112 yX11_rings cX11_rings 3 (some .int) 2 := ⟨⟨zT_in 1189 (by decide +kernel) (by decide +kernel), zT_in 1190 (by decide +kernel) (by decide +kernel), zT_in 1191 (by decide +kernel) (by decide +kernel), zT_in 106 (by decide +kernel) (by decide +kernel), zT_in 1192 (by decide +kernel) (by decide +kernel)⟩, ⟨by decide +kernel, by decide +kernel, by decide +kernel⟩, by decide⟩
set_option maxRecDepth 20000 in
theorem lk_L_115 : zLV RL 115 yX12_rings cX12_rings 7 (some .int) 2 := ⟨⟨zT_in 1883 (by decide +kernel) (by decide +kernel), zT_in 1884 (by decide +kernel) (by decide +kernel), zT_in 1885 (by decide +kernel) (by decide +kernel), zT_in 118 (by decide +kernel) (by decide +kernel), zT_in 1886 (by decide +kernel) (by decide +kernel)⟩, ⟨by decide +kernel, by decide +kernel, by decide +kernel⟩, by decide⟩
set_option maxRecDepth 20000 in
theorem lk_L_116 : zLV RL 116 yX11_placeIs cX11_placeIs 3 (some .int) 2 := ⟨⟨zT_in 1222 (by decide +kernel) (by decide +kernel), zT_in 1223 (by decide +kernel) (by decide +kernel), zT_in 1224 (by decide +kernel) (by decide +kernel), zT_in 106 (by decide +kernel) (by decide +kernel), zT_in 1225 (by decide +kernel) (by decide +kernel)⟩, ⟨by decide +kernel, by decide +kernel, by decide +kernel⟩, by decide⟩
set_option maxRecDepth 20000 in
theorem lk_L_119 : zLV RL 119 yX12_placeIs cX12_placeIs 3 (some .int) 2 := ⟨⟨zT_in 1541 (by decide +kernel) (by decide +kernel), zT_in 1542 (by decide +kernel) (by decide +kernel), zT_in 1543 (by decide +kernel) (by decide +kernel), zT_in 118 (by decide +kernel) (by decide +kernel), zT_in 1544 (by decide +kernel) (by decide +kernel)⟩, ⟨by decide +kernel, by decide +kernel, by decide +kernel⟩, by decide⟩
set_option maxRecDepth 20000 in
theorem lk_L_120 : zLV RL 120 yX11_seed cX11_seed 2 (some .boolean) 1 := ⟨⟨zT_in 1237 (by decide +kernel) (by decide +kernel), zT_in 1238 (by decide +kernel) (by decide +kernel), zT_in 1239 (by decide +kernel) (by decide +kernel), zT_in 106 (by decide +kernel) (by decide +kernel), zT_in 1240 (by decide +kernel) (by decide +kernel)⟩, ⟨by decide +kernel, by decide +kernel, by decide +kernel⟩, by decide⟩
set_option maxRecDepth 20000 in
theorem lk_L_123 : zLV RL 123 yX12_seed cX12_seed 2 (some .boolean) 1 := ⟨⟨zT_in 1898 (by decide +kernel) (by decide +kernel), zT_in 1899 (by decide +kernel) (by decide +kernel), zT_in 1900 (by decide +kernel) (by decide +kernel), zT_in 118 (by decide +kernel) (by decide +kernel), zT_in 1901 (by decide +kernel) (by decide +kernel)⟩, ⟨by decide +kernel, by decide +kernel, by decide +kernel⟩, by decide⟩
set_option maxRecDepth 20000 in
theorem lk_L_124 : zLV RL 124 yX11_keep cX11_keep 1 (some .int) 0 := ⟨⟨zT_in 1242 (by decide +kernel) (by decide +kernel), zT_in 1243 (by decide +kernel) (by decide +kernel), zT_in 1244 (by decide +kernel) (by decide +kernel), zT_in 106 (by decide +kernel) (by decide +kernel), zT_in 1245 (by decide +kernel) (by decide +kernel)⟩, ⟨by decide +kernel, by decide +kernel, by decide +kernel⟩, by decide⟩
set_option maxRecDepth 20000 in
theorem lk_L_128 : zLV RL 128 yX12_keep cX12_keep 1 (some .int) 0 := ⟨⟨zT_in 1903 (by decide +kernel) (by decide +kernel), zT_in 1904 (by decide +kernel) (by decide +kernel), zT_in 1905 (by decide +kernel) (by decide +kernel), zT_in 118 (by decide +kernel) (by decide +kernel), zT_in 1906 (by decide +kernel) (by decide +kernel)⟩, ⟨by decide +kernel, by decide +kernel, by decide +kernel⟩, by decide⟩
set_option maxRecDepth 20000 in
theorem lk_L_129 : zLV RL 129 yX11_undo cX11_undo 1 (some .boolean) 0 := ⟨⟨zT_in 1252 (by decide +kernel) (by decide +kernel), zT_in 1253 (by decide +kernel) (by decide +kernel), zT_in 1254 (by decide +kernel) (by decide +kernel), zT_in 106 (by decide +kernel) (by decide +kernel), zT_in 1255 (by decide +kernel) (by decide +kernel)⟩, ⟨by decide +kernel, by decide +kernel, by decide +kernel⟩, by decide⟩
set_option maxRecDepth 20000 in
theorem lk_L_133 : zLV RL 133 yX12_undo cX12_undo 1 (some .boolean) 0 := ⟨⟨zT_in 1910 (by decide +kernel) (by decide +kernel), zT_in 1911 (by decide +kernel) (by decide +kernel), zT_in 1912 (by decide +kernel) (by decide +kernel), zT_in 118 (by decide +kernel) (by decide +kernel), zT_in 1913 (by decide +kernel) (by decide +kernel)⟩, ⟨by decide +kernel, by decide +kernel, by decide +kernel⟩, by decide⟩
set_option maxRecDepth 20000 in
theorem lk_L_134 : zLV RL 134 yX11_check cX11_check 4 (some .int) 1 := ⟨⟨zT_in 1256 (by decide +kernel) (by decide +kernel), zT_in 1257 (by decide +kernel) (by decide +kernel), zT_in 1258 (by decide +kernel) (by decide +kernel), zT_in 106 (by decide +kernel) (by decide +kernel), zT_in 1259 (by decide +kernel) (by decide +kernel)⟩, ⟨by decide +kernel, by decide +kernel, by decide +kernel⟩, by decide⟩
set_option maxRecDepth 20000 in
theorem lk_L_137 : zLV RL 137 yX12_check cX12_check 3 (some .int) 1 := ⟨⟨zT_in 1914 (by decide +kernel) (by decide +kernel), zT_in 1915 (by decide +kernel) (by decide +kernel), zT_in 1916 (by decide +kernel) (by decide +kernel), zT_in 118 (by decide +kernel) (by decide +kernel), zT_in 1917 (by decide +kernel) (by decide +kernel)⟩, ⟨by decide +kernel, by decide +kernel, by decide +kernel⟩, by decide⟩
set_option maxRecDepth 20000 in
theorem lk_L_138 : zLV RL 138 yX11_count cX11_count 3 (some .int) 1 := ⟨⟨zT_in 1266 (by decide +kernel) (by decide +kernel), zT_in 1267 (by decide +kernel) (by decide +kernel), zT_in 1268 (by decide +kernel) (by decide +kernel), zT_in 106 (by decide +kernel) (by decide +kernel), zT_in 1269 (by decide +kernel) (by decide +kernel)⟩, ⟨by decide +kernel, by decide +kernel, by decide +kernel⟩, by decide⟩
set_option maxRecDepth 20000 in
theorem lk_L_141 : zLV RL 141 yX12_count cX12_count 2 (some .int) 1 := ⟨⟨zT_in 1922 (by decide +kernel) (by decide +kernel), zT_in 1923 (by decide +kernel) (by decide +kernel), zT_in 1924 (by decide +kernel) (by decide +kernel), zT_in 118 (by decide +kernel) (by decide +kernel), zT_in 1925 (by decide +kernel) (by decide +kernel)⟩, ⟨by decide +kernel, by decide +kernel, by decide +kernel⟩, by decide⟩
