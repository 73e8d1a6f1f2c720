/-! the law's arms (printed by mklaw.py) -/
section ARM
variable {g : GP} {J : JT} {b L i t K nn : Nat} {Lw : Wld} {xs : Nat → Int32} {a : Nat → Nat} {h : HT} {P : PT}
theorem arm_0 (hJ : JL g b L xs J) (hi : i + 5 ≤ L) (hL : L ≤ 320) (X : Ix P K Lw nn h) (hP : P.length ≤ t) (ht : t < 100) (next : Nx g b J t i) : Z g mL_law J (200 + t) (4000 + 2 * t) 180 [some (.ref b), some (.ref (a 0)), some (.ref (a 93)), some (.int (nI i))] [] (WD g a h P) := by
  obtain ⟨y, h1, h2, e1, e2, iv⟩ := m_king X (xs (i + 1)) (xs (i + 2))
  refine Z.aload_n (n := 181) dL_law_180 rfl rfl ?_
  refine Z.aload_n (n := 182) dL_law_181 rfl rfl ?_
  refine Z.iload_n (n := 183) dL_law_182 rfl rfl ?_
  refine Z.iconst (n := 184) (v := 1) dL_law_183 rfl (by decide +kernel) ?_
  refine Z.iadd (n := 185) dL_law_184 rfl ?_
  refine Z.sld (n := 186) (j := i + 1) hJ dL_law_185 rfl (nI_add i 1) (by omega) (by omega) ?_
  refine Z.aload_n (n := 187) dL_law_186 rfl rfl ?_
  refine Z.iload_n (n := 188) dL_law_187 rfl rfl ?_
  refine Z.iconst (n := 189) (v := 2) dL_law_188 rfl (by decide +kernel) ?_
  refine Z.iadd (n := 190) dL_law_189 rfl ?_
  refine Z.sld (n := 191) (j := i + 2) hJ dL_law_190 rfl (nI_add i 2) (by omega) (by omega) ?_
  refine Z.callV (cl' := 200 + t) (sl' := 4000 + 2 * t) (n := 194) vL_13 (ctX11_king e1) hJ.rm (Nat.le_of_ble_eq_true rfl) rfl rfl (by omega) (by omega) rfl W0 rfl rfl (Nat.le_of_ble_eq_true rfl) rfl dL_law_191 rfl (fun v w hw => ?_)
  obtain ⟨rfl, rfl⟩ := hw
  show Z g mL_law J _ _ 194 [some (.ref b), some (.ref (a 0)), some (.ref (a 93)), some (.int (nI i))] [.int y] (WD g a h1 P)
  refine Z.aload_n (n := 195) dL_law_194 rfl rfl ?_
  refine Z.aload_n (n := 196) dL_law_195 rfl rfl ?_
  refine Z.iload_n (n := 197) dL_law_196 rfl rfl ?_
  refine Z.iconst (n := 198) (v := 1) dL_law_197 rfl (by decide +kernel) ?_
  refine Z.iadd (n := 199) dL_law_198 rfl ?_
  refine Z.sld (n := 200) (j := i + 1) hJ dL_law_199 rfl (nI_add i 1) (by omega) (by omega) ?_
  refine Z.aload_n (n := 201) dL_law_200 rfl rfl ?_
  refine Z.iload_n (n := 202) dL_law_201 rfl rfl ?_
  refine Z.iconst (n := 203) (v := 2) dL_law_202 rfl (by decide +kernel) ?_
  refine Z.iadd (n := 204) dL_law_203 rfl ?_
  refine Z.sld (n := 205) (j := i + 2) hJ dL_law_204 rfl (nI_add i 2) (by omega) (by omega) ?_
  refine Z.callV (cl' := 200 + t) (sl' := 4000 + 2 * t) (n := 208) vL_17 (ctX12_king e2) hJ.rm (Nat.le_of_ble_eq_true rfl) rfl rfl (by omega) (by omega) rfl W93 rfl rfl (Nat.le_of_ble_eq_true rfl) rfl dL_law_205 rfl (fun v w hw => ?_)
  obtain ⟨rfl, rfl⟩ := hw
  show Z g mL_law J _ _ 208 [some (.ref b), some (.ref (a 0)), some (.ref (a 93)), some (.int (nI i))] [.int y, .int y] (WD g a h2 P)
  exact Z.icmp_eq (n := 211) (tgt := 1286) dL_law_208 (by decide +kernel) rfl (fun _ => (Z.wd (by omega) (by omega) (next a h2 P iv (by omega)))) (fun cc => absurd rfl cc)
theorem arm_1 (hJ : JL g b L xs J) (hi : i + 5 ≤ L) (hL : L ≤ 320) (X : Ix P K Lw nn h) (hP : P.length ≤ t) (ht : t < 100) (next : Nx g b J t i) : Z g mL_law J (200 + t) (4000 + 2 * t) 213 [some (.ref b), some (.ref (a 0)), some (.ref (a 93)), some (.int (nI i))] [] (WD g a h P) := by
  obtain ⟨y, h1, h2, e1, e2, iv⟩ := Bo.mu X (b_of X (xs (i + 1)) (xs (i + 2)))
  refine Z.aload_n (n := 214) dL_law_213 rfl rfl ?_
  refine Z.aload_n (n := 215) dL_law_214 rfl rfl ?_
  refine Z.iload_n (n := 216) dL_law_215 rfl rfl ?_
  refine Z.iconst (n := 217) (v := 1) dL_law_216 rfl (by decide +kernel) ?_
  refine Z.iadd (n := 218) dL_law_217 rfl ?_
  refine Z.sld (n := 219) (j := i + 1) hJ dL_law_218 rfl (nI_add i 1) (by omega) (by omega) ?_
  refine Z.aload_n (n := 220) dL_law_219 rfl rfl ?_
  refine Z.iload_n (n := 221) dL_law_220 rfl rfl ?_
  refine Z.iconst (n := 222) (v := 2) dL_law_221 rfl (by decide +kernel) ?_
  refine Z.iadd (n := 223) dL_law_222 rfl ?_
  refine Z.sld (n := 224) (j := i + 2) hJ dL_law_223 rfl (nI_add i 2) (by omega) (by omega) ?_
  refine Z.callV (cl' := 200 + t) (sl' := 4000 + 2 * t) (n := 227) vL_18 (ctX11_of e1) hJ.rm (Nat.le_of_ble_eq_true rfl) rfl rfl (by omega) (by omega) rfl W0 rfl rfl (Nat.le_of_ble_eq_true rfl) rfl dL_law_224 rfl (fun v w hw => ?_)
  obtain ⟨rfl, rfl⟩ := hw
  show Z g mL_law J _ _ 227 [some (.ref b), some (.ref (a 0)), some (.ref (a 93)), some (.int (nI i))] [.int y] (WD g a h1 P)
  refine Z.aload_n (n := 228) dL_law_227 rfl rfl ?_
  refine Z.aload_n (n := 229) dL_law_228 rfl rfl ?_
  refine Z.iload_n (n := 230) dL_law_229 rfl rfl ?_
  refine Z.iconst (n := 231) (v := 1) dL_law_230 rfl (by decide +kernel) ?_
  refine Z.iadd (n := 232) dL_law_231 rfl ?_
  refine Z.sld (n := 233) (j := i + 1) hJ dL_law_232 rfl (nI_add i 1) (by omega) (by omega) ?_
  refine Z.aload_n (n := 234) dL_law_233 rfl rfl ?_
  refine Z.iload_n (n := 235) dL_law_234 rfl rfl ?_
  refine Z.iconst (n := 236) (v := 2) dL_law_235 rfl (by decide +kernel) ?_
  refine Z.iadd (n := 237) dL_law_236 rfl ?_
  refine Z.sld (n := 238) (j := i + 2) hJ dL_law_237 rfl (nI_add i 2) (by omega) (by omega) ?_
  refine Z.callV (cl' := 200 + t) (sl' := 4000 + 2 * t) (n := 241) vL_21 (ctX12_of e2) hJ.rm (Nat.le_of_ble_eq_true rfl) rfl rfl (by omega) (by omega) rfl W93 rfl rfl (Nat.le_of_ble_eq_true rfl) rfl dL_law_238 rfl (fun v w hw => ?_)
  obtain ⟨rfl, rfl⟩ := hw
  show Z g mL_law J _ _ 241 [some (.ref b), some (.ref (a 0)), some (.ref (a 93)), some (.int (nI i))] [.int y, .int y] (WD g a h2 P)
  exact Z.icmp_eq (n := 244) (tgt := 1286) dL_law_241 (by decide +kernel) rfl (fun _ => (Z.wd (by omega) (by omega) (next a h2 P iv (by omega)))) (fun cc => absurd rfl cc)
theorem arm_2 (hJ : JL g b L xs J) (hi : i + 5 ≤ L) (hL : L ≤ 320) (X : Ix P K Lw nn h) (hP : P.length ≤ t) (ht : t < 100) (next : Nx g b J t i) : Z g mL_law J (200 + t) (4000 + 2 * t) 246 [some (.ref b), some (.ref (a 0)), some (.ref (a 93)), some (.int (nI i))] [] (WD g a h P) := by
  obtain ⟨y, h1, h2, e1, e2, iv⟩ := m_arm X (xs (i + 1)) (xs (i + 2))
  refine Z.aload_n (n := 247) dL_law_246 rfl rfl ?_
  refine Z.aload_n (n := 248) dL_law_247 rfl rfl ?_
  refine Z.iload_n (n := 249) dL_law_248 rfl rfl ?_
  refine Z.iconst (n := 250) (v := 1) dL_law_249 rfl (by decide +kernel) ?_
  refine Z.iadd (n := 251) dL_law_250 rfl ?_
  refine Z.sld (n := 252) (j := i + 1) hJ dL_law_251 rfl (nI_add i 1) (by omega) (by omega) ?_
  refine Z.aload_n (n := 253) dL_law_252 rfl rfl ?_
  refine Z.iload_n (n := 254) dL_law_253 rfl rfl ?_
  refine Z.iconst (n := 255) (v := 2) dL_law_254 rfl (by decide +kernel) ?_
  refine Z.iadd (n := 256) dL_law_255 rfl ?_
  refine Z.sld (n := 257) (j := i + 2) hJ dL_law_256 rfl (nI_add i 2) (by omega) (by omega) ?_
  refine Z.callV (cl' := 200 + t) (sl' := 4000 + 2 * t) (n := 260) vL_22 (ctX11_arm e1) hJ.rm (Nat.le_of_ble_eq_true rfl) rfl rfl (by omega) (by omega) rfl W0 rfl rfl (Nat.le_of_ble_eq_true rfl) rfl dL_law_257 rfl (fun v w hw => ?_)
  obtain ⟨rfl, rfl⟩ := hw
  show Z g mL_law J _ _ 260 [some (.ref b), some (.ref (a 0)), some (.ref (a 93)), some (.int (nI i))] [.int y] (WD g a h1 P)
  refine Z.aload_n (n := 261) dL_law_260 rfl rfl ?_
  refine Z.aload_n (n := 262) dL_law_261 rfl rfl ?_
  refine Z.iload_n (n := 263) dL_law_262 rfl rfl ?_
  refine Z.iconst (n := 264) (v := 1) dL_law_263 rfl (by decide +kernel) ?_
  refine Z.iadd (n := 265) dL_law_264 rfl ?_
  refine Z.sld (n := 266) (j := i + 1) hJ dL_law_265 rfl (nI_add i 1) (by omega) (by omega) ?_
  refine Z.aload_n (n := 267) dL_law_266 rfl rfl ?_
  refine Z.iload_n (n := 268) dL_law_267 rfl rfl ?_
  refine Z.iconst (n := 269) (v := 2) dL_law_268 rfl (by decide +kernel) ?_
  refine Z.iadd (n := 270) dL_law_269 rfl ?_
  refine Z.sld (n := 271) (j := i + 2) hJ dL_law_270 rfl (nI_add i 2) (by omega) (by omega) ?_
  refine Z.callV (cl' := 200 + t) (sl' := 4000 + 2 * t) (n := 274) vL_25 (ctX12_arm e2) hJ.rm (Nat.le_of_ble_eq_true rfl) rfl rfl (by omega) (by omega) rfl W93 rfl rfl (Nat.le_of_ble_eq_true rfl) rfl dL_law_271 rfl (fun v w hw => ?_)
  obtain ⟨rfl, rfl⟩ := hw
  show Z g mL_law J _ _ 274 [some (.ref b), some (.ref (a 0)), some (.ref (a 93)), some (.int (nI i))] [.int y, .int y] (WD g a h2 P)
  exact Z.icmp_eq (n := 277) (tgt := 1286) dL_law_274 (by decide +kernel) rfl (fun _ => (Z.wd (by omega) (by omega) (next a h2 P iv (by omega)))) (fun cc => absurd rfl cc)
theorem arm_3 (hJ : JL g b L xs J) (hi : i + 5 ≤ L) (hL : L ≤ 320) (X : Ix P K Lw nn h) (hP : P.length ≤ t) (ht : t < 100) (next : Nx g b J t i) : Z g mL_law J (200 + t) (4000 + 2 * t) 279 [some (.ref b), some (.ref (a 0)), some (.ref (a 93)), some (.int (nI i))] [] (WD g a h P) := by
  obtain ⟨y, h1, h2, e1, e2, iv⟩ := m_worth X (xs (i + 1)) (xs (i + 2)) (xs (i + 3))
  refine Z.aload_n (n := 280) dL_law_279 rfl rfl ?_
  refine Z.aload_n (n := 281) dL_law_280 rfl rfl ?_
  refine Z.iload_n (n := 282) dL_law_281 rfl rfl ?_
  refine Z.iconst (n := 283) (v := 1) dL_law_282 rfl (by decide +kernel) ?_
  refine Z.iadd (n := 284) dL_law_283 rfl ?_
  refine Z.sld (n := 285) (j := i + 1) hJ dL_law_284 rfl (nI_add i 1) (by omega) (by omega) ?_
  refine Z.aload_n (n := 286) dL_law_285 rfl rfl ?_
  refine Z.iload_n (n := 287) dL_law_286 rfl rfl ?_
  refine Z.iconst (n := 288) (v := 2) dL_law_287 rfl (by decide +kernel) ?_
  refine Z.iadd (n := 289) dL_law_288 rfl ?_
  refine Z.sld (n := 290) (j := i + 2) hJ dL_law_289 rfl (nI_add i 2) (by omega) (by omega) ?_
  refine Z.aload_n (n := 291) dL_law_290 rfl rfl ?_
  refine Z.iload_n (n := 292) dL_law_291 rfl rfl ?_
  refine Z.iconst (n := 293) (v := 3) dL_law_292 rfl (by decide +kernel) ?_
  refine Z.iadd (n := 294) dL_law_293 rfl ?_
  refine Z.sld (n := 295) (j := i + 3) hJ dL_law_294 rfl (nI_add i 3) (by omega) (by omega) ?_
  refine Z.callV (cl' := 200 + t) (sl' := 4000 + 2 * t) (n := 298) vL_26 (ctX11_worth e1) hJ.rm (Nat.le_of_ble_eq_true rfl) rfl rfl (by omega) (by omega) rfl W0 rfl rfl (Nat.le_of_ble_eq_true rfl) rfl dL_law_295 rfl (fun v w hw => ?_)
  obtain ⟨rfl, rfl⟩ := hw
  show Z g mL_law J _ _ 298 [some (.ref b), some (.ref (a 0)), some (.ref (a 93)), some (.int (nI i))] [.int y] (WD g a h1 P)
  refine Z.aload_n (n := 299) dL_law_298 rfl rfl ?_
  refine Z.aload_n (n := 300) dL_law_299 rfl rfl ?_
  refine Z.iload_n (n := 301) dL_law_300 rfl rfl ?_
  refine Z.iconst (n := 302) (v := 1) dL_law_301 rfl (by decide +kernel) ?_
  refine Z.iadd (n := 303) dL_law_302 rfl ?_
  refine Z.sld (n := 304) (j := i + 1) hJ dL_law_303 rfl (nI_add i 1) (by omega) (by omega) ?_
  refine Z.aload_n (n := 305) dL_law_304 rfl rfl ?_
  refine Z.iload_n (n := 306) dL_law_305 rfl rfl ?_
  refine Z.iconst (n := 307) (v := 2) dL_law_306 rfl (by decide +kernel) ?_
  refine Z.iadd (n := 308) dL_law_307 rfl ?_
  refine Z.sld (n := 309) (j := i + 2) hJ dL_law_308 rfl (nI_add i 2) (by omega) (by omega) ?_
  refine Z.aload_n (n := 310) dL_law_309 rfl rfl ?_
  refine Z.iload_n (n := 311) dL_law_310 rfl rfl ?_
  refine Z.iconst (n := 312) (v := 3) dL_law_311 rfl (by decide +kernel) ?_
  refine Z.iadd (n := 313) dL_law_312 rfl ?_
  refine Z.sld (n := 314) (j := i + 3) hJ dL_law_313 rfl (nI_add i 3) (by omega) (by omega) ?_
  refine Z.callV (cl' := 200 + t) (sl' := 4000 + 2 * t) (n := 317) vL_30 (ctX12_worth e2) hJ.rm (Nat.le_of_ble_eq_true rfl) rfl rfl (by omega) (by omega) rfl W93 rfl rfl (Nat.le_of_ble_eq_true rfl) rfl dL_law_314 rfl (fun v w hw => ?_)
  obtain ⟨rfl, rfl⟩ := hw
  show Z g mL_law J _ _ 317 [some (.ref b), some (.ref (a 0)), some (.ref (a 93)), some (.int (nI i))] [.int y, .int y] (WD g a h2 P)
  exact Z.icmp_eq (n := 320) (tgt := 1286) dL_law_317 (by decide +kernel) rfl (fun _ => (Z.wd (by omega) (by omega) (next a h2 P iv (by omega)))) (fun cc => absurd rfl cc)
theorem arm_4 (hJ : JL g b L xs J) (hi : i + 5 ≤ L) (hL : L ≤ 320) (X : Ix P K Lw nn h) (hP : P.length ≤ t) (ht : t < 100) (next : Nx g b J t i) : Z g mL_law J (200 + t) (4000 + 2 * t) 322 [some (.ref b), some (.ref (a 0)), some (.ref (a 93)), some (.int (nI i))] [] (WD g a h P) := by
  obtain ⟨y, h1, h2, e1, e2, iv⟩ := m_pact X (xs (i + 1)) (xs (i + 2)) (xs (i + 3))
  refine Z.aload_n (n := 323) dL_law_322 rfl rfl ?_
  refine Z.aload_n (n := 324) dL_law_323 rfl rfl ?_
  refine Z.iload_n (n := 325) dL_law_324 rfl rfl ?_
  refine Z.iconst (n := 326) (v := 1) dL_law_325 rfl (by decide +kernel) ?_
  refine Z.iadd (n := 327) dL_law_326 rfl ?_
  refine Z.sld (n := 328) (j := i + 1) hJ dL_law_327 rfl (nI_add i 1) (by omega) (by omega) ?_
  refine Z.aload_n (n := 329) dL_law_328 rfl rfl ?_
  refine Z.iload_n (n := 330) dL_law_329 rfl rfl ?_
  refine Z.iconst (n := 331) (v := 2) dL_law_330 rfl (by decide +kernel) ?_
  refine Z.iadd (n := 332) dL_law_331 rfl ?_
  refine Z.sld (n := 333) (j := i + 2) hJ dL_law_332 rfl (nI_add i 2) (by omega) (by omega) ?_
  refine Z.aload_n (n := 334) dL_law_333 rfl rfl ?_
  refine Z.iload_n (n := 335) dL_law_334 rfl rfl ?_
  refine Z.iconst (n := 336) (v := 3) dL_law_335 rfl (by decide +kernel) ?_
  refine Z.iadd (n := 337) dL_law_336 rfl ?_
  refine Z.sld (n := 338) (j := i + 3) hJ dL_law_337 rfl (nI_add i 3) (by omega) (by omega) ?_
  refine Z.callV (cl' := 200 + t) (sl' := 4000 + 2 * t) (n := 341) vL_31 (ctX11_pact e1) hJ.rm (Nat.le_of_ble_eq_true rfl) rfl rfl (by omega) (by omega) rfl W0 rfl rfl (Nat.le_of_ble_eq_true rfl) rfl dL_law_338 rfl (fun v w hw => ?_)
  obtain ⟨rfl, rfl⟩ := hw
  show Z g mL_law J _ _ 341 [some (.ref b), some (.ref (a 0)), some (.ref (a 93)), some (.int (nI i))] [.int y] (WD g a h1 P)
  refine Z.aload_n (n := 342) dL_law_341 rfl rfl ?_
  refine Z.aload_n (n := 343) dL_law_342 rfl rfl ?_
  refine Z.iload_n (n := 344) dL_law_343 rfl rfl ?_
  refine Z.iconst (n := 345) (v := 1) dL_law_344 rfl (by decide +kernel) ?_
  refine Z.iadd (n := 346) dL_law_345 rfl ?_
  refine Z.sld (n := 347) (j := i + 1) hJ dL_law_346 rfl (nI_add i 1) (by omega) (by omega) ?_
  refine Z.aload_n (n := 348) dL_law_347 rfl rfl ?_
  refine Z.iload_n (n := 349) dL_law_348 rfl rfl ?_
  refine Z.iconst (n := 350) (v := 2) dL_law_349 rfl (by decide +kernel) ?_
  refine Z.iadd (n := 351) dL_law_350 rfl ?_
  refine Z.sld (n := 352) (j := i + 2) hJ dL_law_351 rfl (nI_add i 2) (by omega) (by omega) ?_
  refine Z.aload_n (n := 353) dL_law_352 rfl rfl ?_
  refine Z.iload_n (n := 354) dL_law_353 rfl rfl ?_
  refine Z.iconst (n := 355) (v := 3) dL_law_354 rfl (by decide +kernel) ?_
  refine Z.iadd (n := 356) dL_law_355 rfl ?_
  refine Z.sld (n := 357) (j := i + 3) hJ dL_law_356 rfl (nI_add i 3) (by omega) (by omega) ?_
  refine Z.callV (cl' := 200 + t) (sl' := 4000 + 2 * t) (n := 360) vL_34 (ctX12_pact e2) hJ.rm (Nat.le_of_ble_eq_true rfl) rfl rfl (by omega) (by omega) rfl W93 rfl rfl (Nat.le_of_ble_eq_true rfl) rfl dL_law_357 rfl (fun v w hw => ?_)
  obtain ⟨rfl, rfl⟩ := hw
  show Z g mL_law J _ _ 360 [some (.ref b), some (.ref (a 0)), some (.ref (a 93)), some (.int (nI i))] [.int y, .int y] (WD g a h2 P)
  exact Z.icmp_eq (n := 363) (tgt := 1286) dL_law_360 (by decide +kernel) rfl (fun _ => (Z.wd (by omega) (by omega) (next a h2 P iv (by omega)))) (fun cc => absurd rfl cc)
theorem arm_5 (hJ : JL g b L xs J) (hi : i + 5 ≤ L) (hL : L ≤ 320) (X : Ix P K Lw nn h) (hP : P.length ≤ t) (ht : t < 100) (next : Nx g b J t i) : Z g mL_law J (200 + t) (4000 + 2 * t) 365 [some (.ref b), some (.ref (a 0)), some (.ref (a 93)), some (.int (nI i))] [] (WD g a h P) := by
  obtain ⟨y, h1, h2, e1, e2, iv⟩ := m_feed X (((xs (i + 1)).toInt64 <<< ((32 : Int32).toInt64 &&& 63)) ||| ((xs (i + 2)).toInt64 &&& 4294967295)) (xs (i + 3))
  refine Z.aload_n (n := 366) dL_law_365 rfl rfl ?_
  refine Z.aload_n (n := 367) dL_law_366 rfl rfl ?_
  refine Z.iload_n (n := 368) dL_law_367 rfl rfl ?_
  refine Z.iconst (n := 369) (v := 1) dL_law_368 rfl (by decide +kernel) ?_
  refine Z.iadd (n := 370) dL_law_369 rfl ?_
  refine Z.sld (n := 371) (j := i + 1) hJ dL_law_370 rfl (nI_add i 1) (by omega) (by omega) ?_
  refine Z.i2l (n := 372) dL_law_371 rfl rfl ?_
  refine Z.bipush (n := 374) (v := 32) dL_law_372 rfl (by decide +kernel) ?_
  refine Z.lshl (n := 375) dL_law_374 rfl rfl ?_
  refine Z.aload_n (n := 376) dL_law_375 rfl rfl ?_
  refine Z.iload_n (n := 377) dL_law_376 rfl rfl ?_
  refine Z.iconst (n := 378) (v := 2) dL_law_377 rfl (by decide +kernel) ?_
  refine Z.iadd (n := 379) dL_law_378 rfl ?_
  refine Z.sld (n := 380) (j := i + 2) hJ dL_law_379 rfl (nI_add i 2) (by omega) (by omega) ?_
  refine Z.i2l (n := 381) dL_law_380 rfl rfl ?_
  refine Z.ldc2 (n := 384) (v := 4294967295) dL_law_381 rfl wL_35 ?_
  refine Z.land (n := 385) dL_law_384 rfl ?_
  refine Z.lor (n := 386) dL_law_385 rfl ?_
  refine Z.aload_n (n := 387) dL_law_386 rfl rfl ?_
  refine Z.iload_n (n := 388) dL_law_387 rfl rfl ?_
  refine Z.iconst (n := 389) (v := 3) dL_law_388 rfl (by decide +kernel) ?_
  refine Z.iadd (n := 390) dL_law_389 rfl ?_
  refine Z.sld (n := 391) (j := i + 3) hJ dL_law_390 rfl (nI_add i 3) (by omega) (by omega) ?_
  refine Z.callV (cl' := 200 + t) (sl' := 4000 + 2 * t) (n := 394) vL_37 (ctX11_feed e1) hJ.rm (Nat.le_of_ble_eq_true rfl) rfl rfl (by omega) (by omega) rfl W0 rfl rfl (Nat.le_of_ble_eq_true rfl) rfl dL_law_391 rfl (fun v w hw => ?_)
  obtain ⟨rfl, rfl⟩ := hw
  show Z g mL_law J _ _ 394 [some (.ref b), some (.ref (a 0)), some (.ref (a 93)), some (.int (nI i))] [.int y] (WD g a h1 P)
  refine Z.aload_n (n := 395) dL_law_394 rfl rfl ?_
  refine Z.aload_n (n := 396) dL_law_395 rfl rfl ?_
  refine Z.iload_n (n := 397) dL_law_396 rfl rfl ?_
  refine Z.iconst (n := 398) (v := 1) dL_law_397 rfl (by decide +kernel) ?_
  refine Z.iadd (n := 399) dL_law_398 rfl ?_
  refine Z.sld (n := 400) (j := i + 1) hJ dL_law_399 rfl (nI_add i 1) (by omega) (by omega) ?_
  refine Z.i2l (n := 401) dL_law_400 rfl rfl ?_
  refine Z.bipush (n := 403) (v := 32) dL_law_401 rfl (by decide +kernel) ?_
  refine Z.lshl (n := 404) dL_law_403 rfl rfl ?_
  refine Z.aload_n (n := 405) dL_law_404 rfl rfl ?_
  refine Z.iload_n (n := 406) dL_law_405 rfl rfl ?_
  refine Z.iconst (n := 407) (v := 2) dL_law_406 rfl (by decide +kernel) ?_
  refine Z.iadd (n := 408) dL_law_407 rfl ?_
  refine Z.sld (n := 409) (j := i + 2) hJ dL_law_408 rfl (nI_add i 2) (by omega) (by omega) ?_
  refine Z.i2l (n := 410) dL_law_409 rfl rfl ?_
  refine Z.ldc2 (n := 413) (v := 4294967295) dL_law_410 rfl wL_35 ?_
  refine Z.land (n := 414) dL_law_413 rfl ?_
  refine Z.lor (n := 415) dL_law_414 rfl ?_
  refine Z.aload_n (n := 416) dL_law_415 rfl rfl ?_
  refine Z.iload_n (n := 417) dL_law_416 rfl rfl ?_
  refine Z.iconst (n := 418) (v := 3) dL_law_417 rfl (by decide +kernel) ?_
  refine Z.iadd (n := 419) dL_law_418 rfl ?_
  refine Z.sld (n := 420) (j := i + 3) hJ dL_law_419 rfl (nI_add i 3) (by omega) (by omega) ?_
  refine Z.callV (cl' := 200 + t) (sl' := 4000 + 2 * t) (n := 423) vL_41 (ctX12_feed e2) hJ.rm (Nat.le_of_ble_eq_true rfl) rfl rfl (by omega) (by omega) rfl W93 rfl rfl (Nat.le_of_ble_eq_true rfl) rfl dL_law_420 rfl (fun v w hw => ?_)
  obtain ⟨rfl, rfl⟩ := hw
  show Z g mL_law J _ _ 423 [some (.ref b), some (.ref (a 0)), some (.ref (a 93)), some (.int (nI i))] [.int y, .int y] (WD g a h2 P)
  exact Z.icmp_eq (n := 426) (tgt := 1286) dL_law_423 (by decide +kernel) rfl (fun _ => (Z.wd (by omega) (by omega) (next a h2 P iv (by omega)))) (fun cc => absurd rfl cc)
theorem arm_6 (hJ : JL g b L xs J) (hi : i + 5 ≤ L) (hL : L ≤ 320) (X : Ix P K Lw nn h) (hP : P.length ≤ t) (ht : t < 100) (next : Nx g b J t i) : Z g mL_law J (200 + t) (4000 + 2 * t) 428 [some (.ref b), some (.ref (a 0)), some (.ref (a 93)), some (.int (nI i))] [] (WD g a h P) := by
  obtain ⟨y, h1, h2, e1, e2, iv⟩ := m_world X
  refine Z.aload_n (n := 429) dL_law_428 rfl rfl ?_
  refine Z.callV (cl' := 200 + t) (sl' := 4000 + 2 * t) (n := 432) vL_42 (ctX11_world e1) hJ.rm (Nat.le_of_ble_eq_true rfl) rfl rfl (by omega) (by omega) rfl W0 rfl rfl (Nat.le_of_ble_eq_true rfl) rfl dL_law_429 rfl (fun v w hw => ?_)
  obtain ⟨rfl, rfl⟩ := hw
  show Z g mL_law J _ _ 432 [some (.ref b), some (.ref (a 0)), some (.ref (a 93)), some (.int (nI i))] [.int y] (WD g a h1 P)
  refine Z.aload_n (n := 433) dL_law_432 rfl rfl ?_
  refine Z.callV (cl' := 200 + t) (sl' := 4000 + 2 * t) (n := 436) vL_46 (ctX12_world e2) hJ.rm (Nat.le_of_ble_eq_true rfl) rfl rfl (by omega) (by omega) rfl W93 rfl rfl (Nat.le_of_ble_eq_true rfl) rfl dL_law_433 rfl (fun v w hw => ?_)
  obtain ⟨rfl, rfl⟩ := hw
  show Z g mL_law J _ _ 436 [some (.ref b), some (.ref (a 0)), some (.ref (a 93)), some (.int (nI i))] [.int y, .int y] (WD g a h2 P)
  exact Z.icmp_eq (n := 439) (tgt := 1286) dL_law_436 (by decide +kernel) rfl (fun _ => (Z.wd (by omega) (by omega) (next a h2 P iv (by omega)))) (fun cc => absurd rfl cc)
theorem arm_7 (hJ : JL g b L xs J) (hi : i + 5 ≤ L) (hL : L ≤ 320) (X : Ix P K Lw nn h) (hP : P.length ≤ t) (ht : t < 100) (next : Nx g b J t i) : Z g mL_law J (200 + t) (4000 + 2 * t) 441 [some (.ref b), some (.ref (a 0)), some (.ref (a 93)), some (.int (nI i))] [] (WD g a h P) := by
  obtain ⟨y, h1, h2, e1, e2, iv⟩ := Bo.mu X (b_cost X (xs (i + 1)) (xs (i + 2)))
  refine Z.aload_n (n := 442) dL_law_441 rfl rfl ?_
  refine Z.aload_n (n := 443) dL_law_442 rfl rfl ?_
  refine Z.iload_n (n := 444) dL_law_443 rfl rfl ?_
  refine Z.iconst (n := 445) (v := 1) dL_law_444 rfl (by decide +kernel) ?_
  refine Z.iadd (n := 446) dL_law_445 rfl ?_
  refine Z.sld (n := 447) (j := i + 1) hJ dL_law_446 rfl (nI_add i 1) (by omega) (by omega) ?_
  refine Z.aload_n (n := 448) dL_law_447 rfl rfl ?_
  refine Z.iload_n (n := 449) dL_law_448 rfl rfl ?_
  refine Z.iconst (n := 450) (v := 2) dL_law_449 rfl (by decide +kernel) ?_
  refine Z.iadd (n := 451) dL_law_450 rfl ?_
  refine Z.sld (n := 452) (j := i + 2) hJ dL_law_451 rfl (nI_add i 2) (by omega) (by omega) ?_
  refine Z.callV (cl' := 200 + t) (sl' := 4000 + 2 * t) (n := 455) vL_47 (ctX11_cost e1) hJ.rm (Nat.le_of_ble_eq_true rfl) rfl rfl (by omega) (by omega) rfl W0 rfl rfl (Nat.le_of_ble_eq_true rfl) rfl dL_law_452 rfl (fun v w hw => ?_)
  obtain ⟨rfl, rfl⟩ := hw
  show Z g mL_law J _ _ 455 [some (.ref b), some (.ref (a 0)), some (.ref (a 93)), some (.int (nI i))] [.int y] (WD g a h1 P)
  refine Z.aload_n (n := 456) dL_law_455 rfl rfl ?_
  refine Z.aload_n (n := 457) dL_law_456 rfl rfl ?_
  refine Z.iload_n (n := 458) dL_law_457 rfl rfl ?_
  refine Z.iconst (n := 459) (v := 1) dL_law_458 rfl (by decide +kernel) ?_
  refine Z.iadd (n := 460) dL_law_459 rfl ?_
  refine Z.sld (n := 461) (j := i + 1) hJ dL_law_460 rfl (nI_add i 1) (by omega) (by omega) ?_
  refine Z.aload_n (n := 462) dL_law_461 rfl rfl ?_
  refine Z.iload_n (n := 463) dL_law_462 rfl rfl ?_
  refine Z.iconst (n := 464) (v := 2) dL_law_463 rfl (by decide +kernel) ?_
  refine Z.iadd (n := 465) dL_law_464 rfl ?_
  refine Z.sld (n := 466) (j := i + 2) hJ dL_law_465 rfl (nI_add i 2) (by omega) (by omega) ?_
  refine Z.callV (cl' := 200 + t) (sl' := 4000 + 2 * t) (n := 469) vL_50 (ctX12_cost e2) hJ.rm (Nat.le_of_ble_eq_true rfl) rfl rfl (by omega) (by omega) rfl W93 rfl rfl (Nat.le_of_ble_eq_true rfl) rfl dL_law_466 rfl (fun v w hw => ?_)
  obtain ⟨rfl, rfl⟩ := hw
  show Z g mL_law J _ _ 469 [some (.ref b), some (.ref (a 0)), some (.ref (a 93)), some (.int (nI i))] [.int y, .int y] (WD g a h2 P)
  exact Z.icmp_eq (n := 472) (tgt := 1286) dL_law_469 (by decide +kernel) rfl (fun _ => (Z.wd (by omega) (by omega) (next a h2 P iv (by omega)))) (fun cc => absurd rfl cc)
theorem arm_8 (hJ : JL g b L xs J) (hi : i + 5 ≤ L) (hL : L ≤ 320) (X : Ix P K Lw nn h) (hP : P.length ≤ t) (ht : t < 100) (next : Nx g b J t i) : Z g mL_law J (200 + t) (4000 + 2 * t) 474 [some (.ref b), some (.ref (a 0)), some (.ref (a 93)), some (.int (nI i))] [] (WD g a h P) := by
  obtain ⟨y, h1, h2, e1, e2, iv⟩ := Bo.mu X (b_force X (xs (i + 1)) (xs (i + 2)))
  refine Z.aload_n (n := 475) dL_law_474 rfl rfl ?_
  refine Z.aload_n (n := 476) dL_law_475 rfl rfl ?_
  refine Z.iload_n (n := 477) dL_law_476 rfl rfl ?_
  refine Z.iconst (n := 478) (v := 1) dL_law_477 rfl (by decide +kernel) ?_
  refine Z.iadd (n := 479) dL_law_478 rfl ?_
  refine Z.sld (n := 480) (j := i + 1) hJ dL_law_479 rfl (nI_add i 1) (by omega) (by omega) ?_
  refine Z.aload_n (n := 481) dL_law_480 rfl rfl ?_
  refine Z.iload_n (n := 482) dL_law_481 rfl rfl ?_
  refine Z.iconst (n := 483) (v := 2) dL_law_482 rfl (by decide +kernel) ?_
  refine Z.iadd (n := 484) dL_law_483 rfl ?_
  refine Z.sld (n := 485) (j := i + 2) hJ dL_law_484 rfl (nI_add i 2) (by omega) (by omega) ?_
  refine Z.callV (cl' := 200 + t) (sl' := 4000 + 2 * t) (n := 488) vL_51 (ctX11_force e1) hJ.rm (Nat.le_of_ble_eq_true rfl) rfl rfl (by omega) (by omega) rfl W0 rfl rfl (Nat.le_of_ble_eq_true rfl) rfl dL_law_485 rfl (fun v w hw => ?_)
  obtain ⟨rfl, rfl⟩ := hw
  show Z g mL_law J _ _ 488 [some (.ref b), some (.ref (a 0)), some (.ref (a 93)), some (.int (nI i))] [.int y] (WD g a h1 P)
  refine Z.aload_n (n := 489) dL_law_488 rfl rfl ?_
  refine Z.aload_n (n := 490) dL_law_489 rfl rfl ?_
  refine Z.iload_n (n := 491) dL_law_490 rfl rfl ?_
  refine Z.iconst (n := 492) (v := 1) dL_law_491 rfl (by decide +kernel) ?_
  refine Z.iadd (n := 493) dL_law_492 rfl ?_
  refine Z.sld (n := 494) (j := i + 1) hJ dL_law_493 rfl (nI_add i 1) (by omega) (by omega) ?_
  refine Z.aload_n (n := 495) dL_law_494 rfl rfl ?_
  refine Z.iload_n (n := 496) dL_law_495 rfl rfl ?_
  refine Z.iconst (n := 497) (v := 2) dL_law_496 rfl (by decide +kernel) ?_
  refine Z.iadd (n := 498) dL_law_497 rfl ?_
  refine Z.sld (n := 499) (j := i + 2) hJ dL_law_498 rfl (nI_add i 2) (by omega) (by omega) ?_
  refine Z.callV (cl' := 200 + t) (sl' := 4000 + 2 * t) (n := 502) vL_54 (ctX12_force e2) hJ.rm (Nat.le_of_ble_eq_true rfl) rfl rfl (by omega) (by omega) rfl W93 rfl rfl (Nat.le_of_ble_eq_true rfl) rfl dL_law_499 rfl (fun v w hw => ?_)
  obtain ⟨rfl, rfl⟩ := hw
  show Z g mL_law J _ _ 502 [some (.ref b), some (.ref (a 0)), some (.ref (a 93)), some (.int (nI i))] [.int y, .int y] (WD g a h2 P)
  exact Z.icmp_eq (n := 505) (tgt := 1286) dL_law_502 (by decide +kernel) rfl (fun _ => (Z.wd (by omega) (by omega) (next a h2 P iv (by omega)))) (fun cc => absurd rfl cc)
theorem arm_9 (hJ : JL g b L xs J) (hi : i + 5 ≤ L) (hL : L ≤ 320) (X : Ix P K Lw nn h) (hP : P.length ≤ t) (ht : t < 100) (next : Nx g b J t i) : Z g mL_law J (200 + t) (4000 + 2 * t) 507 [some (.ref b), some (.ref (a 0)), some (.ref (a 93)), some (.int (nI i))] [] (WD g a h P) := by
  obtain ⟨y, h1, h2, P', e1, e2, iv, hp⟩ := m_standing (Nat.lt_of_le_of_lt hP (by omega)) X (xs (i + 1)) (xs (i + 2))
  have hP' : P'.length ≤ t + 1 := by
    rcases hp with rfl | ⟨r, _, rfl⟩
    · omega
    · rw [List.length_append, List.length_singleton]; omega
  refine Z.aload_n (n := 508) dL_law_507 rfl rfl ?_
  refine Z.aload_n (n := 509) dL_law_508 rfl rfl ?_
  refine Z.iload_n (n := 510) dL_law_509 rfl rfl ?_
  refine Z.iconst (n := 511) (v := 1) dL_law_510 rfl (by decide +kernel) ?_
  refine Z.iadd (n := 512) dL_law_511 rfl ?_
  refine Z.sld (n := 513) (j := i + 1) hJ dL_law_512 rfl (nI_add i 1) (by omega) (by omega) ?_
  refine Z.aload_n (n := 514) dL_law_513 rfl rfl ?_
  refine Z.iload_n (n := 515) dL_law_514 rfl rfl ?_
  refine Z.iconst (n := 516) (v := 2) dL_law_515 rfl (by decide +kernel) ?_
  refine Z.iadd (n := 517) dL_law_516 rfl ?_
  refine Z.sld (n := 518) (j := i + 2) hJ dL_law_517 rfl (nI_add i 2) (by omega) (by omega) ?_
  refine Z.callV (cl' := 200 + t + 1) (sl' := 4000 + 2 * t + 2) (n := 521) vL_55 (ctX11_standing (by omega) (sq0 X) (sq1 X) e1) hJ.rm (Nat.le_of_ble_eq_true rfl) rfl rfl (by omega) (by omega) rfl W0 rfl rfl (Nat.le_of_ble_eq_true rfl) rfl dL_law_518 rfl (fun v w hw => ?_)
  obtain ⟨rfl, a1, ha, rfl⟩ := hw
  have h0 : a1 0 = a 0 := ha 0 (by omega)
  have h93 : a1 93 = a 93 := ha 93 (by omega)
  rw [← h0, ← h93]
  show Z g mL_law J _ _ 521 [some (.ref b), some (.ref (a1 0)), some (.ref (a1 93)), some (.int (nI i))] [.int y] (WD g a1 h1 P')
  refine Z.aload_n (n := 522) dL_law_521 rfl rfl ?_
  refine Z.aload_n (n := 523) dL_law_522 rfl rfl ?_
  refine Z.iload_n (n := 524) dL_law_523 rfl rfl ?_
  refine Z.iconst (n := 525) (v := 1) dL_law_524 rfl (by decide +kernel) ?_
  refine Z.iadd (n := 526) dL_law_525 rfl ?_
  refine Z.sld (n := 527) (j := i + 1) hJ dL_law_526 rfl (nI_add i 1) (by omega) (by omega) ?_
  refine Z.aload_n (n := 528) dL_law_527 rfl rfl ?_
  refine Z.iload_n (n := 529) dL_law_528 rfl rfl ?_
  refine Z.iconst (n := 530) (v := 2) dL_law_529 rfl (by decide +kernel) ?_
  refine Z.iadd (n := 531) dL_law_530 rfl ?_
  refine Z.sld (n := 532) (j := i + 2) hJ dL_law_531 rfl (nI_add i 2) (by omega) (by omega) ?_
  refine Z.callV (cl' := 200 + t + 1) (sl' := 4000 + 2 * t + 2) (n := 535) vL_58 (ctX12_standing e2) hJ.rm (Nat.le_of_ble_eq_true rfl) rfl rfl (by omega) (by omega) rfl W93 rfl rfl (Nat.le_of_ble_eq_true rfl) rfl dL_law_532 rfl (fun v w hw => ?_)
  obtain ⟨rfl, rfl⟩ := hw
  show Z g mL_law J _ _ 535 [some (.ref b), some (.ref (a1 0)), some (.ref (a1 93)), some (.int (nI i))] [.int y, .int y] (WD g a1 h2 P')
  exact Z.icmp_eq (n := 538) (tgt := 1286) dL_law_535 (by decide +kernel) rfl (fun _ => (Z.wd (by omega) (by omega) (next a1 h2 P' iv (by omega)))) (fun cc => absurd rfl cc)
theorem arm_10 (hJ : JL g b L xs J) (hi : i + 5 ≤ L) (hL : L ≤ 320) (X : Ix P K Lw nn h) (hP : P.length ≤ t) (ht : t < 100) (next : Nx g b J t i) : Z g mL_law J (200 + t) (4000 + 2 * t) 540 [some (.ref b), some (.ref (a 0)), some (.ref (a 93)), some (.int (nI i))] [] (WD g a h P) := by
  obtain ⟨y, h1, h2, e1, e2, iv⟩ := m_block X (xs (i + 1)) (xs (i + 2)) (xs (i + 3))
  refine Z.aload_n (n := 541) dL_law_540 rfl rfl ?_
  refine Z.aload_n (n := 542) dL_law_541 rfl rfl ?_
  refine Z.iload_n (n := 543) dL_law_542 rfl rfl ?_
  refine Z.iconst (n := 544) (v := 1) dL_law_543 rfl (by decide +kernel) ?_
  refine Z.iadd (n := 545) dL_law_544 rfl ?_
  refine Z.sld (n := 546) (j := i + 1) hJ dL_law_545 rfl (nI_add i 1) (by omega) (by omega) ?_
  refine Z.aload_n (n := 547) dL_law_546 rfl rfl ?_
  refine Z.iload_n (n := 548) dL_law_547 rfl rfl ?_
  refine Z.iconst (n := 549) (v := 2) dL_law_548 rfl (by decide +kernel) ?_
  refine Z.iadd (n := 550) dL_law_549 rfl ?_
  refine Z.sld (n := 551) (j := i + 2) hJ dL_law_550 rfl (nI_add i 2) (by omega) (by omega) ?_
  refine Z.aload_n (n := 552) dL_law_551 rfl rfl ?_
  refine Z.iload_n (n := 553) dL_law_552 rfl rfl ?_
  refine Z.iconst (n := 554) (v := 3) dL_law_553 rfl (by decide +kernel) ?_
  refine Z.iadd (n := 555) dL_law_554 rfl ?_
  refine Z.sld (n := 556) (j := i + 3) hJ dL_law_555 rfl (nI_add i 3) (by omega) (by omega) ?_
  refine Z.callV (cl' := 200 + t) (sl' := 4000 + 2 * t) (n := 559) vL_59 (ctX11_block X.2.1.1 e1) hJ.rm (Nat.le_of_ble_eq_true rfl) rfl rfl (by omega) (by omega) rfl W0 rfl rfl (Nat.le_of_ble_eq_true rfl) rfl dL_law_556 rfl (fun v w hw => ?_)
  obtain ⟨rfl, rfl⟩ := hw
  show Z g mL_law J _ _ 559 [some (.ref b), some (.ref (a 0)), some (.ref (a 93)), some (.int (nI i))] [.int y] (WD g a h1 P)
  refine Z.aload_n (n := 560) dL_law_559 rfl rfl ?_
  refine Z.aload_n (n := 561) dL_law_560 rfl rfl ?_
  refine Z.iload_n (n := 562) dL_law_561 rfl rfl ?_
  refine Z.iconst (n := 563) (v := 1) dL_law_562 rfl (by decide +kernel) ?_
  refine Z.iadd (n := 564) dL_law_563 rfl ?_
  refine Z.sld (n := 565) (j := i + 1) hJ dL_law_564 rfl (nI_add i 1) (by omega) (by omega) ?_
  refine Z.aload_n (n := 566) dL_law_565 rfl rfl ?_
  refine Z.iload_n (n := 567) dL_law_566 rfl rfl ?_
  refine Z.iconst (n := 568) (v := 2) dL_law_567 rfl (by decide +kernel) ?_
  refine Z.iadd (n := 569) dL_law_568 rfl ?_
  refine Z.sld (n := 570) (j := i + 2) hJ dL_law_569 rfl (nI_add i 2) (by omega) (by omega) ?_
  refine Z.aload_n (n := 571) dL_law_570 rfl rfl ?_
  refine Z.iload_n (n := 572) dL_law_571 rfl rfl ?_
  refine Z.iconst (n := 573) (v := 3) dL_law_572 rfl (by decide +kernel) ?_
  refine Z.iadd (n := 574) dL_law_573 rfl ?_
  refine Z.sld (n := 575) (j := i + 3) hJ dL_law_574 rfl (nI_add i 3) (by omega) (by omega) ?_
  refine Z.callV (cl' := 200 + t) (sl' := 4000 + 2 * t) (n := 578) vL_62 (ctX12_block e2) hJ.rm (Nat.le_of_ble_eq_true rfl) rfl rfl (by omega) (by omega) rfl W93 rfl rfl (Nat.le_of_ble_eq_true rfl) rfl dL_law_575 rfl (fun v w hw => ?_)
  obtain ⟨rfl, rfl⟩ := hw
  show Z g mL_law J _ _ 578 [some (.ref b), some (.ref (a 0)), some (.ref (a 93)), some (.int (nI i))] [.int y, .int y] (WD g a h2 P)
  exact Z.icmp_eq (n := 581) (tgt := 1286) dL_law_578 (by decide +kernel) rfl (fun _ => (Z.wd (by omega) (by omega) (next a h2 P iv (by omega)))) (fun cc => absurd rfl cc)
end ARM
