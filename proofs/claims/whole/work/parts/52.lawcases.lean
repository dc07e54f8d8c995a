/-! ===== the law: its thirty cases ===== -/
theorem rc48 : 48 ≤ room_1.cells := by show 48 ≤ 600000; omega
theorem rs48 : 1743 ≤ room_1.slots := by show 1743 ≤ 7302249; omega
def lvL (ad : Nat → Nat) (b k : Nat) : List (Nat × Value) := [(3, .int (nI k)), (0, .ref b), (1, .ref (ad 0)), (2, .ref (ad 12))]
theorem case_entry {p : Program} {l : Launch} {e : Env} {s : State} {m : MethodId} {args : Array Value} {below : List Frame} {meth : Method} {c : Code} {Q : State → Prop} {D : va_G} {cy ad : Nat → Nat} {n k b L : Nat} {xs : Nat → Int32} {S : St} (M : MX p m c cL_law 4 s args wsL_law RL meth ret) (K : KK D cy ad s) (hAd : ∀ r, r < 48 → s.heap.size ≤ ad r) (hX : XX s b L xs) (hk : k + 6 ≤ L) (hR : Rel n S) (kk : ∀ S', Rel n S' → Zk 48 1743 p l e room_1 s m args below meth c 4 Q (Hl D cy ad n s S') 1327 (lvL ad b k) []) : Zk 48 1743 p l e room_1 s m args below meth c 4 Q (Hl D cy ad n s S) 176 (lvL ad b k) [] := by
  unfold lvL at kk ⊢
  obtain ⟨r, S1, S2, e1, e2, hR2⟩ := t_entry hR (xs (k + 1)) (xs (k + 2)) (xs (k + 3)) (xs (k + 4))
  refine y_aload_n (pc := 176) M dL_law_176 rfl 2 rfl ?_
  refine yl_rd (pc := 177) 1 M hX hk (by decide) dL_law_177 dL_law_178 dL_law_179 dL_law_180 dL_law_181 ?_
  refine yl_rd (pc := 182) 2 M hX hk (by decide) dL_law_182 dL_law_183 dL_law_184 dL_law_185 dL_law_186 ?_
  refine yl_rd (pc := 187) 3 M hX hk (by decide) dL_law_187 dL_law_188 dL_law_189 dL_law_190 dL_law_191 ?_
  refine yl_rd (pc := 192) 4 M hX hk (by decide) dL_law_192 dL_law_193 dL_law_194 dL_law_195 dL_law_196 ?_
  refine yl_vcall (pc := 197) (As := [.int (xs (k + 1)), .int (xs (k + 2)), .int (xs (k + 3)), .int (xs (k + 4))]) M K hAd (kX4_entry l D cy ad n (xs (k + 1)) (xs (k + 2)) (xs (k + 3)) (xs (k + 4)) S r S1 e1) (cwV 4 M.1.2.2.2.2 gL_law_X4_entry rfl rfl rfl (by decide +kernel) ⟨(Nat.le_of_ble_eq_true rfl), (Nat.le_of_ble_eq_true rfl)⟩) o_obj rfl rfl rfl (Nat.le_of_ble_eq_true rfl) rc48 rs48 dL_law_197 ?_
  refine y_aload_n (pc := 200) M dL_law_200 rfl 3 rfl ?_
  refine yl_rd (pc := 201) 1 M hX hk (by decide) dL_law_201 dL_law_202 dL_law_203 dL_law_204 dL_law_205 ?_
  refine yl_rd (pc := 206) 2 M hX hk (by decide) dL_law_206 dL_law_207 dL_law_208 dL_law_209 dL_law_210 ?_
  refine yl_rd (pc := 211) 3 M hX hk (by decide) dL_law_211 dL_law_212 dL_law_213 dL_law_214 dL_law_215 ?_
  refine yl_rd (pc := 216) 4 M hX hk (by decide) dL_law_216 dL_law_217 dL_law_218 dL_law_219 dL_law_220 ?_
  refine yl_vcall (pc := 221) (As := [.int (xs (k + 1)), .int (xs (k + 2)), .int (xs (k + 3)), .int (xs (k + 4))]) M K hAd (kX5_entry l D cy ad n (xs (k + 1)) (xs (k + 2)) (xs (k + 3)) (xs (k + 4)) S1 r S2 e2) (cwV 4 M.1.2.2.2.2 gL_law_X5_entry rfl rfl rfl (by decide +kernel) ⟨(Nat.le_of_ble_eq_true rfl), (Nat.le_of_ble_eq_true rfl)⟩) o_mod rfl rfl rfl (Nat.le_of_ble_eq_true rfl) rc48 rs48 dL_law_221 ?_
  refine y_icmp_eq (X := some ()) (Y := some ()) (res := ()) (pc := 224) 1327 M dL_law_224 rfl (ite_self _) (fun _ _ => kk S2 hR2) (fun z _ => absurd rfl z)
theorem case_told {p : Program} {l : Launch} {e : Env} {s : State} {m : MethodId} {args : Array Value} {below : List Frame} {meth : Method} {c : Code} {Q : State → Prop} {D : va_G} {cy ad : Nat → Nat} {n k b L : Nat} {xs : Nat → Int32} {S : St} (M : MX p m c cL_law 4 s args wsL_law RL meth ret) (K : KK D cy ad s) (hAd : ∀ r, r < 48 → s.heap.size ≤ ad r) (hX : XX s b L xs) (hk : k + 6 ≤ L) (hR : Rel n S) (kk : ∀ S', Rel n S' → Zk 48 1743 p l e room_1 s m args below meth c 4 Q (Hl D cy ad n s S') 1327 (lvL ad b k) []) : Zk 48 1743 p l e room_1 s m args below meth c 4 Q (Hl D cy ad n s S) 229 (lvL ad b k) [] := by
  unfold lvL at kk ⊢
  obtain ⟨r, e1, e2⟩ := t_told hR (xs (k + 1)) (xs (k + 2)) (xs (k + 3))
  refine y_aload_n (pc := 229) M dL_law_229 rfl 2 rfl ?_
  refine yl_rd (pc := 230) 1 M hX hk (by decide) dL_law_230 dL_law_231 dL_law_232 dL_law_233 dL_law_234 ?_
  refine yl_rd (pc := 235) 2 M hX hk (by decide) dL_law_235 dL_law_236 dL_law_237 dL_law_238 dL_law_239 ?_
  refine yl_rd (pc := 240) 3 M hX hk (by decide) dL_law_240 dL_law_241 dL_law_242 dL_law_243 dL_law_244 ?_
  refine yl_vcall (pc := 245) (As := [.int (xs (k + 1)), .int (xs (k + 2)), .int (xs (k + 3))]) M K hAd (kX4_told l D cy ad n (xs (k + 1)) (xs (k + 2)) (xs (k + 3)) S r e1) (cwV 3 M.1.2.2.2.2 gL_law_X4_told rfl rfl rfl (by decide +kernel) ⟨(Nat.le_of_ble_eq_true rfl), (Nat.le_of_ble_eq_true rfl)⟩) o_obj rfl rfl rfl (Nat.le_of_ble_eq_true rfl) rc48 rs48 dL_law_245 ?_
  refine y_aload_n (pc := 248) M dL_law_248 rfl 3 rfl ?_
  refine yl_rd (pc := 249) 1 M hX hk (by decide) dL_law_249 dL_law_250 dL_law_251 dL_law_252 dL_law_253 ?_
  refine yl_rd (pc := 254) 2 M hX hk (by decide) dL_law_254 dL_law_255 dL_law_256 dL_law_257 dL_law_258 ?_
  refine yl_rd (pc := 259) 3 M hX hk (by decide) dL_law_259 dL_law_260 dL_law_261 dL_law_262 dL_law_263 ?_
  refine yl_vcall (pc := 264) (As := [.int (xs (k + 1)), .int (xs (k + 2)), .int (xs (k + 3))]) M K hAd (kX5_told l D cy ad n (xs (k + 1)) (xs (k + 2)) (xs (k + 3)) S r e2) (cwV 3 M.1.2.2.2.2 gL_law_X5_told rfl rfl rfl (by decide +kernel) ⟨(Nat.le_of_ble_eq_true rfl), (Nat.le_of_ble_eq_true rfl)⟩) o_mod rfl rfl rfl (Nat.le_of_ble_eq_true rfl) rc48 rs48 dL_law_264 ?_
  refine y_icmp_eq (X := some ()) (Y := some ()) (res := ()) (pc := 267) 1327 M dL_law_267 rfl (ite_self _) (fun _ _ => kk S hR) (fun z _ => absurd rfl z)
theorem case_worth {p : Program} {l : Launch} {e : Env} {s : State} {m : MethodId} {args : Array Value} {below : List Frame} {meth : Method} {c : Code} {Q : State → Prop} {D : va_G} {cy ad : Nat → Nat} {n k b L : Nat} {xs : Nat → Int32} {S : St} (M : MX p m c cL_law 4 s args wsL_law RL meth ret) (K : KK D cy ad s) (hAd : ∀ r, r < 48 → s.heap.size ≤ ad r) (hX : XX s b L xs) (hk : k + 6 ≤ L) (hR : Rel n S) (kk : ∀ S', Rel n S' → Zk 48 1743 p l e room_1 s m args below meth c 4 Q (Hl D cy ad n s S') 1327 (lvL ad b k) []) : Zk 48 1743 p l e room_1 s m args below meth c 4 Q (Hl D cy ad n s S) 272 (lvL ad b k) [] := by
  unfold lvL at kk ⊢
  obtain ⟨r, S1, S2, e1, e2, hR2⟩ := t_worth hR (xs (k + 1)) (xs (k + 2))
  refine y_aload_n (pc := 272) M dL_law_272 rfl 2 rfl ?_
  refine yl_rd (pc := 273) 1 M hX hk (by decide) dL_law_273 dL_law_274 dL_law_275 dL_law_276 dL_law_277 ?_
  refine yl_rd (pc := 278) 2 M hX hk (by decide) dL_law_278 dL_law_279 dL_law_280 dL_law_281 dL_law_282 ?_
  refine yl_vcall (pc := 283) (As := [.int (xs (k + 1)), .int (xs (k + 2))]) M K hAd (kX4_worth l D cy ad n (xs (k + 1)) (xs (k + 2)) S r S1 e1) (cwV 2 M.1.2.2.2.2 gL_law_X4_worth rfl rfl rfl (by decide +kernel) ⟨(Nat.le_of_ble_eq_true rfl), (Nat.le_of_ble_eq_true rfl)⟩) o_obj rfl rfl rfl (Nat.le_of_ble_eq_true rfl) rc48 rs48 dL_law_283 ?_
  refine y_aload_n (pc := 286) M dL_law_286 rfl 3 rfl ?_
  refine yl_rd (pc := 287) 1 M hX hk (by decide) dL_law_287 dL_law_288 dL_law_289 dL_law_290 dL_law_291 ?_
  refine yl_rd (pc := 292) 2 M hX hk (by decide) dL_law_292 dL_law_293 dL_law_294 dL_law_295 dL_law_296 ?_
  refine yl_vcall (pc := 297) (As := [.int (xs (k + 1)), .int (xs (k + 2))]) M K hAd (kX5_worth l D cy ad n (xs (k + 1)) (xs (k + 2)) S1 r S2 e2) (cwV 2 M.1.2.2.2.2 gL_law_X5_worth rfl rfl rfl (by decide +kernel) ⟨(Nat.le_of_ble_eq_true rfl), (Nat.le_of_ble_eq_true rfl)⟩) o_mod rfl rfl rfl (Nat.le_of_ble_eq_true rfl) rc48 rs48 dL_law_297 ?_
  refine y_lcmp (pc := 300) M dL_law_300 ?_
  refine y_if_eq (X := some ()) (Y := some ()) (res := ()) (pc := 301) 1327 M dL_law_301 rfl (ite_self _) (fun _ _ => kk S2 hR2) (fun z _ => absurd (lg_self r) z)
theorem case_why {p : Program} {l : Launch} {e : Env} {s : State} {m : MethodId} {args : Array Value} {below : List Frame} {meth : Method} {c : Code} {Q : State → Prop} {D : va_G} {cy ad : Nat → Nat} {n k b L : Nat} {xs : Nat → Int32} {S : St} (M : MX p m c cL_law 4 s args wsL_law RL meth ret) (K : KK D cy ad s) (hAd : ∀ r, r < 48 → s.heap.size ≤ ad r) (hX : XX s b L xs) (hk : k + 6 ≤ L) (hR : Rel n S) (kk : ∀ S', Rel n S' → Zk 48 1743 p l e room_1 s m args below meth c 4 Q (Hl D cy ad n s S') 1327 (lvL ad b k) []) : Zk 48 1743 p l e room_1 s m args below meth c 4 Q (Hl D cy ad n s S) 306 (lvL ad b k) [] := by
  unfold lvL at kk ⊢
  obtain ⟨r, S1, S2, e1, e2, hR2⟩ := t_why hR (xs (k + 1))
  refine y_aload_n (pc := 306) M dL_law_306 rfl 2 rfl ?_
  refine yl_rd (pc := 307) 1 M hX hk (by decide) dL_law_307 dL_law_308 dL_law_309 dL_law_310 dL_law_311 ?_
  refine yl_vcall (pc := 312) (As := [.int (xs (k + 1))]) M K hAd (kX4_why l D cy ad n (xs (k + 1)) S r S1 e1) (cwV 1 M.1.2.2.2.2 gL_law_X4_why rfl rfl rfl (by decide +kernel) ⟨(Nat.le_of_ble_eq_true rfl), (Nat.le_of_ble_eq_true rfl)⟩) o_obj rfl rfl rfl (Nat.le_of_ble_eq_true rfl) rc48 rs48 dL_law_312 ?_
  refine y_aload_n (pc := 315) M dL_law_315 rfl 3 rfl ?_
  refine yl_rd (pc := 316) 1 M hX hk (by decide) dL_law_316 dL_law_317 dL_law_318 dL_law_319 dL_law_320 ?_
  refine yl_vcall (pc := 321) (As := [.int (xs (k + 1))]) M K hAd (kX5_why l D cy ad n (xs (k + 1)) S1 r S2 e2) (cwV 1 M.1.2.2.2.2 gL_law_X5_why rfl rfl rfl (by decide +kernel) ⟨(Nat.le_of_ble_eq_true rfl), (Nat.le_of_ble_eq_true rfl)⟩) o_mod rfl rfl rfl (Nat.le_of_ble_eq_true rfl) rc48 rs48 dL_law_321 ?_
  refine y_icmp_eq (X := some ()) (Y := some ()) (res := ()) (pc := 324) 1327 M dL_law_324 rfl (ite_self _) (fun _ _ => kk S2 hR2) (fun z _ => absurd rfl z)
theorem case_whole {p : Program} {l : Launch} {e : Env} {s : State} {m : MethodId} {args : Array Value} {below : List Frame} {meth : Method} {c : Code} {Q : State → Prop} {D : va_G} {cy ad : Nat → Nat} {n k b L : Nat} {xs : Nat → Int32} {S : St} (M : MX p m c cL_law 4 s args wsL_law RL meth ret) (K : KK D cy ad s) (hAd : ∀ r, r < 48 → s.heap.size ≤ ad r) (hX : XX s b L xs) (hk : k + 6 ≤ L) (hR : Rel n S) (kk : ∀ S', Rel n S' → Zk 48 1743 p l e room_1 s m args below meth c 4 Q (Hl D cy ad n s S') 1327 (lvL ad b k) []) : Zk 48 1743 p l e room_1 s m args below meth c 4 Q (Hl D cy ad n s S) 329 (lvL ad b k) [] := by
  unfold lvL at kk ⊢
  obtain ⟨r, S1, S2, e1, e2, hR2⟩ := t_whole hR (xs (k + 1))
  refine y_aload_n (pc := 329) M dL_law_329 rfl 2 rfl ?_
  refine yl_rd (pc := 330) 1 M hX hk (by decide) dL_law_330 dL_law_331 dL_law_332 dL_law_333 dL_law_334 ?_
  refine yl_vcall (pc := 335) (As := [.int (xs (k + 1))]) M K hAd (kX4_whole l D cy ad n (xs (k + 1)) S r S1 e1) (cwV 1 M.1.2.2.2.2 gL_law_X4_whole rfl rfl rfl (by decide +kernel) ⟨(Nat.le_of_ble_eq_true rfl), (Nat.le_of_ble_eq_true rfl)⟩) o_obj rfl rfl rfl (Nat.le_of_ble_eq_true rfl) rc48 rs48 dL_law_335 ?_
  refine y_aload_n (pc := 338) M dL_law_338 rfl 3 rfl ?_
  refine yl_rd (pc := 339) 1 M hX hk (by decide) dL_law_339 dL_law_340 dL_law_341 dL_law_342 dL_law_343 ?_
  refine yl_vcall (pc := 344) (As := [.int (xs (k + 1))]) M K hAd (kX5_whole l D cy ad n (xs (k + 1)) S1 r S2 e2) (cwV 1 M.1.2.2.2.2 gL_law_X5_whole rfl rfl rfl (by decide +kernel) ⟨(Nat.le_of_ble_eq_true rfl), (Nat.le_of_ble_eq_true rfl)⟩) o_mod rfl rfl rfl (Nat.le_of_ble_eq_true rfl) rc48 rs48 dL_law_344 ?_
  refine y_lcmp (pc := 347) M dL_law_347 ?_
  refine y_if_eq (X := some ()) (Y := some ()) (res := ()) (pc := 348) 1327 M dL_law_348 rfl (ite_self _) (fun _ _ => kk S2 hR2) (fun z _ => absurd (lg_self r) z)
theorem case_shun {p : Program} {l : Launch} {e : Env} {s : State} {m : MethodId} {args : Array Value} {below : List Frame} {meth : Method} {c : Code} {Q : State → Prop} {D : va_G} {cy ad : Nat → Nat} {n k b L : Nat} {xs : Nat → Int32} {S : St} (M : MX p m c cL_law 4 s args wsL_law RL meth ret) (K : KK D cy ad s) (hAd : ∀ r, r < 48 → s.heap.size ≤ ad r) (hX : XX s b L xs) (hk : k + 6 ≤ L) (hR : Rel n S) (kk : ∀ S', Rel n S' → Zk 48 1743 p l e room_1 s m args below meth c 4 Q (Hl D cy ad n s S') 1327 (lvL ad b k) []) : Zk 48 1743 p l e room_1 s m args below meth c 4 Q (Hl D cy ad n s S) 353 (lvL ad b k) [] := by
  unfold lvL at kk ⊢
  obtain ⟨r, S1, S2, e1, e2, hR2⟩ := t_shun hR (xs (k + 1)) (xs (k + 2))
  refine y_aload_n (pc := 353) M dL_law_353 rfl 2 rfl ?_
  refine yl_rd (pc := 354) 1 M hX hk (by decide) dL_law_354 dL_law_355 dL_law_356 dL_law_357 dL_law_358 ?_
  refine yl_rd (pc := 359) 2 M hX hk (by decide) dL_law_359 dL_law_360 dL_law_361 dL_law_362 dL_law_363 ?_
  refine yl_vcall (pc := 364) (As := [.int (xs (k + 1)), .int (xs (k + 2))]) M K hAd (kX4_shun l D cy ad n (xs (k + 1)) (xs (k + 2)) S r S1 e1) (cwV 2 M.1.2.2.2.2 gL_law_X4_shun rfl rfl rfl (by decide +kernel) ⟨(Nat.le_of_ble_eq_true rfl), (Nat.le_of_ble_eq_true rfl)⟩) o_obj rfl rfl rfl (Nat.le_of_ble_eq_true rfl) rc48 rs48 dL_law_364 ?_
  refine y_aload_n (pc := 367) M dL_law_367 rfl 3 rfl ?_
  refine yl_rd (pc := 368) 1 M hX hk (by decide) dL_law_368 dL_law_369 dL_law_370 dL_law_371 dL_law_372 ?_
  refine yl_rd (pc := 373) 2 M hX hk (by decide) dL_law_373 dL_law_374 dL_law_375 dL_law_376 dL_law_377 ?_
  refine yl_vcall (pc := 378) (As := [.int (xs (k + 1)), .int (xs (k + 2))]) M K hAd (kX5_shun l D cy ad n (xs (k + 1)) (xs (k + 2)) S1 r S2 e2) (cwV 2 M.1.2.2.2.2 gL_law_X5_shun rfl rfl rfl (by decide +kernel) ⟨(Nat.le_of_ble_eq_true rfl), (Nat.le_of_ble_eq_true rfl)⟩) o_mod rfl rfl rfl (Nat.le_of_ble_eq_true rfl) rc48 rs48 dL_law_378 ?_
  refine y_icmp_eq (X := some ()) (Y := some ()) (res := ()) (pc := 381) 1327 M dL_law_381 rfl (ite_self _) (fun _ _ => kk S2 hR2) (fun z _ => absurd rfl z)
theorem case_edge {p : Program} {l : Launch} {e : Env} {s : State} {m : MethodId} {args : Array Value} {below : List Frame} {meth : Method} {c : Code} {Q : State → Prop} {D : va_G} {cy ad : Nat → Nat} {n k b L : Nat} {xs : Nat → Int32} {S : St} (M : MX p m c cL_law 4 s args wsL_law RL meth ret) (K : KK D cy ad s) (hAd : ∀ r, r < 48 → s.heap.size ≤ ad r) (hX : XX s b L xs) (hk : k + 6 ≤ L) (hR : Rel n S) (kk : ∀ S', Rel n S' → Zk 48 1743 p l e room_1 s m args below meth c 4 Q (Hl D cy ad n s S') 1327 (lvL ad b k) []) : Zk 48 1743 p l e room_1 s m args below meth c 4 Q (Hl D cy ad n s S) 386 (lvL ad b k) [] := by
  unfold lvL at kk ⊢
  obtain ⟨r, S1, S2, e1, e2, hR2⟩ := t_edge hR (xs (k + 1)) (xs (k + 2)) (xs (k + 3)) (xs (k + 4))
  refine y_aload_n (pc := 386) M dL_law_386 rfl 2 rfl ?_
  refine yl_rd (pc := 387) 1 M hX hk (by decide) dL_law_387 dL_law_388 dL_law_389 dL_law_390 dL_law_391 ?_
  refine yl_rd (pc := 392) 2 M hX hk (by decide) dL_law_392 dL_law_393 dL_law_394 dL_law_395 dL_law_396 ?_
  refine yl_rd (pc := 397) 3 M hX hk (by decide) dL_law_397 dL_law_398 dL_law_399 dL_law_400 dL_law_401 ?_
  refine yl_rd (pc := 402) 4 M hX hk (by decide) dL_law_402 dL_law_403 dL_law_404 dL_law_405 dL_law_406 ?_
  refine yl_vcall (pc := 407) (As := [.int (xs (k + 1)), .int (xs (k + 2)), .int (xs (k + 3)), .int (xs (k + 4))]) M K hAd (kX4_edge l D cy ad n (xs (k + 1)) (xs (k + 2)) (xs (k + 3)) (xs (k + 4)) S r S1 e1) (cwV 4 M.1.2.2.2.2 gL_law_X4_edge rfl rfl rfl (by decide +kernel) ⟨(Nat.le_of_ble_eq_true rfl), (Nat.le_of_ble_eq_true rfl)⟩) o_obj rfl rfl rfl (Nat.le_of_ble_eq_true rfl) rc48 rs48 dL_law_407 ?_
  refine y_aload_n (pc := 410) M dL_law_410 rfl 3 rfl ?_
  refine yl_rd (pc := 411) 1 M hX hk (by decide) dL_law_411 dL_law_412 dL_law_413 dL_law_414 dL_law_415 ?_
  refine yl_rd (pc := 416) 2 M hX hk (by decide) dL_law_416 dL_law_417 dL_law_418 dL_law_419 dL_law_420 ?_
  refine yl_rd (pc := 421) 3 M hX hk (by decide) dL_law_421 dL_law_422 dL_law_423 dL_law_424 dL_law_425 ?_
  refine yl_rd (pc := 426) 4 M hX hk (by decide) dL_law_426 dL_law_427 dL_law_428 dL_law_429 dL_law_430 ?_
  refine yl_vcall (pc := 431) (As := [.int (xs (k + 1)), .int (xs (k + 2)), .int (xs (k + 3)), .int (xs (k + 4))]) M K hAd (kX5_edge l D cy ad n (xs (k + 1)) (xs (k + 2)) (xs (k + 3)) (xs (k + 4)) S1 r S2 e2) (cwV 4 M.1.2.2.2.2 gL_law_X5_edge rfl rfl rfl (by decide +kernel) ⟨(Nat.le_of_ble_eq_true rfl), (Nat.le_of_ble_eq_true rfl)⟩) o_mod rfl rfl rfl (Nat.le_of_ble_eq_true rfl) rc48 rs48 dL_law_431 ?_
  refine y_icmp_eq (X := some ()) (Y := some ()) (res := ()) (pc := 434) 1327 M dL_law_434 rfl (ite_self _) (fun _ _ => kk S2 hR2) (fun z _ => absurd rfl z)
theorem case_all {p : Program} {l : Launch} {e : Env} {s : State} {m : MethodId} {args : Array Value} {below : List Frame} {meth : Method} {c : Code} {Q : State → Prop} {D : va_G} {cy ad : Nat → Nat} {n k b L : Nat} {xs : Nat → Int32} {S : St} (M : MX p m c cL_law 4 s args wsL_law RL meth ret) (K : KK D cy ad s) (hAd : ∀ r, r < 48 → s.heap.size ≤ ad r) (hX : XX s b L xs) (hk : k + 6 ≤ L) (hR : Rel n S) (kk : ∀ S', Rel n S' → Zk 48 1743 p l e room_1 s m args below meth c 4 Q (Hl D cy ad n s S') 1327 (lvL ad b k) []) : Zk 48 1743 p l e room_1 s m args below meth c 4 Q (Hl D cy ad n s S) 439 (lvL ad b k) [] := by
  unfold lvL at kk ⊢
  obtain ⟨r, S1, S2, e1, e2, hR2⟩ := t_all hR (xs (k + 1))
  refine y_aload_n (pc := 439) M dL_law_439 rfl 2 rfl ?_
  refine yl_rd (pc := 440) 1 M hX hk (by decide) dL_law_440 dL_law_441 dL_law_442 dL_law_443 dL_law_444 ?_
  refine yl_vcall (pc := 445) (As := [.int (xs (k + 1))]) M K hAd (kX4_all l D cy ad n (xs (k + 1)) S r S1 e1) (cwV 1 M.1.2.2.2.2 gL_law_X4_all rfl rfl rfl (by decide +kernel) ⟨(Nat.le_of_ble_eq_true rfl), (Nat.le_of_ble_eq_true rfl)⟩) o_obj rfl rfl rfl (Nat.le_of_ble_eq_true rfl) rc48 rs48 dL_law_445 ?_
  refine y_aload_n (pc := 448) M dL_law_448 rfl 3 rfl ?_
  refine yl_rd (pc := 449) 1 M hX hk (by decide) dL_law_449 dL_law_450 dL_law_451 dL_law_452 dL_law_453 ?_
  refine yl_vcall (pc := 454) (As := [.int (xs (k + 1))]) M K hAd (kX5_all l D cy ad n (xs (k + 1)) S1 r S2 e2) (cwV 1 M.1.2.2.2.2 gL_law_X5_all rfl rfl rfl (by decide +kernel) ⟨(Nat.le_of_ble_eq_true rfl), (Nat.le_of_ble_eq_true rfl)⟩) o_mod rfl rfl rfl (Nat.le_of_ble_eq_true rfl) rc48 rs48 dL_law_454 ?_
  refine y_lcmp (pc := 457) M dL_law_457 ?_
  refine y_if_eq (X := some ()) (Y := some ()) (res := ()) (pc := 458) 1327 M dL_law_458 rfl (ite_self _) (fun _ _ => kk S2 hR2) (fun z _ => absurd (lg_self r) z)
theorem case_trees {p : Program} {l : Launch} {e : Env} {s : State} {m : MethodId} {args : Array Value} {below : List Frame} {meth : Method} {c : Code} {Q : State → Prop} {D : va_G} {cy ad : Nat → Nat} {n k b L : Nat} {xs : Nat → Int32} {S : St} (M : MX p m c cL_law 4 s args wsL_law RL meth ret) (K : KK D cy ad s) (hAd : ∀ r, r < 48 → s.heap.size ≤ ad r) (hX : XX s b L xs) (hk : k + 6 ≤ L) (hR : Rel n S) (kk : ∀ S', Rel n S' → Zk 48 1743 p l e room_1 s m args below meth c 4 Q (Hl D cy ad n s S') 1327 (lvL ad b k) []) : Zk 48 1743 p l e room_1 s m args below meth c 4 Q (Hl D cy ad n s S) 463 (lvL ad b k) [] := by
  unfold lvL at kk ⊢
  obtain ⟨r, S1, S2, e1, e2, hR2⟩ := t_trees hR (xs (k + 1)) (xs (k + 2))
  refine y_aload_n (pc := 463) M dL_law_463 rfl 2 rfl ?_
  refine yl_rd (pc := 464) 1 M hX hk (by decide) dL_law_464 dL_law_465 dL_law_466 dL_law_467 dL_law_468 ?_
  refine yl_rd (pc := 469) 2 M hX hk (by decide) dL_law_469 dL_law_470 dL_law_471 dL_law_472 dL_law_473 ?_
  refine yl_vcall (pc := 474) (As := [.int (xs (k + 1)), .int (xs (k + 2))]) M K hAd (kX4_trees l D cy ad n (xs (k + 1)) (xs (k + 2)) S r S1 e1) (cwV 2 M.1.2.2.2.2 gL_law_X4_trees rfl rfl rfl (by decide +kernel) ⟨(Nat.le_of_ble_eq_true rfl), (Nat.le_of_ble_eq_true rfl)⟩) o_obj rfl rfl rfl (Nat.le_of_ble_eq_true rfl) rc48 rs48 dL_law_474 ?_
  refine y_aload_n (pc := 477) M dL_law_477 rfl 3 rfl ?_
  refine yl_rd (pc := 478) 1 M hX hk (by decide) dL_law_478 dL_law_479 dL_law_480 dL_law_481 dL_law_482 ?_
  refine yl_rd (pc := 483) 2 M hX hk (by decide) dL_law_483 dL_law_484 dL_law_485 dL_law_486 dL_law_487 ?_
  refine yl_vcall (pc := 488) (As := [.int (xs (k + 1)), .int (xs (k + 2))]) M K hAd (kX5_trees l D cy ad n (xs (k + 1)) (xs (k + 2)) S1 r S2 e2) (cwV 2 M.1.2.2.2.2 gL_law_X5_trees rfl rfl rfl (by decide +kernel) ⟨(Nat.le_of_ble_eq_true rfl), (Nat.le_of_ble_eq_true rfl)⟩) o_mod rfl rfl rfl (Nat.le_of_ble_eq_true rfl) rc48 rs48 dL_law_488 ?_
  refine y_icmp_eq (X := some ()) (Y := some ()) (res := ()) (pc := 491) 1327 M dL_law_491 rfl (ite_self _) (fun _ _ => kk S2 hR2) (fun z _ => absurd rfl z)
theorem case_tell {p : Program} {l : Launch} {e : Env} {s : State} {m : MethodId} {args : Array Value} {below : List Frame} {meth : Method} {c : Code} {Q : State → Prop} {D : va_G} {cy ad : Nat → Nat} {n k b L : Nat} {xs : Nat → Int32} {S : St} (M : MX p m c cL_law 4 s args wsL_law RL meth ret) (K : KK D cy ad s) (hAd : ∀ r, r < 48 → s.heap.size ≤ ad r) (hX : XX s b L xs) (hk : k + 6 ≤ L) (hR : Rel n S) (kk : ∀ S', Rel n S' → Zk 48 1743 p l e room_1 s m args below meth c 4 Q (Hl D cy ad n s S') 1327 (lvL ad b k) []) : Zk 48 1743 p l e room_1 s m args below meth c 4 Q (Hl D cy ad n s S) 496 (lvL ad b k) [] := by
  unfold lvL at kk ⊢
  obtain ⟨r, S1, S2, e1, e2, hR2⟩ := t_tell hR (xs (k + 1)) (xs (k + 2))
  refine y_aload_n (pc := 496) M dL_law_496 rfl 2 rfl ?_
  refine yl_rd (pc := 497) 1 M hX hk (by decide) dL_law_497 dL_law_498 dL_law_499 dL_law_500 dL_law_501 ?_
  refine yl_rd (pc := 502) 2 M hX hk (by decide) dL_law_502 dL_law_503 dL_law_504 dL_law_505 dL_law_506 ?_
  refine yl_vcall (pc := 507) (As := [.int (xs (k + 1)), .int (xs (k + 2))]) M K hAd (kX4_tell l D cy ad n (xs (k + 1)) (xs (k + 2)) S r S1 e1) (cwV 2 M.1.2.2.2.2 gL_law_X4_tell rfl rfl rfl (by decide +kernel) ⟨(Nat.le_of_ble_eq_true rfl), (Nat.le_of_ble_eq_true rfl)⟩) o_obj rfl rfl rfl (Nat.le_of_ble_eq_true rfl) rc48 rs48 dL_law_507 ?_
  refine y_aload_n (pc := 510) M dL_law_510 rfl 3 rfl ?_
  refine yl_rd (pc := 511) 1 M hX hk (by decide) dL_law_511 dL_law_512 dL_law_513 dL_law_514 dL_law_515 ?_
  refine yl_rd (pc := 516) 2 M hX hk (by decide) dL_law_516 dL_law_517 dL_law_518 dL_law_519 dL_law_520 ?_
  refine yl_vcall (pc := 521) (As := [.int (xs (k + 1)), .int (xs (k + 2))]) M K hAd (kX5_tell l D cy ad n (xs (k + 1)) (xs (k + 2)) S1 r S2 e2) (cwV 2 M.1.2.2.2.2 gL_law_X5_tell rfl rfl rfl (by decide +kernel) ⟨(Nat.le_of_ble_eq_true rfl), (Nat.le_of_ble_eq_true rfl)⟩) o_mod rfl rfl rfl (Nat.le_of_ble_eq_true rfl) rc48 rs48 dL_law_521 ?_
  refine y_icmp_eq (X := some ()) (Y := some ()) (res := ()) (pc := 524) 1327 M dL_law_524 rfl (ite_self _) (fun _ _ => kk S2 hR2) (fun z _ => absurd rfl z)
theorem case_hand {p : Program} {l : Launch} {e : Env} {s : State} {m : MethodId} {args : Array Value} {below : List Frame} {meth : Method} {c : Code} {Q : State → Prop} {D : va_G} {cy ad : Nat → Nat} {n k b L : Nat} {xs : Nat → Int32} {S : St} (M : MX p m c cL_law 4 s args wsL_law RL meth ret) (K : KK D cy ad s) (hAd : ∀ r, r < 48 → s.heap.size ≤ ad r) (hX : XX s b L xs) (hk : k + 6 ≤ L) (hR : Rel n S) (kk : ∀ S', Rel n S' → Zk 48 1743 p l e room_1 s m args below meth c 4 Q (Hl D cy ad n s S') 1327 (lvL ad b k) []) : Zk 48 1743 p l e room_1 s m args below meth c 4 Q (Hl D cy ad n s S) 529 (lvL ad b k) [] := by
  unfold lvL at kk ⊢
  obtain ⟨r, S1, S2, e1, e2, hR2⟩ := t_hand hR (xs (k + 1))
  refine y_aload_n (pc := 529) M dL_law_529 rfl 2 rfl ?_
  refine yl_rd (pc := 530) 1 M hX hk (by decide) dL_law_530 dL_law_531 dL_law_532 dL_law_533 dL_law_534 ?_
  refine yl_vcall (pc := 535) (As := [.int (xs (k + 1))]) M K hAd (kX4_hand l D cy ad n (xs (k + 1)) S r S1 e1) (cwV 1 M.1.2.2.2.2 gL_law_X4_hand rfl rfl rfl (by decide +kernel) ⟨(Nat.le_of_ble_eq_true rfl), (Nat.le_of_ble_eq_true rfl)⟩) o_obj rfl rfl rfl (Nat.le_of_ble_eq_true rfl) rc48 rs48 dL_law_535 ?_
  refine y_aload_n (pc := 538) M dL_law_538 rfl 3 rfl ?_
  refine yl_rd (pc := 539) 1 M hX hk (by decide) dL_law_539 dL_law_540 dL_law_541 dL_law_542 dL_law_543 ?_
  refine yl_vcall (pc := 544) (As := [.int (xs (k + 1))]) M K hAd (kX5_hand l D cy ad n (xs (k + 1)) S1 r S2 e2) (cwV 1 M.1.2.2.2.2 gL_law_X5_hand rfl rfl rfl (by decide +kernel) ⟨(Nat.le_of_ble_eq_true rfl), (Nat.le_of_ble_eq_true rfl)⟩) o_mod rfl rfl rfl (Nat.le_of_ble_eq_true rfl) rc48 rs48 dL_law_544 ?_
  refine y_icmp_eq (X := some ()) (Y := some ()) (res := ()) (pc := 547) 1327 M dL_law_547 rfl (ite_self _) (fun _ _ => kk S2 hR2) (fun z _ => absurd rfl z)
theorem case_given {p : Program} {l : Launch} {e : Env} {s : State} {m : MethodId} {args : Array Value} {below : List Frame} {meth : Method} {c : Code} {Q : State → Prop} {D : va_G} {cy ad : Nat → Nat} {n k b L : Nat} {xs : Nat → Int32} {S : St} (M : MX p m c cL_law 4 s args wsL_law RL meth ret) (K : KK D cy ad s) (hAd : ∀ r, r < 48 → s.heap.size ≤ ad r) (hX : XX s b L xs) (hk : k + 6 ≤ L) (hR : Rel n S) (kk : ∀ S', Rel n S' → Zk 48 1743 p l e room_1 s m args below meth c 4 Q (Hl D cy ad n s S') 1327 (lvL ad b k) []) : Zk 48 1743 p l e room_1 s m args below meth c 4 Q (Hl D cy ad n s S) 552 (lvL ad b k) [] := by
  unfold lvL at kk ⊢
  obtain ⟨r, S1, S2, e1, e2, hR2⟩ := t_given hR (xs (k + 1)) (xs (k + 2)) (xs (k + 3)) (xs (k + 4))
  refine y_aload_n (pc := 552) M dL_law_552 rfl 2 rfl ?_
  refine yl_rd (pc := 553) 1 M hX hk (by decide) dL_law_553 dL_law_554 dL_law_555 dL_law_556 dL_law_557 ?_
  refine yl_rd (pc := 558) 2 M hX hk (by decide) dL_law_558 dL_law_559 dL_law_560 dL_law_561 dL_law_562 ?_
  refine yl_rd (pc := 563) 3 M hX hk (by decide) dL_law_563 dL_law_564 dL_law_565 dL_law_566 dL_law_567 ?_
  refine yl_rd (pc := 568) 4 M hX hk (by decide) dL_law_568 dL_law_569 dL_law_570 dL_law_571 dL_law_572 ?_
  refine yl_vcall (pc := 573) (As := [.int (xs (k + 1)), .int (xs (k + 2)), .int (xs (k + 3)), .int (xs (k + 4))]) M K hAd (kX4_given l D cy ad n (xs (k + 1)) (xs (k + 2)) (xs (k + 3)) (xs (k + 4)) S r S1 e1) (cwV 4 M.1.2.2.2.2 gL_law_X4_given rfl rfl rfl (by decide +kernel) ⟨(Nat.le_of_ble_eq_true rfl), (Nat.le_of_ble_eq_true rfl)⟩) o_obj rfl rfl rfl (Nat.le_of_ble_eq_true rfl) rc48 rs48 dL_law_573 ?_
  refine y_aload_n (pc := 576) M dL_law_576 rfl 3 rfl ?_
  refine yl_rd (pc := 577) 1 M hX hk (by decide) dL_law_577 dL_law_578 dL_law_579 dL_law_580 dL_law_581 ?_
  refine yl_rd (pc := 582) 2 M hX hk (by decide) dL_law_582 dL_law_583 dL_law_584 dL_law_585 dL_law_586 ?_
  refine yl_rd (pc := 587) 3 M hX hk (by decide) dL_law_587 dL_law_588 dL_law_589 dL_law_590 dL_law_591 ?_
  refine yl_rd (pc := 592) 4 M hX hk (by decide) dL_law_592 dL_law_593 dL_law_594 dL_law_595 dL_law_596 ?_
  refine yl_vcall (pc := 597) (As := [.int (xs (k + 1)), .int (xs (k + 2)), .int (xs (k + 3)), .int (xs (k + 4))]) M K hAd (kX5_given l D cy ad n (xs (k + 1)) (xs (k + 2)) (xs (k + 3)) (xs (k + 4)) S1 r S2 e2) (cwV 4 M.1.2.2.2.2 gL_law_X5_given rfl rfl rfl (by decide +kernel) ⟨(Nat.le_of_ble_eq_true rfl), (Nat.le_of_ble_eq_true rfl)⟩) o_mod rfl rfl rfl (Nat.le_of_ble_eq_true rfl) rc48 rs48 dL_law_597 ?_
  refine y_icmp_eq (X := some ()) (Y := some ()) (res := ()) (pc := 600) 1327 M dL_law_600 rfl (ite_self _) (fun _ _ => kk S2 hR2) (fun z _ => absurd rfl z)
theorem case_thin {p : Program} {l : Launch} {e : Env} {s : State} {m : MethodId} {args : Array Value} {below : List Frame} {meth : Method} {c : Code} {Q : State → Prop} {D : va_G} {cy ad : Nat → Nat} {n k b L : Nat} {xs : Nat → Int32} {S : St} (M : MX p m c cL_law 4 s args wsL_law RL meth ret) (K : KK D cy ad s) (hAd : ∀ r, r < 48 → s.heap.size ≤ ad r) (hX : XX s b L xs) (hk : k + 6 ≤ L) (hR : Rel n S) (kk : ∀ S', Rel n S' → Zk 48 1743 p l e room_1 s m args below meth c 4 Q (Hl D cy ad n s S') 1327 (lvL ad b k) []) : Zk 48 1743 p l e room_1 s m args below meth c 4 Q (Hl D cy ad n s S) 605 (lvL ad b k) [] := by
  unfold lvL at kk ⊢
  obtain ⟨r, S1, S2, e1, e2, hR2⟩ := t_thin hR (xs (k + 1)) (xs (k + 2)) (xs (k + 3))
  refine y_aload_n (pc := 605) M dL_law_605 rfl 2 rfl ?_
  refine yl_rd (pc := 606) 1 M hX hk (by decide) dL_law_606 dL_law_607 dL_law_608 dL_law_609 dL_law_610 ?_
  refine yl_rd (pc := 611) 2 M hX hk (by decide) dL_law_611 dL_law_612 dL_law_613 dL_law_614 dL_law_615 ?_
  refine yl_rd (pc := 616) 3 M hX hk (by decide) dL_law_616 dL_law_617 dL_law_618 dL_law_619 dL_law_620 ?_
  refine yl_vcall (pc := 621) (As := [.int (xs (k + 1)), .int (xs (k + 2)), .int (xs (k + 3))]) M K hAd (kX4_thin l D cy ad n (xs (k + 1)) (xs (k + 2)) (xs (k + 3)) S r S1 e1) (cwV 3 M.1.2.2.2.2 gL_law_X4_thin rfl rfl rfl (by decide +kernel) ⟨(Nat.le_of_ble_eq_true rfl), (Nat.le_of_ble_eq_true rfl)⟩) o_obj rfl rfl rfl (Nat.le_of_ble_eq_true rfl) rc48 rs48 dL_law_621 ?_
  refine y_aload_n (pc := 624) M dL_law_624 rfl 3 rfl ?_
  refine yl_rd (pc := 625) 1 M hX hk (by decide) dL_law_625 dL_law_626 dL_law_627 dL_law_628 dL_law_629 ?_
  refine yl_rd (pc := 630) 2 M hX hk (by decide) dL_law_630 dL_law_631 dL_law_632 dL_law_633 dL_law_634 ?_
  refine yl_rd (pc := 635) 3 M hX hk (by decide) dL_law_635 dL_law_636 dL_law_637 dL_law_638 dL_law_639 ?_
  refine yl_vcall (pc := 640) (As := [.int (xs (k + 1)), .int (xs (k + 2)), .int (xs (k + 3))]) M K hAd (kX5_thin l D cy ad n (xs (k + 1)) (xs (k + 2)) (xs (k + 3)) S1 r S2 e2) (cwV 3 M.1.2.2.2.2 gL_law_X5_thin rfl rfl rfl (by decide +kernel) ⟨(Nat.le_of_ble_eq_true rfl), (Nat.le_of_ble_eq_true rfl)⟩) o_mod rfl rfl rfl (Nat.le_of_ble_eq_true rfl) rc48 rs48 dL_law_640 ?_
  refine y_icmp_eq (X := some ()) (Y := some ()) (res := ()) (pc := 643) 1327 M dL_law_643 rfl (ite_self _) (fun _ _ => kk S2 hR2) (fun z _ => absurd rfl z)
theorem case_part {p : Program} {l : Launch} {e : Env} {s : State} {m : MethodId} {args : Array Value} {below : List Frame} {meth : Method} {c : Code} {Q : State → Prop} {D : va_G} {cy ad : Nat → Nat} {n k b L : Nat} {xs : Nat → Int32} {S : St} (M : MX p m c cL_law 4 s args wsL_law RL meth ret) (K : KK D cy ad s) (hAd : ∀ r, r < 48 → s.heap.size ≤ ad r) (hX : XX s b L xs) (hk : k + 6 ≤ L) (hR : Rel n S) (kk : ∀ S', Rel n S' → Zk 48 1743 p l e room_1 s m args below meth c 4 Q (Hl D cy ad n s S') 1327 (lvL ad b k) []) : Zk 48 1743 p l e room_1 s m args below meth c 4 Q (Hl D cy ad n s S) 648 (lvL ad b k) [] := by
  unfold lvL at kk ⊢
  obtain ⟨r, S1, S2, e1, e2, hR2⟩ := t_part hR (xs (k + 1)) (xs (k + 2)) (xs (k + 3))
  refine y_aload_n (pc := 648) M dL_law_648 rfl 2 rfl ?_
  refine yl_rd (pc := 649) 1 M hX hk (by decide) dL_law_649 dL_law_650 dL_law_651 dL_law_652 dL_law_653 ?_
  refine yl_rd (pc := 654) 2 M hX hk (by decide) dL_law_654 dL_law_655 dL_law_656 dL_law_657 dL_law_658 ?_
  refine yl_rd (pc := 659) 3 M hX hk (by decide) dL_law_659 dL_law_660 dL_law_661 dL_law_662 dL_law_663 ?_
  refine yl_vcall (pc := 664) (As := [.int (xs (k + 1)), .int (xs (k + 2)), .int (xs (k + 3))]) M K hAd (kX4_part l D cy ad n (xs (k + 1)) (xs (k + 2)) (xs (k + 3)) S r S1 e1) (cwV 3 M.1.2.2.2.2 gL_law_X4_part rfl rfl rfl (by decide +kernel) ⟨(Nat.le_of_ble_eq_true rfl), (Nat.le_of_ble_eq_true rfl)⟩) o_obj rfl rfl rfl (Nat.le_of_ble_eq_true rfl) rc48 rs48 dL_law_664 ?_
  refine y_aload_n (pc := 667) M dL_law_667 rfl 3 rfl ?_
  refine yl_rd (pc := 668) 1 M hX hk (by decide) dL_law_668 dL_law_669 dL_law_670 dL_law_671 dL_law_672 ?_
  refine yl_rd (pc := 673) 2 M hX hk (by decide) dL_law_673 dL_law_674 dL_law_675 dL_law_676 dL_law_677 ?_
  refine yl_rd (pc := 678) 3 M hX hk (by decide) dL_law_678 dL_law_679 dL_law_680 dL_law_681 dL_law_682 ?_
  refine yl_vcall (pc := 683) (As := [.int (xs (k + 1)), .int (xs (k + 2)), .int (xs (k + 3))]) M K hAd (kX5_part l D cy ad n (xs (k + 1)) (xs (k + 2)) (xs (k + 3)) S1 r S2 e2) (cwV 3 M.1.2.2.2.2 gL_law_X5_part rfl rfl rfl (by decide +kernel) ⟨(Nat.le_of_ble_eq_true rfl), (Nat.le_of_ble_eq_true rfl)⟩) o_mod rfl rfl rfl (Nat.le_of_ble_eq_true rfl) rc48 rs48 dL_law_683 ?_
  refine y_icmp_eq (X := some ()) (Y := some ()) (res := ()) (pc := 686) 1327 M dL_law_686 rfl (ite_self _) (fun _ _ => kk S2 hR2) (fun z _ => absurd rfl z)
theorem case_other {p : Program} {l : Launch} {e : Env} {s : State} {m : MethodId} {args : Array Value} {below : List Frame} {meth : Method} {c : Code} {Q : State → Prop} {D : va_G} {cy ad : Nat → Nat} {n k b L : Nat} {xs : Nat → Int32} {S : St} (M : MX p m c cL_law 4 s args wsL_law RL meth ret) (K : KK D cy ad s) (hAd : ∀ r, r < 48 → s.heap.size ≤ ad r) (hX : XX s b L xs) (hk : k + 6 ≤ L) (hR : Rel n S) (kk : ∀ S', Rel n S' → Zk 48 1743 p l e room_1 s m args below meth c 4 Q (Hl D cy ad n s S') 1327 (lvL ad b k) []) : Zk 48 1743 p l e room_1 s m args below meth c 4 Q (Hl D cy ad n s S) 691 (lvL ad b k) [] := by
  unfold lvL at kk ⊢
  obtain ⟨r, S1, S2, e1, e2, hR2⟩ := t_other hR (xs (k + 1)) (xs (k + 2)) (xs (k + 3))
  refine y_aload_n (pc := 691) M dL_law_691 rfl 2 rfl ?_
  refine yl_rd (pc := 692) 1 M hX hk (by decide) dL_law_692 dL_law_693 dL_law_694 dL_law_695 dL_law_696 ?_
  refine yl_rd (pc := 697) 2 M hX hk (by decide) dL_law_697 dL_law_698 dL_law_699 dL_law_700 dL_law_701 ?_
  refine yl_rd (pc := 702) 3 M hX hk (by decide) dL_law_702 dL_law_703 dL_law_704 dL_law_705 dL_law_706 ?_
  refine yl_vcall (pc := 707) (As := [.int (xs (k + 1)), .int (xs (k + 2)), .int (xs (k + 3))]) M K hAd (kX4_other l D cy ad n (xs (k + 1)) (xs (k + 2)) (xs (k + 3)) S r S1 e1) (cwV 3 M.1.2.2.2.2 gL_law_X4_other rfl rfl rfl (by decide +kernel) ⟨(Nat.le_of_ble_eq_true rfl), (Nat.le_of_ble_eq_true rfl)⟩) o_obj rfl rfl rfl (Nat.le_of_ble_eq_true rfl) rc48 rs48 dL_law_707 ?_
  refine y_aload_n (pc := 710) M dL_law_710 rfl 3 rfl ?_
  refine yl_rd (pc := 711) 1 M hX hk (by decide) dL_law_711 dL_law_712 dL_law_713 dL_law_714 dL_law_715 ?_
  refine yl_rd (pc := 716) 2 M hX hk (by decide) dL_law_716 dL_law_717 dL_law_718 dL_law_719 dL_law_720 ?_
  refine yl_rd (pc := 721) 3 M hX hk (by decide) dL_law_721 dL_law_722 dL_law_723 dL_law_724 dL_law_725 ?_
  refine yl_vcall (pc := 726) (As := [.int (xs (k + 1)), .int (xs (k + 2)), .int (xs (k + 3))]) M K hAd (kX5_other l D cy ad n (xs (k + 1)) (xs (k + 2)) (xs (k + 3)) S1 r S2 e2) (cwV 3 M.1.2.2.2.2 gL_law_X5_other rfl rfl rfl (by decide +kernel) ⟨(Nat.le_of_ble_eq_true rfl), (Nat.le_of_ble_eq_true rfl)⟩) o_mod rfl rfl rfl (Nat.le_of_ble_eq_true rfl) rc48 rs48 dL_law_726 ?_
  refine y_icmp_eq (X := some ()) (Y := some ()) (res := ()) (pc := 729) 1327 M dL_law_729 rfl (ite_self _) (fun _ _ => kk S2 hR2) (fun z _ => absurd rfl z)
theorem case_mix {p : Program} {l : Launch} {e : Env} {s : State} {m : MethodId} {args : Array Value} {below : List Frame} {meth : Method} {c : Code} {Q : State → Prop} {D : va_G} {cy ad : Nat → Nat} {n k b L : Nat} {xs : Nat → Int32} {S : St} (M : MX p m c cL_law 4 s args wsL_law RL meth ret) (K : KK D cy ad s) (hAd : ∀ r, r < 48 → s.heap.size ≤ ad r) (hX : XX s b L xs) (hk : k + 6 ≤ L) (hR : Rel n S) (kk : ∀ S', Rel n S' → Zk 48 1743 p l e room_1 s m args below meth c 4 Q (Hl D cy ad n s S') 1327 (lvL ad b k) []) : Zk 48 1743 p l e room_1 s m args below meth c 4 Q (Hl D cy ad n s S) 734 (lvL ad b k) [] := by
  unfold lvL at kk ⊢
  obtain ⟨r, S1, S2, e1, e2, hR2⟩ := t_mix hR (xs (k + 1)) (xs (k + 2)) (xs (k + 3)) (xs (k + 4)) (xs (k + 5))
  refine y_aload_n (pc := 734) M dL_law_734 rfl 2 rfl ?_
  refine yl_rd (pc := 735) 1 M hX hk (by decide) dL_law_735 dL_law_736 dL_law_737 dL_law_738 dL_law_739 ?_
  refine yl_rd (pc := 740) 2 M hX hk (by decide) dL_law_740 dL_law_741 dL_law_742 dL_law_743 dL_law_744 ?_
  refine yl_rd (pc := 745) 3 M hX hk (by decide) dL_law_745 dL_law_746 dL_law_747 dL_law_748 dL_law_749 ?_
  refine yl_rd (pc := 750) 4 M hX hk (by decide) dL_law_750 dL_law_751 dL_law_752 dL_law_753 dL_law_754 ?_
  refine yl_rd (pc := 755) 5 M hX hk (by decide) dL_law_755 dL_law_756 dL_law_757 dL_law_758 dL_law_759 ?_
  refine yl_vcall (pc := 760) (As := [.int (xs (k + 1)), .int (xs (k + 2)), .int (xs (k + 3)), .int (xs (k + 4)), .int (xs (k + 5))]) M K hAd (kX4_mix l D cy ad n (xs (k + 1)) (xs (k + 2)) (xs (k + 3)) (xs (k + 4)) (xs (k + 5)) S r S1 e1) (cwV 5 M.1.2.2.2.2 gL_law_X4_mix rfl rfl rfl (by decide +kernel) ⟨(Nat.le_of_ble_eq_true rfl), (Nat.le_of_ble_eq_true rfl)⟩) o_obj rfl rfl rfl (Nat.le_of_ble_eq_true rfl) rc48 rs48 dL_law_760 ?_
  refine y_aload_n (pc := 763) M dL_law_763 rfl 3 rfl ?_
  refine yl_rd (pc := 764) 1 M hX hk (by decide) dL_law_764 dL_law_765 dL_law_766 dL_law_767 dL_law_768 ?_
  refine yl_rd (pc := 769) 2 M hX hk (by decide) dL_law_769 dL_law_770 dL_law_771 dL_law_772 dL_law_773 ?_
  refine yl_rd (pc := 774) 3 M hX hk (by decide) dL_law_774 dL_law_775 dL_law_776 dL_law_777 dL_law_778 ?_
  refine yl_rd (pc := 779) 4 M hX hk (by decide) dL_law_779 dL_law_780 dL_law_781 dL_law_782 dL_law_783 ?_
  refine yl_rd (pc := 784) 5 M hX hk (by decide) dL_law_784 dL_law_785 dL_law_786 dL_law_787 dL_law_788 ?_
  refine yl_vcall (pc := 789) (As := [.int (xs (k + 1)), .int (xs (k + 2)), .int (xs (k + 3)), .int (xs (k + 4)), .int (xs (k + 5))]) M K hAd (kX5_mix l D cy ad n (xs (k + 1)) (xs (k + 2)) (xs (k + 3)) (xs (k + 4)) (xs (k + 5)) S1 r S2 e2) (cwV 5 M.1.2.2.2.2 gL_law_X5_mix rfl rfl rfl (by decide +kernel) ⟨(Nat.le_of_ble_eq_true rfl), (Nat.le_of_ble_eq_true rfl)⟩) o_mod rfl rfl rfl (Nat.le_of_ble_eq_true rfl) rc48 rs48 dL_law_789 ?_
  refine y_icmp_eq (X := some ()) (Y := some ()) (res := ()) (pc := 792) 1327 M dL_law_792 rfl (ite_self _) (fun _ _ => kk S2 hR2) (fun z _ => absurd rfl z)
theorem case_share {p : Program} {l : Launch} {e : Env} {s : State} {m : MethodId} {args : Array Value} {below : List Frame} {meth : Method} {c : Code} {Q : State → Prop} {D : va_G} {cy ad : Nat → Nat} {n k b L : Nat} {xs : Nat → Int32} {S : St} (M : MX p m c cL_law 4 s args wsL_law RL meth ret) (K : KK D cy ad s) (hAd : ∀ r, r < 48 → s.heap.size ≤ ad r) (hX : XX s b L xs) (hk : k + 6 ≤ L) (hR : Rel n S) (kk : ∀ S', Rel n S' → Zk 48 1743 p l e room_1 s m args below meth c 4 Q (Hl D cy ad n s S') 1327 (lvL ad b k) []) : Zk 48 1743 p l e room_1 s m args below meth c 4 Q (Hl D cy ad n s S) 797 (lvL ad b k) [] := by
  unfold lvL at kk ⊢
  obtain ⟨r, e1, e2⟩ := t_share hR (xs (k + 1)) (xs (k + 2))
  refine y_aload_n (pc := 797) M dL_law_797 rfl 2 rfl ?_
  refine yl_rd (pc := 798) 1 M hX hk (by decide) dL_law_798 dL_law_799 dL_law_800 dL_law_801 dL_law_802 ?_
  refine yl_rd (pc := 803) 2 M hX hk (by decide) dL_law_803 dL_law_804 dL_law_805 dL_law_806 dL_law_807 ?_
  refine yl_vcall (pc := 808) (As := [.int (xs (k + 1)), .int (xs (k + 2))]) M K hAd (kX4_share l D cy ad n (xs (k + 1)) (xs (k + 2)) S r e1) (cwV 2 M.1.2.2.2.2 gL_law_X4_share rfl rfl rfl (by decide +kernel) ⟨(Nat.le_of_ble_eq_true rfl), (Nat.le_of_ble_eq_true rfl)⟩) o_obj rfl rfl rfl (Nat.le_of_ble_eq_true rfl) rc48 rs48 dL_law_808 ?_
  refine y_aload_n (pc := 811) M dL_law_811 rfl 3 rfl ?_
  refine yl_rd (pc := 812) 1 M hX hk (by decide) dL_law_812 dL_law_813 dL_law_814 dL_law_815 dL_law_816 ?_
  refine yl_rd (pc := 817) 2 M hX hk (by decide) dL_law_817 dL_law_818 dL_law_819 dL_law_820 dL_law_821 ?_
  refine yl_vcall (pc := 822) (As := [.int (xs (k + 1)), .int (xs (k + 2))]) M K hAd (kX5_share l D cy ad n (xs (k + 1)) (xs (k + 2)) S r e2) (cwV 2 M.1.2.2.2.2 gL_law_X5_share rfl rfl rfl (by decide +kernel) ⟨(Nat.le_of_ble_eq_true rfl), (Nat.le_of_ble_eq_true rfl)⟩) o_mod rfl rfl rfl (Nat.le_of_ble_eq_true rfl) rc48 rs48 dL_law_822 ?_
  refine y_lcmp (pc := 825) M dL_law_825 ?_
  refine y_if_eq (X := some ()) (Y := some ()) (res := ()) (pc := 826) 1327 M dL_law_826 rfl (ite_self _) (fun _ _ => kk S hR) (fun z _ => absurd (lg_self r) z)
theorem case_chance {p : Program} {l : Launch} {e : Env} {s : State} {m : MethodId} {args : Array Value} {below : List Frame} {meth : Method} {c : Code} {Q : State → Prop} {D : va_G} {cy ad : Nat → Nat} {n k b L : Nat} {xs : Nat → Int32} {S : St} (M : MX p m c cL_law 4 s args wsL_law RL meth ret) (K : KK D cy ad s) (hAd : ∀ r, r < 48 → s.heap.size ≤ ad r) (hX : XX s b L xs) (hk : k + 6 ≤ L) (hR : Rel n S) (kk : ∀ S', Rel n S' → Zk 48 1743 p l e room_1 s m args below meth c 4 Q (Hl D cy ad n s S') 1327 (lvL ad b k) []) : Zk 48 1743 p l e room_1 s m args below meth c 4 Q (Hl D cy ad n s S) 831 (lvL ad b k) [] := by
  unfold lvL at kk ⊢
  obtain ⟨r, e1, e2⟩ := t_chance hR (xs (k + 1)) (xs (k + 2)) (xs (k + 3))
  refine y_aload_n (pc := 831) M dL_law_831 rfl 2 rfl ?_
  refine yl_rd (pc := 832) 1 M hX hk (by decide) dL_law_832 dL_law_833 dL_law_834 dL_law_835 dL_law_836 ?_
  refine yl_rd (pc := 837) 2 M hX hk (by decide) dL_law_837 dL_law_838 dL_law_839 dL_law_840 dL_law_841 ?_
  refine yl_rd (pc := 842) 3 M hX hk (by decide) dL_law_842 dL_law_843 dL_law_844 dL_law_845 dL_law_846 ?_
  refine yl_vcall (pc := 847) (As := [.int (xs (k + 1)), .int (xs (k + 2)), .int (xs (k + 3))]) M K hAd (kX4_chance l D cy ad n (xs (k + 1)) (xs (k + 2)) (xs (k + 3)) S r e1) (cwV 3 M.1.2.2.2.2 gL_law_X4_chance rfl rfl rfl (by decide +kernel) ⟨(Nat.le_of_ble_eq_true rfl), (Nat.le_of_ble_eq_true rfl)⟩) o_obj rfl rfl rfl (Nat.le_of_ble_eq_true rfl) rc48 rs48 dL_law_847 ?_
  refine y_aload_n (pc := 850) M dL_law_850 rfl 3 rfl ?_
  refine yl_rd (pc := 851) 1 M hX hk (by decide) dL_law_851 dL_law_852 dL_law_853 dL_law_854 dL_law_855 ?_
  refine yl_rd (pc := 856) 2 M hX hk (by decide) dL_law_856 dL_law_857 dL_law_858 dL_law_859 dL_law_860 ?_
  refine yl_rd (pc := 861) 3 M hX hk (by decide) dL_law_861 dL_law_862 dL_law_863 dL_law_864 dL_law_865 ?_
  refine yl_vcall (pc := 866) (As := [.int (xs (k + 1)), .int (xs (k + 2)), .int (xs (k + 3))]) M K hAd (kX5_chance l D cy ad n (xs (k + 1)) (xs (k + 2)) (xs (k + 3)) S r e2) (cwV 3 M.1.2.2.2.2 gL_law_X5_chance rfl rfl rfl (by decide +kernel) ⟨(Nat.le_of_ble_eq_true rfl), (Nat.le_of_ble_eq_true rfl)⟩) o_mod rfl rfl rfl (Nat.le_of_ble_eq_true rfl) rc48 rs48 dL_law_866 ?_
  refine y_lcmp (pc := 869) M dL_law_869 ?_
  refine y_if_eq (X := some ()) (Y := some ()) (res := ()) (pc := 870) 1327 M dL_law_870 rfl (ite_self _) (fun _ _ => kk S hR) (fun z _ => absurd (lg_self r) z)
theorem case_within {p : Program} {l : Launch} {e : Env} {s : State} {m : MethodId} {args : Array Value} {below : List Frame} {meth : Method} {c : Code} {Q : State → Prop} {D : va_G} {cy ad : Nat → Nat} {n k b L : Nat} {xs : Nat → Int32} {S : St} (M : MX p m c cL_law 4 s args wsL_law RL meth ret) (K : KK D cy ad s) (hAd : ∀ r, r < 48 → s.heap.size ≤ ad r) (hX : XX s b L xs) (hk : k + 6 ≤ L) (hR : Rel n S) (kk : ∀ S', Rel n S' → Zk 48 1743 p l e room_1 s m args below meth c 4 Q (Hl D cy ad n s S') 1327 (lvL ad b k) []) : Zk 48 1743 p l e room_1 s m args below meth c 4 Q (Hl D cy ad n s S) 875 (lvL ad b k) [] := by
  unfold lvL at kk ⊢
  obtain ⟨r, e1, e2⟩ := t_within hR (xs (k + 1)) (xs (k + 2)) (xs (k + 3))
  refine y_aload_n (pc := 875) M dL_law_875 rfl 2 rfl ?_
  refine yl_rd (pc := 876) 1 M hX hk (by decide) dL_law_876 dL_law_877 dL_law_878 dL_law_879 dL_law_880 ?_
  refine yl_rd (pc := 881) 2 M hX hk (by decide) dL_law_881 dL_law_882 dL_law_883 dL_law_884 dL_law_885 ?_
  refine yl_rd (pc := 886) 3 M hX hk (by decide) dL_law_886 dL_law_887 dL_law_888 dL_law_889 dL_law_890 ?_
  refine yl_vcall (pc := 891) (As := [.int (xs (k + 1)), .int (xs (k + 2)), .int (xs (k + 3))]) M K hAd (kX4_within l D cy ad n (xs (k + 1)) (xs (k + 2)) (xs (k + 3)) S r e1) (cwV 3 M.1.2.2.2.2 gL_law_X4_within rfl rfl rfl (by decide +kernel) ⟨(Nat.le_of_ble_eq_true rfl), (Nat.le_of_ble_eq_true rfl)⟩) o_obj rfl rfl rfl (Nat.le_of_ble_eq_true rfl) rc48 rs48 dL_law_891 ?_
  refine y_aload_n (pc := 894) M dL_law_894 rfl 3 rfl ?_
  refine yl_rd (pc := 895) 1 M hX hk (by decide) dL_law_895 dL_law_896 dL_law_897 dL_law_898 dL_law_899 ?_
  refine yl_rd (pc := 900) 2 M hX hk (by decide) dL_law_900 dL_law_901 dL_law_902 dL_law_903 dL_law_904 ?_
  refine yl_rd (pc := 905) 3 M hX hk (by decide) dL_law_905 dL_law_906 dL_law_907 dL_law_908 dL_law_909 ?_
  refine yl_vcall (pc := 910) (As := [.int (xs (k + 1)), .int (xs (k + 2)), .int (xs (k + 3))]) M K hAd (kX5_within l D cy ad n (xs (k + 1)) (xs (k + 2)) (xs (k + 3)) S r e2) (cwV 3 M.1.2.2.2.2 gL_law_X5_within rfl rfl rfl (by decide +kernel) ⟨(Nat.le_of_ble_eq_true rfl), (Nat.le_of_ble_eq_true rfl)⟩) o_mod rfl rfl rfl (Nat.le_of_ble_eq_true rfl) rc48 rs48 dL_law_910 ?_
  refine y_lcmp (pc := 913) M dL_law_913 ?_
  refine y_if_eq (X := some ()) (Y := some ()) (res := ()) (pc := 914) 1327 M dL_law_914 rfl (ite_self _) (fun _ _ => kk S hR) (fun z _ => absurd (lg_self r) z)
theorem case_out {p : Program} {l : Launch} {e : Env} {s : State} {m : MethodId} {args : Array Value} {below : List Frame} {meth : Method} {c : Code} {Q : State → Prop} {D : va_G} {cy ad : Nat → Nat} {n k b L : Nat} {xs : Nat → Int32} {S : St} (M : MX p m c cL_law 4 s args wsL_law RL meth ret) (K : KK D cy ad s) (hAd : ∀ r, r < 48 → s.heap.size ≤ ad r) (hX : XX s b L xs) (hk : k + 6 ≤ L) (hR : Rel n S) (kk : ∀ S', Rel n S' → Zk 48 1743 p l e room_1 s m args below meth c 4 Q (Hl D cy ad n s S') 1327 (lvL ad b k) []) : Zk 48 1743 p l e room_1 s m args below meth c 4 Q (Hl D cy ad n s S) 919 (lvL ad b k) [] := by
  unfold lvL at kk ⊢
  obtain ⟨r, e1, e2⟩ := t_out hR (xs (k + 1)) (xs (k + 2)) (xs (k + 3))
  refine y_aload_n (pc := 919) M dL_law_919 rfl 2 rfl ?_
  refine yl_rd (pc := 920) 1 M hX hk (by decide) dL_law_920 dL_law_921 dL_law_922 dL_law_923 dL_law_924 ?_
  refine yl_rd (pc := 925) 2 M hX hk (by decide) dL_law_925 dL_law_926 dL_law_927 dL_law_928 dL_law_929 ?_
  refine yl_rd (pc := 930) 3 M hX hk (by decide) dL_law_930 dL_law_931 dL_law_932 dL_law_933 dL_law_934 ?_
  refine yl_vcall (pc := 935) (As := [.int (xs (k + 1)), .int (xs (k + 2)), .int (xs (k + 3))]) M K hAd (kX4_out l D cy ad n (xs (k + 1)) (xs (k + 2)) (xs (k + 3)) S r e1) (cwV 3 M.1.2.2.2.2 gL_law_X4_out rfl rfl rfl (by decide +kernel) ⟨(Nat.le_of_ble_eq_true rfl), (Nat.le_of_ble_eq_true rfl)⟩) o_obj rfl rfl rfl (Nat.le_of_ble_eq_true rfl) rc48 rs48 dL_law_935 ?_
  refine y_aload_n (pc := 938) M dL_law_938 rfl 3 rfl ?_
  refine yl_rd (pc := 939) 1 M hX hk (by decide) dL_law_939 dL_law_940 dL_law_941 dL_law_942 dL_law_943 ?_
  refine yl_rd (pc := 944) 2 M hX hk (by decide) dL_law_944 dL_law_945 dL_law_946 dL_law_947 dL_law_948 ?_
  refine yl_rd (pc := 949) 3 M hX hk (by decide) dL_law_949 dL_law_950 dL_law_951 dL_law_952 dL_law_953 ?_
  refine yl_vcall (pc := 954) (As := [.int (xs (k + 1)), .int (xs (k + 2)), .int (xs (k + 3))]) M K hAd (kX5_out l D cy ad n (xs (k + 1)) (xs (k + 2)) (xs (k + 3)) S r e2) (cwV 3 M.1.2.2.2.2 gL_law_X5_out rfl rfl rfl (by decide +kernel) ⟨(Nat.le_of_ble_eq_true rfl), (Nat.le_of_ble_eq_true rfl)⟩) o_mod rfl rfl rfl (Nat.le_of_ble_eq_true rfl) rc48 rs48 dL_law_954 ?_
  refine y_lcmp (pc := 957) M dL_law_957 ?_
  refine y_if_eq (X := some ()) (Y := some ()) (res := ()) (pc := 958) 1327 M dL_law_958 rfl (ite_self _) (fun _ _ => kk S hR) (fun z _ => absurd (lg_self r) z)
theorem case_size {p : Program} {l : Launch} {e : Env} {s : State} {m : MethodId} {args : Array Value} {below : List Frame} {meth : Method} {c : Code} {Q : State → Prop} {D : va_G} {cy ad : Nat → Nat} {n k b L : Nat} {xs : Nat → Int32} {S : St} (M : MX p m c cL_law 4 s args wsL_law RL meth ret) (K : KK D cy ad s) (hAd : ∀ r, r < 48 → s.heap.size ≤ ad r) (hX : XX s b L xs) (hk : k + 6 ≤ L) (hR : Rel n S) (kk : ∀ S', Rel n S' → Zk 48 1743 p l e room_1 s m args below meth c 4 Q (Hl D cy ad n s S') 1327 (lvL ad b k) []) : Zk 48 1743 p l e room_1 s m args below meth c 4 Q (Hl D cy ad n s S) 963 (lvL ad b k) [] := by
  unfold lvL at kk ⊢
  obtain ⟨r, e1, e2⟩ := t_size hR (xs (k + 1)) (xs (k + 2)) (xs (k + 3))
  refine y_aload_n (pc := 963) M dL_law_963 rfl 2 rfl ?_
  refine yl_rd (pc := 964) 1 M hX hk (by decide) dL_law_964 dL_law_965 dL_law_966 dL_law_967 dL_law_968 ?_
  refine yl_rd (pc := 969) 2 M hX hk (by decide) dL_law_969 dL_law_970 dL_law_971 dL_law_972 dL_law_973 ?_
  refine yl_rd (pc := 974) 3 M hX hk (by decide) dL_law_974 dL_law_975 dL_law_976 dL_law_977 dL_law_978 ?_
  refine yl_vcall (pc := 979) (As := [.int (xs (k + 1)), .int (xs (k + 2)), .int (xs (k + 3))]) M K hAd (kX4_size l D cy ad n (xs (k + 1)) (xs (k + 2)) (xs (k + 3)) S r e1) (cwV 3 M.1.2.2.2.2 gL_law_X4_size rfl rfl rfl (by decide +kernel) ⟨(Nat.le_of_ble_eq_true rfl), (Nat.le_of_ble_eq_true rfl)⟩) o_obj rfl rfl rfl (Nat.le_of_ble_eq_true rfl) rc48 rs48 dL_law_979 ?_
  refine y_aload_n (pc := 982) M dL_law_982 rfl 3 rfl ?_
  refine yl_rd (pc := 983) 1 M hX hk (by decide) dL_law_983 dL_law_984 dL_law_985 dL_law_986 dL_law_987 ?_
  refine yl_rd (pc := 988) 2 M hX hk (by decide) dL_law_988 dL_law_989 dL_law_990 dL_law_991 dL_law_992 ?_
  refine yl_rd (pc := 993) 3 M hX hk (by decide) dL_law_993 dL_law_994 dL_law_995 dL_law_996 dL_law_997 ?_
  refine yl_vcall (pc := 998) (As := [.int (xs (k + 1)), .int (xs (k + 2)), .int (xs (k + 3))]) M K hAd (kX5_size l D cy ad n (xs (k + 1)) (xs (k + 2)) (xs (k + 3)) S r e2) (cwV 3 M.1.2.2.2.2 gL_law_X5_size rfl rfl rfl (by decide +kernel) ⟨(Nat.le_of_ble_eq_true rfl), (Nat.le_of_ble_eq_true rfl)⟩) o_mod rfl rfl rfl (Nat.le_of_ble_eq_true rfl) rc48 rs48 dL_law_998 ?_
  refine y_lcmp (pc := 1001) M dL_law_1001 ?_
  refine y_if_eq (X := some ()) (Y := some ()) (res := ()) (pc := 1002) 1327 M dL_law_1002 rfl (ite_self _) (fun _ _ => kk S hR) (fun z _ => absurd (lg_self r) z)
theorem case_mean {p : Program} {l : Launch} {e : Env} {s : State} {m : MethodId} {args : Array Value} {below : List Frame} {meth : Method} {c : Code} {Q : State → Prop} {D : va_G} {cy ad : Nat → Nat} {n k b L : Nat} {xs : Nat → Int32} {S : St} (M : MX p m c cL_law 4 s args wsL_law RL meth ret) (K : KK D cy ad s) (hAd : ∀ r, r < 48 → s.heap.size ≤ ad r) (hX : XX s b L xs) (hk : k + 6 ≤ L) (hR : Rel n S) (kk : ∀ S', Rel n S' → Zk 48 1743 p l e room_1 s m args below meth c 4 Q (Hl D cy ad n s S') 1327 (lvL ad b k) []) : Zk 48 1743 p l e room_1 s m args below meth c 4 Q (Hl D cy ad n s S) 1007 (lvL ad b k) [] := by
  unfold lvL at kk ⊢
  obtain ⟨r, e1, e2⟩ := t_mean hR (xs (k + 1)) (xs (k + 2))
  refine y_aload_n (pc := 1007) M dL_law_1007 rfl 2 rfl ?_
  refine yl_rd (pc := 1008) 1 M hX hk (by decide) dL_law_1008 dL_law_1009 dL_law_1010 dL_law_1011 dL_law_1012 ?_
  refine yl_rd (pc := 1013) 2 M hX hk (by decide) dL_law_1013 dL_law_1014 dL_law_1015 dL_law_1016 dL_law_1017 ?_
  refine yl_vcall (pc := 1018) (As := [.int (xs (k + 1)), .int (xs (k + 2))]) M K hAd (kX4_mean l D cy ad n (xs (k + 1)) (xs (k + 2)) S r e1) (cwV 2 M.1.2.2.2.2 gL_law_X4_mean rfl rfl rfl (by decide +kernel) ⟨(Nat.le_of_ble_eq_true rfl), (Nat.le_of_ble_eq_true rfl)⟩) o_obj rfl rfl rfl (Nat.le_of_ble_eq_true rfl) rc48 rs48 dL_law_1018 ?_
  refine y_aload_n (pc := 1021) M dL_law_1021 rfl 3 rfl ?_
  refine yl_rd (pc := 1022) 1 M hX hk (by decide) dL_law_1022 dL_law_1023 dL_law_1024 dL_law_1025 dL_law_1026 ?_
  refine yl_rd (pc := 1027) 2 M hX hk (by decide) dL_law_1027 dL_law_1028 dL_law_1029 dL_law_1030 dL_law_1031 ?_
  refine yl_vcall (pc := 1032) (As := [.int (xs (k + 1)), .int (xs (k + 2))]) M K hAd (kX5_mean l D cy ad n (xs (k + 1)) (xs (k + 2)) S r e2) (cwV 2 M.1.2.2.2.2 gL_law_X5_mean rfl rfl rfl (by decide +kernel) ⟨(Nat.le_of_ble_eq_true rfl), (Nat.le_of_ble_eq_true rfl)⟩) o_mod rfl rfl rfl (Nat.le_of_ble_eq_true rfl) rc48 rs48 dL_law_1032 ?_
  refine y_lcmp (pc := 1035) M dL_law_1035 ?_
  refine y_if_eq (X := some ()) (Y := some ()) (res := ()) (pc := 1036) 1327 M dL_law_1036 rfl (ite_self _) (fun _ _ => kk S hR) (fun z _ => absurd (lg_self r) z)
theorem case_spread {p : Program} {l : Launch} {e : Env} {s : State} {m : MethodId} {args : Array Value} {below : List Frame} {meth : Method} {c : Code} {Q : State → Prop} {D : va_G} {cy ad : Nat → Nat} {n k b L : Nat} {xs : Nat → Int32} {S : St} (M : MX p m c cL_law 4 s args wsL_law RL meth ret) (K : KK D cy ad s) (hAd : ∀ r, r < 48 → s.heap.size ≤ ad r) (hX : XX s b L xs) (hk : k + 6 ≤ L) (hR : Rel n S) (kk : ∀ S', Rel n S' → Zk 48 1743 p l e room_1 s m args below meth c 4 Q (Hl D cy ad n s S') 1327 (lvL ad b k) []) : Zk 48 1743 p l e room_1 s m args below meth c 4 Q (Hl D cy ad n s S) 1041 (lvL ad b k) [] := by
  unfold lvL at kk ⊢
  obtain ⟨r, e1, e2⟩ := t_spread hR (xs (k + 1)) (xs (k + 2))
  refine y_aload_n (pc := 1041) M dL_law_1041 rfl 2 rfl ?_
  refine yl_rd (pc := 1042) 1 M hX hk (by decide) dL_law_1042 dL_law_1043 dL_law_1044 dL_law_1045 dL_law_1046 ?_
  refine yl_rd (pc := 1047) 2 M hX hk (by decide) dL_law_1047 dL_law_1048 dL_law_1049 dL_law_1050 dL_law_1051 ?_
  refine yl_vcall (pc := 1052) (As := [.int (xs (k + 1)), .int (xs (k + 2))]) M K hAd (kX4_spread l D cy ad n (xs (k + 1)) (xs (k + 2)) S r e1) (cwV 2 M.1.2.2.2.2 gL_law_X4_spread rfl rfl rfl (by decide +kernel) ⟨(Nat.le_of_ble_eq_true rfl), (Nat.le_of_ble_eq_true rfl)⟩) o_obj rfl rfl rfl (Nat.le_of_ble_eq_true rfl) rc48 rs48 dL_law_1052 ?_
  refine y_aload_n (pc := 1055) M dL_law_1055 rfl 3 rfl ?_
  refine yl_rd (pc := 1056) 1 M hX hk (by decide) dL_law_1056 dL_law_1057 dL_law_1058 dL_law_1059 dL_law_1060 ?_
  refine yl_rd (pc := 1061) 2 M hX hk (by decide) dL_law_1061 dL_law_1062 dL_law_1063 dL_law_1064 dL_law_1065 ?_
  refine yl_vcall (pc := 1066) (As := [.int (xs (k + 1)), .int (xs (k + 2))]) M K hAd (kX5_spread l D cy ad n (xs (k + 1)) (xs (k + 2)) S r e2) (cwV 2 M.1.2.2.2.2 gL_law_X5_spread rfl rfl rfl (by decide +kernel) ⟨(Nat.le_of_ble_eq_true rfl), (Nat.le_of_ble_eq_true rfl)⟩) o_mod rfl rfl rfl (Nat.le_of_ble_eq_true rfl) rc48 rs48 dL_law_1066 ?_
  refine y_lcmp (pc := 1069) M dL_law_1069 ?_
  refine y_if_eq (X := some ()) (Y := some ()) (res := ()) (pc := 1070) 1327 M dL_law_1070 rfl (ite_self _) (fun _ _ => kk S hR) (fun z _ => absurd (lg_self r) z)
theorem case_both {p : Program} {l : Launch} {e : Env} {s : State} {m : MethodId} {args : Array Value} {below : List Frame} {meth : Method} {c : Code} {Q : State → Prop} {D : va_G} {cy ad : Nat → Nat} {n k b L : Nat} {xs : Nat → Int32} {S : St} (M : MX p m c cL_law 4 s args wsL_law RL meth ret) (K : KK D cy ad s) (hAd : ∀ r, r < 48 → s.heap.size ≤ ad r) (hX : XX s b L xs) (hk : k + 6 ≤ L) (hR : Rel n S) (kk : ∀ S', Rel n S' → Zk 48 1743 p l e room_1 s m args below meth c 4 Q (Hl D cy ad n s S') 1327 (lvL ad b k) []) : Zk 48 1743 p l e room_1 s m args below meth c 4 Q (Hl D cy ad n s S) 1075 (lvL ad b k) [] := by
  unfold lvL at kk ⊢
  obtain ⟨r, e1, e2⟩ := t_both hR (xs (k + 1)) (xs (k + 2)) (xs (k + 3)) (xs (k + 4))
  refine y_aload_n (pc := 1075) M dL_law_1075 rfl 2 rfl ?_
  refine yl_rd (pc := 1076) 1 M hX hk (by decide) dL_law_1076 dL_law_1077 dL_law_1078 dL_law_1079 dL_law_1080 ?_
  refine yl_rd (pc := 1081) 2 M hX hk (by decide) dL_law_1081 dL_law_1082 dL_law_1083 dL_law_1084 dL_law_1085 ?_
  refine yl_rd (pc := 1086) 3 M hX hk (by decide) dL_law_1086 dL_law_1087 dL_law_1088 dL_law_1089 dL_law_1090 ?_
  refine yl_rd (pc := 1091) 4 M hX hk (by decide) dL_law_1091 dL_law_1092 dL_law_1093 dL_law_1094 dL_law_1095 ?_
  refine yl_vcall (pc := 1096) (As := [.int (xs (k + 1)), .int (xs (k + 2)), .int (xs (k + 3)), .int (xs (k + 4))]) M K hAd (kX4_both l D cy ad n (xs (k + 1)) (xs (k + 2)) (xs (k + 3)) (xs (k + 4)) S r e1) (cwV 4 M.1.2.2.2.2 gL_law_X4_both rfl rfl rfl (by decide +kernel) ⟨(Nat.le_of_ble_eq_true rfl), (Nat.le_of_ble_eq_true rfl)⟩) o_obj rfl rfl rfl (Nat.le_of_ble_eq_true rfl) rc48 rs48 dL_law_1096 ?_
  refine y_aload_n (pc := 1099) M dL_law_1099 rfl 3 rfl ?_
  refine yl_rd (pc := 1100) 1 M hX hk (by decide) dL_law_1100 dL_law_1101 dL_law_1102 dL_law_1103 dL_law_1104 ?_
  refine yl_rd (pc := 1105) 2 M hX hk (by decide) dL_law_1105 dL_law_1106 dL_law_1107 dL_law_1108 dL_law_1109 ?_
  refine yl_rd (pc := 1110) 3 M hX hk (by decide) dL_law_1110 dL_law_1111 dL_law_1112 dL_law_1113 dL_law_1114 ?_
  refine yl_rd (pc := 1115) 4 M hX hk (by decide) dL_law_1115 dL_law_1116 dL_law_1117 dL_law_1118 dL_law_1119 ?_
  refine yl_vcall (pc := 1120) (As := [.int (xs (k + 1)), .int (xs (k + 2)), .int (xs (k + 3)), .int (xs (k + 4))]) M K hAd (kX5_both l D cy ad n (xs (k + 1)) (xs (k + 2)) (xs (k + 3)) (xs (k + 4)) S r e2) (cwV 4 M.1.2.2.2.2 gL_law_X5_both rfl rfl rfl (by decide +kernel) ⟨(Nat.le_of_ble_eq_true rfl), (Nat.le_of_ble_eq_true rfl)⟩) o_mod rfl rfl rfl (Nat.le_of_ble_eq_true rfl) rc48 rs48 dL_law_1120 ?_
  refine y_lcmp (pc := 1123) M dL_law_1123 ?_
  refine y_if_eq (X := some ()) (Y := some ()) (res := ()) (pc := 1124) 1327 M dL_law_1124 rfl (ite_self _) (fun _ _ => kk S hR) (fun z _ => absurd (lg_self r) z)
theorem case_shuns {p : Program} {l : Launch} {e : Env} {s : State} {m : MethodId} {args : Array Value} {below : List Frame} {meth : Method} {c : Code} {Q : State → Prop} {D : va_G} {cy ad : Nat → Nat} {n k b L : Nat} {xs : Nat → Int32} {S : St} (M : MX p m c cL_law 4 s args wsL_law RL meth ret) (K : KK D cy ad s) (hAd : ∀ r, r < 48 → s.heap.size ≤ ad r) (hX : XX s b L xs) (hk : k + 6 ≤ L) (hR : Rel n S) (kk : ∀ S', Rel n S' → Zk 48 1743 p l e room_1 s m args below meth c 4 Q (Hl D cy ad n s S') 1327 (lvL ad b k) []) : Zk 48 1743 p l e room_1 s m args below meth c 4 Q (Hl D cy ad n s S) 1129 (lvL ad b k) [] := by
  unfold lvL at kk ⊢
  obtain ⟨r, e1, e2⟩ := t_shuns hR (xs (k + 1))
  refine y_aload_n (pc := 1129) M dL_law_1129 rfl 2 rfl ?_
  refine yl_rd (pc := 1130) 1 M hX hk (by decide) dL_law_1130 dL_law_1131 dL_law_1132 dL_law_1133 dL_law_1134 ?_
  refine yl_vcall (pc := 1135) (As := [.int (xs (k + 1))]) M K hAd (kX4_shuns l D cy ad n (xs (k + 1)) S r e1) (cwV 1 M.1.2.2.2.2 gL_law_X4_shuns rfl rfl rfl (by decide +kernel) ⟨(Nat.le_of_ble_eq_true rfl), (Nat.le_of_ble_eq_true rfl)⟩) o_obj rfl rfl rfl (Nat.le_of_ble_eq_true rfl) rc48 rs48 dL_law_1135 ?_
  refine y_aload_n (pc := 1138) M dL_law_1138 rfl 3 rfl ?_
  refine yl_rd (pc := 1139) 1 M hX hk (by decide) dL_law_1139 dL_law_1140 dL_law_1141 dL_law_1142 dL_law_1143 ?_
  refine yl_vcall (pc := 1144) (As := [.int (xs (k + 1))]) M K hAd (kX5_shuns l D cy ad n (xs (k + 1)) S r e2) (cwV 1 M.1.2.2.2.2 gL_law_X5_shuns rfl rfl rfl (by decide +kernel) ⟨(Nat.le_of_ble_eq_true rfl), (Nat.le_of_ble_eq_true rfl)⟩) o_mod rfl rfl rfl (Nat.le_of_ble_eq_true rfl) rc48 rs48 dL_law_1144 ?_
  refine y_icmp_eq (X := some ()) (Y := some ()) (res := ()) (pc := 1147) 1327 M dL_law_1147 rfl (ite_self _) (fun _ _ => kk S hR) (fun z _ => absurd rfl z)
theorem case_rises {p : Program} {l : Launch} {e : Env} {s : State} {m : MethodId} {args : Array Value} {below : List Frame} {meth : Method} {c : Code} {Q : State → Prop} {D : va_G} {cy ad : Nat → Nat} {n k b L : Nat} {xs : Nat → Int32} {S : St} (M : MX p m c cL_law 4 s args wsL_law RL meth ret) (K : KK D cy ad s) (hAd : ∀ r, r < 48 → s.heap.size ≤ ad r) (hX : XX s b L xs) (hk : k + 6 ≤ L) (hR : Rel n S) (kk : ∀ S', Rel n S' → Zk 48 1743 p l e room_1 s m args below meth c 4 Q (Hl D cy ad n s S') 1327 (lvL ad b k) []) : Zk 48 1743 p l e room_1 s m args below meth c 4 Q (Hl D cy ad n s S) 1152 (lvL ad b k) [] := by
  unfold lvL at kk ⊢
  obtain ⟨r, e1, e2⟩ := t_rises hR (xs (k + 1))
  refine y_aload_n (pc := 1152) M dL_law_1152 rfl 2 rfl ?_
  refine yl_rd (pc := 1153) 1 M hX hk (by decide) dL_law_1153 dL_law_1154 dL_law_1155 dL_law_1156 dL_law_1157 ?_
  refine yl_vcall (pc := 1158) (As := [.int (xs (k + 1))]) M K hAd (kX4_rises l D cy ad n (xs (k + 1)) S r e1) (cwV 1 M.1.2.2.2.2 gL_law_X4_rises rfl rfl rfl (by decide +kernel) ⟨(Nat.le_of_ble_eq_true rfl), (Nat.le_of_ble_eq_true rfl)⟩) o_obj rfl rfl rfl (Nat.le_of_ble_eq_true rfl) rc48 rs48 dL_law_1158 ?_
  refine y_aload_n (pc := 1161) M dL_law_1161 rfl 3 rfl ?_
  refine yl_rd (pc := 1162) 1 M hX hk (by decide) dL_law_1162 dL_law_1163 dL_law_1164 dL_law_1165 dL_law_1166 ?_
  refine yl_vcall (pc := 1167) (As := [.int (xs (k + 1))]) M K hAd (kX5_rises l D cy ad n (xs (k + 1)) S r e2) (cwV 1 M.1.2.2.2.2 gL_law_X5_rises rfl rfl rfl (by decide +kernel) ⟨(Nat.le_of_ble_eq_true rfl), (Nat.le_of_ble_eq_true rfl)⟩) o_mod rfl rfl rfl (Nat.le_of_ble_eq_true rfl) rc48 rs48 dL_law_1167 ?_
  refine y_icmp_eq (X := some ()) (Y := some ()) (res := ()) (pc := 1170) 1327 M dL_law_1170 rfl (ite_self _) (fun _ _ => kk S hR) (fun z _ => absurd rfl z)
theorem case_greatest {p : Program} {l : Launch} {e : Env} {s : State} {m : MethodId} {args : Array Value} {below : List Frame} {meth : Method} {c : Code} {Q : State → Prop} {D : va_G} {cy ad : Nat → Nat} {n k b L : Nat} {xs : Nat → Int32} {S : St} (M : MX p m c cL_law 4 s args wsL_law RL meth ret) (K : KK D cy ad s) (hAd : ∀ r, r < 48 → s.heap.size ≤ ad r) (hX : XX s b L xs) (hk : k + 6 ≤ L) (hR : Rel n S) (kk : ∀ S', Rel n S' → Zk 48 1743 p l e room_1 s m args below meth c 4 Q (Hl D cy ad n s S') 1327 (lvL ad b k) []) : Zk 48 1743 p l e room_1 s m args below meth c 4 Q (Hl D cy ad n s S) 1175 (lvL ad b k) [] := by
  unfold lvL at kk ⊢
  obtain ⟨r, e1, e2⟩ := t_greatest hR (xs (k + 1))
  refine y_aload_n (pc := 1175) M dL_law_1175 rfl 2 rfl ?_
  refine yl_rd (pc := 1176) 1 M hX hk (by decide) dL_law_1176 dL_law_1177 dL_law_1178 dL_law_1179 dL_law_1180 ?_
  refine yl_vcall (pc := 1181) (As := [.int (xs (k + 1))]) M K hAd (kX4_greatest l D cy ad n (xs (k + 1)) S r e1) (cwV 1 M.1.2.2.2.2 gL_law_X4_greatest rfl rfl rfl (by decide +kernel) ⟨(Nat.le_of_ble_eq_true rfl), (Nat.le_of_ble_eq_true rfl)⟩) o_obj rfl rfl rfl (Nat.le_of_ble_eq_true rfl) rc48 rs48 dL_law_1181 ?_
  refine y_aload_n (pc := 1184) M dL_law_1184 rfl 3 rfl ?_
  refine yl_rd (pc := 1185) 1 M hX hk (by decide) dL_law_1185 dL_law_1186 dL_law_1187 dL_law_1188 dL_law_1189 ?_
  refine yl_vcall (pc := 1190) (As := [.int (xs (k + 1))]) M K hAd (kX5_greatest l D cy ad n (xs (k + 1)) S r e2) (cwV 1 M.1.2.2.2.2 gL_law_X5_greatest rfl rfl rfl (by decide +kernel) ⟨(Nat.le_of_ble_eq_true rfl), (Nat.le_of_ble_eq_true rfl)⟩) o_mod rfl rfl rfl (Nat.le_of_ble_eq_true rfl) rc48 rs48 dL_law_1190 ?_
  refine y_icmp_eq (X := some ()) (Y := some ()) (res := ()) (pc := 1193) 1327 M dL_law_1193 rfl (ite_self _) (fun _ _ => kk S hR) (fun z _ => absurd rfl z)
theorem case_greedy {p : Program} {l : Launch} {e : Env} {s : State} {m : MethodId} {args : Array Value} {below : List Frame} {meth : Method} {c : Code} {Q : State → Prop} {D : va_G} {cy ad : Nat → Nat} {n k b L : Nat} {xs : Nat → Int32} {S : St} (M : MX p m c cL_law 4 s args wsL_law RL meth ret) (K : KK D cy ad s) (hAd : ∀ r, r < 48 → s.heap.size ≤ ad r) (hX : XX s b L xs) (hk : k + 6 ≤ L) (hR : Rel n S) (kk : ∀ S', Rel n S' → Zk 48 1743 p l e room_1 s m args below meth c 4 Q (Hl D cy ad n s S') 1327 (lvL ad b k) []) : Zk 48 1743 p l e room_1 s m args below meth c 4 Q (Hl D cy ad n s S) 1198 (lvL ad b k) [] := by
  unfold lvL at kk ⊢
  obtain ⟨r, e1, e2⟩ := t_greedy hR (xs (k + 1)) (xs (k + 2))
  refine y_aload_n (pc := 1198) M dL_law_1198 rfl 2 rfl ?_
  refine yl_rd (pc := 1199) 1 M hX hk (by decide) dL_law_1199 dL_law_1200 dL_law_1201 dL_law_1202 dL_law_1203 ?_
  refine yl_rd (pc := 1204) 2 M hX hk (by decide) dL_law_1204 dL_law_1205 dL_law_1206 dL_law_1207 dL_law_1208 ?_
  refine yl_vcall (pc := 1209) (As := [.int (xs (k + 1)), .int (xs (k + 2))]) M K hAd (kX4_greedy l D cy ad n (xs (k + 1)) (xs (k + 2)) S r e1) (cwV 2 M.1.2.2.2.2 gL_law_X4_greedy rfl rfl rfl (by decide +kernel) ⟨(Nat.le_of_ble_eq_true rfl), (Nat.le_of_ble_eq_true rfl)⟩) o_obj rfl rfl rfl (Nat.le_of_ble_eq_true rfl) rc48 rs48 dL_law_1209 ?_
  refine y_aload_n (pc := 1212) M dL_law_1212 rfl 3 rfl ?_
  refine yl_rd (pc := 1213) 1 M hX hk (by decide) dL_law_1213 dL_law_1214 dL_law_1215 dL_law_1216 dL_law_1217 ?_
  refine yl_rd (pc := 1218) 2 M hX hk (by decide) dL_law_1218 dL_law_1219 dL_law_1220 dL_law_1221 dL_law_1222 ?_
  refine yl_vcall (pc := 1223) (As := [.int (xs (k + 1)), .int (xs (k + 2))]) M K hAd (kX5_greedy l D cy ad n (xs (k + 1)) (xs (k + 2)) S r e2) (cwV 2 M.1.2.2.2.2 gL_law_X5_greedy rfl rfl rfl (by decide +kernel) ⟨(Nat.le_of_ble_eq_true rfl), (Nat.le_of_ble_eq_true rfl)⟩) o_mod rfl rfl rfl (Nat.le_of_ble_eq_true rfl) rc48 rs48 dL_law_1223 ?_
  refine y_icmp_eq (X := some ()) (Y := some ()) (res := ()) (pc := 1226) 1327 M dL_law_1226 rfl (ite_self _) (fun _ _ => kk S hR) (fun z _ => absurd rfl z)
theorem case_same {p : Program} {l : Launch} {e : Env} {s : State} {m : MethodId} {args : Array Value} {below : List Frame} {meth : Method} {c : Code} {Q : State → Prop} {D : va_G} {cy ad : Nat → Nat} {n k b L : Nat} {xs : Nat → Int32} {S : St} (M : MX p m c cL_law 4 s args wsL_law RL meth ret) (K : KK D cy ad s) (hAd : ∀ r, r < 48 → s.heap.size ≤ ad r) (hX : XX s b L xs) (hk : k + 6 ≤ L) (hR : Rel n S) (kk : ∀ S', Rel n S' → Zk 48 1743 p l e room_1 s m args below meth c 4 Q (Hl D cy ad n s S') 1327 (lvL ad b k) []) : Zk 48 1743 p l e room_1 s m args below meth c 4 Q (Hl D cy ad n s S) 1231 (lvL ad b k) [] := by
  unfold lvL at kk ⊢
  obtain ⟨r, e1, e2⟩ := t_same hR (xs (k + 1)) (xs (k + 2))
  refine y_aload_n (pc := 1231) M dL_law_1231 rfl 2 rfl ?_
  refine yl_rd (pc := 1232) 1 M hX hk (by decide) dL_law_1232 dL_law_1233 dL_law_1234 dL_law_1235 dL_law_1236 ?_
  refine yl_rd (pc := 1237) 2 M hX hk (by decide) dL_law_1237 dL_law_1238 dL_law_1239 dL_law_1240 dL_law_1241 ?_
  refine yl_vcall (pc := 1242) (As := [.int (xs (k + 1)), .int (xs (k + 2))]) M K hAd (kX4_same l D cy ad n (xs (k + 1)) (xs (k + 2)) S r e1) (cwV 2 M.1.2.2.2.2 gL_law_X4_same rfl rfl rfl (by decide +kernel) ⟨(Nat.le_of_ble_eq_true rfl), (Nat.le_of_ble_eq_true rfl)⟩) o_obj rfl rfl rfl (Nat.le_of_ble_eq_true rfl) rc48 rs48 dL_law_1242 ?_
  refine y_aload_n (pc := 1245) M dL_law_1245 rfl 3 rfl ?_
  refine yl_rd (pc := 1246) 1 M hX hk (by decide) dL_law_1246 dL_law_1247 dL_law_1248 dL_law_1249 dL_law_1250 ?_
  refine yl_rd (pc := 1251) 2 M hX hk (by decide) dL_law_1251 dL_law_1252 dL_law_1253 dL_law_1254 dL_law_1255 ?_
  refine yl_vcall (pc := 1256) (As := [.int (xs (k + 1)), .int (xs (k + 2))]) M K hAd (kX5_same l D cy ad n (xs (k + 1)) (xs (k + 2)) S r e2) (cwV 2 M.1.2.2.2.2 gL_law_X5_same rfl rfl rfl (by decide +kernel) ⟨(Nat.le_of_ble_eq_true rfl), (Nat.le_of_ble_eq_true rfl)⟩) o_mod rfl rfl rfl (Nat.le_of_ble_eq_true rfl) rc48 rs48 dL_law_1256 ?_
  refine y_icmp_eq (X := some ()) (Y := some ()) (res := ()) (pc := 1259) 1327 M dL_law_1259 rfl (ite_self _) (fun _ _ => kk S hR) (fun z _ => absurd rfl z)
theorem case_draw {p : Program} {l : Launch} {e : Env} {s : State} {m : MethodId} {args : Array Value} {below : List Frame} {meth : Method} {c : Code} {Q : State → Prop} {D : va_G} {cy ad : Nat → Nat} {n k b L : Nat} {xs : Nat → Int32} {S : St} (M : MX p m c cL_law 4 s args wsL_law RL meth ret) (K : KK D cy ad s) (hAd : ∀ r, r < 48 → s.heap.size ≤ ad r) (hX : XX s b L xs) (hk : k + 6 ≤ L) (hR : Rel n S) (kk : ∀ S', Rel n S' → Zk 48 1743 p l e room_1 s m args below meth c 4 Q (Hl D cy ad n s S') 1327 (lvL ad b k) []) : Zk 48 1743 p l e room_1 s m args below meth c 4 Q (Hl D cy ad n s S) 1264 (lvL ad b k) [] := by
  unfold lvL at kk ⊢
  refine y_aload_n (pc := 1264) M dL_law_1264 rfl 2 rfl ?_
  refine yl_rd (pc := 1265) 1 M hX hk (by decide) dL_law_1265 dL_law_1266 dL_law_1267 dL_law_1268 dL_law_1269 ?_
  refine yl_rd (pc := 1270) 2 M hX hk (by decide) dL_law_1270 dL_law_1271 dL_law_1272 dL_law_1273 dL_law_1274 ?_
  refine y_i2l (pc := 1275) M dL_law_1275 ?_
  refine y_bipush (v := 32) (pc := 1276) M dL_law_1276 (by decide) ?_
  refine y_lshl (pc := 1278) M dL_law_1278 ?_
  refine yl_rd (pc := 1279) 3 M hX hk (by decide) dL_law_1279 dL_law_1280 dL_law_1281 dL_law_1282 dL_law_1283 ?_
  refine y_i2l (pc := 1284) M dL_law_1284 ?_
  refine y_ldc2 (v := 4294967295) (pc := 1285) M (by decide +kernel) dL_law_1285 ?_
  refine y_land (pc := 1288) M dL_law_1288 ?_
  refine y_lor (pc := 1289) M dL_law_1289 ?_
  generalize hw : ((Int32.toInt64 (xs (k + 2)) <<< (Int32.toInt64 32 &&& 63)) ||| (Int32.toInt64 (xs (k + 3)) &&& 4294967295)) = w
  obtain ⟨r, e1, e2⟩ := t_draw hR (xs (k + 1)) w
  refine yl_vcall (pc := 1290) (As := [.int (xs (k + 1)), .long (w)]) M K hAd (kX4_draw l D cy ad n (xs (k + 1)) (w) S r e1) (cwV 2 M.1.2.2.2.2 gL_law_X4_draw rfl rfl rfl (by decide +kernel) ⟨(Nat.le_of_ble_eq_true rfl), (Nat.le_of_ble_eq_true rfl)⟩) o_obj rfl rfl rfl (Nat.le_of_ble_eq_true rfl) rc48 rs48 dL_law_1290 ?_
  refine y_aload_n (pc := 1293) M dL_law_1293 rfl 3 rfl ?_
  refine yl_rd (pc := 1294) 1 M hX hk (by decide) dL_law_1294 dL_law_1295 dL_law_1296 dL_law_1297 dL_law_1298 ?_
  refine yl_rd (pc := 1299) 2 M hX hk (by decide) dL_law_1299 dL_law_1300 dL_law_1301 dL_law_1302 dL_law_1303 ?_
  refine y_i2l (pc := 1304) M dL_law_1304 ?_
  refine y_bipush (v := 32) (pc := 1305) M dL_law_1305 (by decide) ?_
  refine y_lshl (pc := 1307) M dL_law_1307 ?_
  refine yl_rd (pc := 1308) 3 M hX hk (by decide) dL_law_1308 dL_law_1309 dL_law_1310 dL_law_1311 dL_law_1312 ?_
  refine y_i2l (pc := 1313) M dL_law_1313 ?_
  refine y_ldc2 (v := 4294967295) (pc := 1314) M (by decide +kernel) dL_law_1314 ?_
  refine y_land (pc := 1317) M dL_law_1317 ?_
  refine y_lor (pc := 1318) M dL_law_1318 ?_
  rw [hw]
  refine yl_vcall (pc := 1319) (As := [.int (xs (k + 1)), .long (w)]) M K hAd (kX5_draw l D cy ad n (xs (k + 1)) (w) S r e2) (cwV 2 M.1.2.2.2.2 gL_law_X5_draw rfl rfl rfl (by decide +kernel) ⟨(Nat.le_of_ble_eq_true rfl), (Nat.le_of_ble_eq_true rfl)⟩) o_mod rfl rfl rfl (Nat.le_of_ble_eq_true rfl) rc48 rs48 dL_law_1319 ?_
  refine y_icmp_eq (X := some ()) (Y := some ()) (res := ()) (pc := 1322) 1327 M dL_law_1322 rfl (ite_self _) (fun _ _ => kk S hR) (fun z _ => absurd rfl z)
