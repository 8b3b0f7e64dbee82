/-! THE LAW: cases 0 to 4 -/
section LC0
variable {F : xF} {G : xG} {B : Nat} {Y : Nat → Nat} {b L : Nat} {xs : Nat → Int32} {Q : State → Prop} {n o r w z cs ss : Nat} {ad : Nat → Nat} {D : kD} {κ : kS} {σ : mS} {τ : mL} {h : xH}
set_option maxHeartbeats 1000000 in
theorem lawc_0 (E : LW F G B Y b L xs) (hn : 6 * n + 6 ≤ L) (I : LI n o r ad w D κ σ τ h z) (hc : cs ≤ cB κ n) (hs : ss ≤ sB κ n) (nx : NX F G B Q b o r ad w n) : X F G B Q 8 h z cs ss 164 (lvL b o r w n) [] := by
  have C := E.1
  have hL := E.2.2.2.2.2.2
  have h200 := I.st
  have P := I.1
  have hn5 : n < 512 := by omega
  have hne := I.2.2.2.2.2.2
  have k0 := P.1.1.2.1 0 (by decide) (by decide) (by decide)
  obtain ⟨rr, D', κ', σ', τ', c, s, ef, eg, dk, pr, h3, hc3, hs3⟩ := st_BO P (machine_y P.1 P.2.1 P.2.2.1.1 P.2.2.1.2.1 P.2.2.1.2.2)
  obtain ⟨n1, e1⟩ := ef.get
  obtain ⟨n2, e2⟩ := eg.get
  unfold cB at hc
  unfold sB at hs
  obtain ⟨hMo, hv, hk⟩ := LI_cl I dk κ' (z + c)
  have hw : ∃ f, rn D' κ' w = some (.inl (1, 1, .inr (.inl f))) := by rw [hv w (Or.inr (Or.inr rfl))]; exact I.2.2.2.2.1
  have o' : D'.1 0 0 = D.1 0 0 := (dk.1 0 0 k0).1
  have st200 := pr.2.2.2.1.2.2.1.2
  have eo := I.2.2.1
  have eh := I.2.1
  subst eo eh
  refine X_aload_n C dL_law_164 rfl ?_
  have qc : cs + c ≤ 601024 := by omega
  have qs : ss + s ≤ 7293034 := by omega
  refine X_callVa (As := []) (rest := []) C (Ti_machine_c e1) wLa_29 ⟨by decide, by decide⟩ ⟨qc, qs⟩ (rn_at k0) oTi.2.1 rfl rfl (Nat.le_of_ble_eq_true rfl) dL_law_165 ?_
  refine X_aload_n C dL_law_168 rfl ?_
  refine X_callV (As := []) (rest := [.int rr]) (P := mP (r, ad, rn D' κ', (z + c)) (some (.int rr)) σ' τ') C (Mo_machine_c (M := (r, ad, rn D' κ', (z + c))) e2 (rn D' κ') hMo) wLa_33 ⟨by decide, by decide⟩ ⟨qc, qs⟩ hMo.1 oMo.2.1 rfl rfl (Nat.le_of_ble_eq_true rfl) dL_law_169 (fun v2 h2 z2 q2 => ?_)
  obtain ⟨rfl, hM2, rfl⟩ := q2
  refine X_icmp_eq C (tgt := 1375) dL_law_172 (by decide) (fun _ => ?_) (fun t => absurd rfl t)
  exact nx _ κ' σ' τ' h2 _ (cs + c + 0) (ss + s + 0) (LI_fin pr o' hM2 (by rw [LI_w hM2 hne]; exact hw) hk hne (fun _ _ => rfl)) (by unfold cB; omega) (by unfold sB; omega)
set_option maxHeartbeats 1000000 in
theorem lawc_1 (E : LW F G B Y b L xs) (hn : 6 * n + 6 ≤ L) (I : LI n o r ad w D κ σ τ h z) (hc : cs ≤ cB κ n) (hs : ss ≤ sB κ n) (nx : NX F G B Q b o r ad w n) : X F G B Q 8 h z cs ss 177 (lvL b o r w n) [] := by
  have C := E.1
  have hL := E.2.2.2.2.2.2
  have h200 := I.st
  have P := I.1
  have hn5 : n < 512 := by omega
  have hne := I.2.2.2.2.2.2
  have k0 := P.1.1.2.1 0 (by decide) (by decide) (by decide)
  obtain ⟨rr, D', κ', σ', τ', c, s, ef, eg, dk, pr, h3, hc3, hs3⟩ := st_BO P (place_y P.1 P.2.1 P.2.2.1.1 P.2.2.1.2.1 (xs (6 * n + 1)))
  obtain ⟨n1, e1⟩ := ef.get
  obtain ⟨n2, e2⟩ := eg.get
  unfold cB at hc
  unfold sB at hs
  obtain ⟨hMo, hv, hk⟩ := LI_cl I dk κ' (z + c)
  have hw : ∃ f, rn D' κ' w = some (.inl (1, 1, .inr (.inl f))) := by rw [hv w (Or.inr (Or.inr rfl))]; exact I.2.2.2.2.1
  have o' : D'.1 0 0 = D.1 0 0 := (dk.1 0 0 k0).1
  have st200 := pr.2.2.2.1.2.2.1.2
  have eo := I.2.2.1
  have eh := I.2.1
  subst eo eh
  refine X_aload_n C dL_law_177 rfl ?_
  refine L_arg E (i := 6 * n) (j := 1) rfl rfl (by decide) (by omega) dL_law_178 dL_law_179 dL_law_181 dL_law_182 dL_law_183 ?_
  have qc : cs + c ≤ 601024 := by omega
  have qs : ss + s ≤ 7293034 := by omega
  refine X_callVa (As := [.int (xs (6 * n + 1))]) (rest := []) C (Ti_place_c e1) wLa_34 ⟨by decide, by decide⟩ ⟨qc, qs⟩ (rn_at k0) oTi.2.1 rfl rfl (Nat.le_of_ble_eq_true rfl) dL_law_184 ?_
  refine X_aload_n C dL_law_187 rfl ?_
  refine L_arg E (i := 6 * n) (j := 1) rfl rfl (by decide) (by omega) dL_law_188 dL_law_189 dL_law_191 dL_law_192 dL_law_193 ?_
  refine X_callV (As := [.int (xs (6 * n + 1))]) (rest := [.int rr]) (P := mP (r, ad, rn D' κ', (z + c)) (some (.int rr)) σ' τ') C (Mo_place_c (M := (r, ad, rn D' κ', (z + c))) e2 (rn D' κ') hMo) wLa_38 ⟨by decide, by decide⟩ ⟨qc, qs⟩ hMo.1 oMo.2.1 rfl rfl (Nat.le_of_ble_eq_true rfl) dL_law_194 (fun v2 h2 z2 q2 => ?_)
  obtain ⟨rfl, hM2, rfl⟩ := q2
  refine X_icmp_eq C (tgt := 1375) dL_law_197 (by decide) (fun _ => ?_) (fun t => absurd rfl t)
  exact nx _ κ' σ' τ' h2 _ (cs + c + 0) (ss + s + 0) (LI_fin pr o' hM2 (by rw [LI_w hM2 hne]; exact hw) hk hne (fun _ _ => rfl)) (by unfold cB; omega) (by unfold sB; omega)
set_option maxHeartbeats 1000000 in
theorem lawc_2 (E : LW F G B Y b L xs) (hn : 6 * n + 6 ≤ L) (I : LI n o r ad w D κ σ τ h z) (hc : cs ≤ cB κ n) (hs : ss ≤ sB κ n) (nx : NX F G B Q b o r ad w n) : X F G B Q 8 h z cs ss 202 (lvL b o r w n) [] := by
  have C := E.1
  have hL := E.2.2.2.2.2.2
  have h200 := I.st
  have P := I.1
  have hn5 : n < 512 := by omega
  have hne := I.2.2.2.2.2.2
  have k0 := P.1.1.2.1 0 (by decide) (by decide) (by decide)
  obtain ⟨rr, D', κ', σ', τ', ef, eg, dk, pr, h3⟩ := st_BN P (limit_y P.1 P.2.1 P.2.2.1.1 P.2.2.1.2.1 (xs (6 * n + 1)) (xs (6 * n + 2)) (xs (6 * n + 3)) (xs (6 * n + 4)) (bo (xs (6 * n + 5))))
  obtain ⟨n1, e1⟩ := ef.get
  obtain ⟨n2, e2⟩ := eg.get
  unfold cB at hc
  unfold sB at hs
  obtain ⟨hMo, hv, hk⟩ := LI_cl I dk κ' z
  have hw : ∃ f, rn D' κ' w = some (.inl (1, 1, .inr (.inl f))) := by rw [hv w (Or.inr (Or.inr rfl))]; exact I.2.2.2.2.1
  have o' : D'.1 0 0 = D.1 0 0 := (dk.1 0 0 k0).1
  have st200 := pr.2.2.2.1.2.2.1.2
  have eo := I.2.2.1
  have eh := I.2.1
  subst eo eh
  refine X_aload_n C dL_law_202 rfl ?_
  refine L_arg E (i := 6 * n) (j := 1) rfl rfl (by decide) (by omega) dL_law_203 dL_law_204 dL_law_206 dL_law_207 dL_law_208 ?_
  refine L_arg E (i := 6 * n) (j := 2) rfl rfl (by decide) (by omega) dL_law_209 dL_law_210 dL_law_212 dL_law_213 dL_law_214 ?_
  refine L_arg E (i := 6 * n) (j := 3) rfl rfl (by decide) (by omega) dL_law_215 dL_law_216 dL_law_218 dL_law_219 dL_law_220 ?_
  refine L_arg E (i := 6 * n) (j := 4) rfl rfl (by decide) (by omega) dL_law_221 dL_law_222 dL_law_224 dL_law_225 dL_law_226 ?_
  refine L_arg E (i := 6 * n) (j := 5) rfl rfl (by decide) (by omega) dL_law_227 dL_law_228 dL_law_230 dL_law_231 dL_law_232 ?_
  refine L_bool E dL_law_233 dL_law_236 dL_law_237 dL_law_240 ?_
  refine X_callVa (As := [.int (xs (6 * n + 1)), .int (xs (6 * n + 2)), .int (xs (6 * n + 3)), .int (xs (6 * n + 4)), .int (bo (xs (6 * n + 5)))]) (rest := []) C (Ti_limit_c e1) wLa_39 ⟨by decide, by decide⟩ ⟨by omega, by omega⟩ (rn_at k0) oTi.2.1 rfl rfl (Nat.le_of_ble_eq_true rfl) dL_law_241 ?_
  refine X_aload_n C dL_law_244 rfl ?_
  refine L_arg E (i := 6 * n) (j := 1) rfl rfl (by decide) (by omega) dL_law_245 dL_law_246 dL_law_248 dL_law_249 dL_law_250 ?_
  refine L_arg E (i := 6 * n) (j := 2) rfl rfl (by decide) (by omega) dL_law_251 dL_law_252 dL_law_254 dL_law_255 dL_law_256 ?_
  refine L_arg E (i := 6 * n) (j := 3) rfl rfl (by decide) (by omega) dL_law_257 dL_law_258 dL_law_260 dL_law_261 dL_law_262 ?_
  refine L_arg E (i := 6 * n) (j := 4) rfl rfl (by decide) (by omega) dL_law_263 dL_law_264 dL_law_266 dL_law_267 dL_law_268 ?_
  refine L_arg E (i := 6 * n) (j := 5) rfl rfl (by decide) (by omega) dL_law_269 dL_law_270 dL_law_272 dL_law_273 dL_law_274 ?_
  refine L_bool E dL_law_275 dL_law_278 dL_law_279 dL_law_282 ?_
  refine X_callV (As := [.int (xs (6 * n + 1)), .int (xs (6 * n + 2)), .int (xs (6 * n + 3)), .int (xs (6 * n + 4)), .int (bo (xs (6 * n + 5)))]) (rest := [.int rr]) (P := mP (r, ad, rn D' κ', z) (some (.int rr)) σ' τ') C (Mo_limit_c (M := (r, ad, rn D' κ', z)) e2 (rn D' κ') hMo) wLa_43 ⟨by decide, by decide⟩ ⟨by omega, by omega⟩ hMo.1 oMo.2.1 rfl rfl (Nat.le_of_ble_eq_true rfl) dL_law_283 (fun v2 h2 z2 q2 => ?_)
  obtain ⟨rfl, hM2, rfl⟩ := q2
  refine X_icmp_eq C (tgt := 1375) dL_law_286 (by decide) (fun _ => ?_) (fun t => absurd rfl t)
  exact nx _ κ' σ' τ' h2 _ (cs + 0 + 0) (ss + 0 + 0) (LI_fin pr o' hM2 (by rw [LI_w hM2 hne]; exact hw) hk hne (fun _ _ => rfl)) (by unfold cB; omega) (by unfold sB; omega)
set_option maxHeartbeats 1000000 in
theorem lawc_3 (E : LW F G B Y b L xs) (hn : 6 * n + 6 ≤ L) (I : LI n o r ad w D κ σ τ h z) (hc : cs ≤ cB κ n) (hs : ss ≤ sB κ n) (nx : NX F G B Q b o r ad w n) : X F G B Q 8 h z cs ss 291 (lvL b o r w n) [] := by
  have C := E.1
  have hL := E.2.2.2.2.2.2
  have h200 := I.st
  have P := I.1
  have hn5 : n < 512 := by omega
  have hne := I.2.2.2.2.2.2
  have k0 := P.1.1.2.1 0 (by decide) (by decide) (by decide)
  obtain ⟨rr, D', κ', σ', τ', c, s, ef, eg, dk, pr, h3, hc3, hs3⟩ := st_BO P (wayc_y P.1 P.2.1 P.2.2.1.1 P.2.2.1.2.1 (xs (6 * n + 1)) (xs (6 * n + 2)) (xs (6 * n + 3)) (xs (6 * n + 4)) (xs (6 * n + 5)))
  obtain ⟨n1, e1⟩ := ef.get
  obtain ⟨n2, e2⟩ := eg.get
  unfold cB at hc
  unfold sB at hs
  obtain ⟨hMo, hv, hk⟩ := LI_cl I dk κ' (z + c)
  have hw : ∃ f, rn D' κ' w = some (.inl (1, 1, .inr (.inl f))) := by rw [hv w (Or.inr (Or.inr rfl))]; exact I.2.2.2.2.1
  have o' : D'.1 0 0 = D.1 0 0 := (dk.1 0 0 k0).1
  have st200 := pr.2.2.2.1.2.2.1.2
  have eo := I.2.2.1
  have eh := I.2.1
  subst eo eh
  refine X_aload_n C dL_law_291 rfl ?_
  refine L_arg E (i := 6 * n) (j := 1) rfl rfl (by decide) (by omega) dL_law_292 dL_law_293 dL_law_295 dL_law_296 dL_law_297 ?_
  refine L_arg E (i := 6 * n) (j := 2) rfl rfl (by decide) (by omega) dL_law_298 dL_law_299 dL_law_301 dL_law_302 dL_law_303 ?_
  refine L_arg E (i := 6 * n) (j := 3) rfl rfl (by decide) (by omega) dL_law_304 dL_law_305 dL_law_307 dL_law_308 dL_law_309 ?_
  refine L_arg E (i := 6 * n) (j := 4) rfl rfl (by decide) (by omega) dL_law_310 dL_law_311 dL_law_313 dL_law_314 dL_law_315 ?_
  refine L_arg E (i := 6 * n) (j := 5) rfl rfl (by decide) (by omega) dL_law_316 dL_law_317 dL_law_319 dL_law_320 dL_law_321 ?_
  have qc : cs + c ≤ 601024 := by omega
  have qs : ss + s ≤ 7293034 := by omega
  refine X_callVa (As := [.int (xs (6 * n + 1)), .int (xs (6 * n + 2)), .int (xs (6 * n + 3)), .int (xs (6 * n + 4)), .int (xs (6 * n + 5))]) (rest := []) C (Ti_way_c e1) wLa_44 ⟨by decide, by decide⟩ ⟨qc, qs⟩ (rn_at k0) oTi.2.1 rfl rfl (Nat.le_of_ble_eq_true rfl) dL_law_322 ?_
  refine X_aload_n C dL_law_325 rfl ?_
  refine L_arg E (i := 6 * n) (j := 1) rfl rfl (by decide) (by omega) dL_law_326 dL_law_327 dL_law_329 dL_law_330 dL_law_331 ?_
  refine L_arg E (i := 6 * n) (j := 2) rfl rfl (by decide) (by omega) dL_law_332 dL_law_333 dL_law_335 dL_law_336 dL_law_337 ?_
  refine L_arg E (i := 6 * n) (j := 3) rfl rfl (by decide) (by omega) dL_law_338 dL_law_339 dL_law_341 dL_law_342 dL_law_343 ?_
  refine L_arg E (i := 6 * n) (j := 4) rfl rfl (by decide) (by omega) dL_law_344 dL_law_345 dL_law_347 dL_law_348 dL_law_349 ?_
  refine L_arg E (i := 6 * n) (j := 5) rfl rfl (by decide) (by omega) dL_law_350 dL_law_351 dL_law_353 dL_law_354 dL_law_355 ?_
  refine X_callV (As := [.int (xs (6 * n + 1)), .int (xs (6 * n + 2)), .int (xs (6 * n + 3)), .int (xs (6 * n + 4)), .int (xs (6 * n + 5))]) (rest := [.int rr]) (P := mP (r, ad, rn D' κ', (z + c)) (some (.int rr)) σ' τ') C (Mo_way_c (M := (r, ad, rn D' κ', (z + c))) e2 (rn D' κ') hMo) wLa_48 ⟨by decide, by decide⟩ ⟨qc, qs⟩ hMo.1 oMo.2.1 rfl rfl (Nat.le_of_ble_eq_true rfl) dL_law_356 (fun v2 h2 z2 q2 => ?_)
  obtain ⟨rfl, hM2, rfl⟩ := q2
  refine X_icmp_eq C (tgt := 1375) dL_law_359 (by decide) (fun _ => ?_) (fun t => absurd rfl t)
  exact nx _ κ' σ' τ' h2 _ (cs + c + 0) (ss + s + 0) (LI_fin pr o' hM2 (by rw [LI_w hM2 hne]; exact hw) hk hne (fun _ _ => rfl)) (by unfold cB; omega) (by unfold sB; omega)
set_option maxHeartbeats 1000000 in
theorem lawc_4 (E : LW F G B Y b L xs) (hn : 6 * n + 6 ≤ L) (I : LI n o r ad w D κ σ τ h z) (hc : cs ≤ cB κ n) (hs : ss ≤ sB κ n) (nx : NX F G B Q b o r ad w n) : X F G B Q 8 h z cs ss 364 (lvL b o r w n) [] := by
  have C := E.1
  have hL := E.2.2.2.2.2.2
  have h200 := I.st
  have P := I.1
  have hn5 : n < 512 := by omega
  have hne := I.2.2.2.2.2.2
  have k0 := P.1.1.2.1 0 (by decide) (by decide) (by decide)
  obtain ⟨rr, D', κ', σ', τ', ef, eg, dk, pr, h3⟩ := st_BN P (test_y P.1 P.2.1 P.2.2.1.1 P.2.2.1.2.1 (xs (6 * n + 1)) (xs (6 * n + 2)) (xs (6 * n + 3)) (xs (6 * n + 4)) (bo (xs (6 * n + 5))))
  obtain ⟨n1, e1⟩ := ef.get
  obtain ⟨n2, e2⟩ := eg.get
  unfold cB at hc
  unfold sB at hs
  obtain ⟨hMo, hv, hk⟩ := LI_cl I dk κ' z
  have hw : ∃ f, rn D' κ' w = some (.inl (1, 1, .inr (.inl f))) := by rw [hv w (Or.inr (Or.inr rfl))]; exact I.2.2.2.2.1
  have o' : D'.1 0 0 = D.1 0 0 := (dk.1 0 0 k0).1
  have st200 := pr.2.2.2.1.2.2.1.2
  have eo := I.2.2.1
  have eh := I.2.1
  subst eo eh
  refine X_aload_n C dL_law_364 rfl ?_
  refine L_arg E (i := 6 * n) (j := 1) rfl rfl (by decide) (by omega) dL_law_365 dL_law_366 dL_law_368 dL_law_369 dL_law_370 ?_
  refine L_arg E (i := 6 * n) (j := 2) rfl rfl (by decide) (by omega) dL_law_371 dL_law_372 dL_law_374 dL_law_375 dL_law_376 ?_
  refine L_arg E (i := 6 * n) (j := 3) rfl rfl (by decide) (by omega) dL_law_377 dL_law_378 dL_law_380 dL_law_381 dL_law_382 ?_
  refine L_arg E (i := 6 * n) (j := 4) rfl rfl (by decide) (by omega) dL_law_383 dL_law_384 dL_law_386 dL_law_387 dL_law_388 ?_
  refine L_arg E (i := 6 * n) (j := 5) rfl rfl (by decide) (by omega) dL_law_389 dL_law_390 dL_law_392 dL_law_393 dL_law_394 ?_
  refine L_bool E dL_law_395 dL_law_398 dL_law_399 dL_law_402 ?_
  refine X_callVa (As := [.int (xs (6 * n + 1)), .int (xs (6 * n + 2)), .int (xs (6 * n + 3)), .int (xs (6 * n + 4)), .int (bo (xs (6 * n + 5)))]) (rest := []) C (Ti_test_c e1) wLa_49 ⟨by decide, by decide⟩ ⟨by omega, by omega⟩ (rn_at k0) oTi.2.1 rfl rfl (Nat.le_of_ble_eq_true rfl) dL_law_403 ?_
  refine X_aload_n C dL_law_406 rfl ?_
  refine L_arg E (i := 6 * n) (j := 1) rfl rfl (by decide) (by omega) dL_law_407 dL_law_408 dL_law_410 dL_law_411 dL_law_412 ?_
  refine L_arg E (i := 6 * n) (j := 2) rfl rfl (by decide) (by omega) dL_law_413 dL_law_414 dL_law_416 dL_law_417 dL_law_418 ?_
  refine L_arg E (i := 6 * n) (j := 3) rfl rfl (by decide) (by omega) dL_law_419 dL_law_420 dL_law_422 dL_law_423 dL_law_424 ?_
  refine L_arg E (i := 6 * n) (j := 4) rfl rfl (by decide) (by omega) dL_law_425 dL_law_426 dL_law_428 dL_law_429 dL_law_430 ?_
  refine L_arg E (i := 6 * n) (j := 5) rfl rfl (by decide) (by omega) dL_law_431 dL_law_432 dL_law_434 dL_law_435 dL_law_436 ?_
  refine L_bool E dL_law_437 dL_law_440 dL_law_441 dL_law_444 ?_
  refine X_callV (As := [.int (xs (6 * n + 1)), .int (xs (6 * n + 2)), .int (xs (6 * n + 3)), .int (xs (6 * n + 4)), .int (bo (xs (6 * n + 5)))]) (rest := [.int rr]) (P := mP (r, ad, rn D' κ', z) (some (.int rr)) σ' τ') C (Mo_test_c (M := (r, ad, rn D' κ', z)) e2 (rn D' κ') hMo) wLa_52 ⟨by decide, by decide⟩ ⟨by omega, by omega⟩ hMo.1 oMo.2.1 rfl rfl (Nat.le_of_ble_eq_true rfl) dL_law_445 (fun v2 h2 z2 q2 => ?_)
  obtain ⟨rfl, hM2, rfl⟩ := q2
  refine X_icmp_eq C (tgt := 1375) dL_law_448 (by decide) (fun _ => ?_) (fun t => absurd rfl t)
  exact nx _ κ' σ' τ' h2 _ (cs + 0 + 0) (ss + 0 + 0) (LI_fin pr o' hM2 (by rw [LI_w hM2 hne]; exact hw) hk hne (fun _ _ => rfl)) (by unfold cB; omega) (by unfold sB; omega)
end LC0
