/-! the law's cases -/
section LC0
variable {l : Launch} {E : KE} {p : Program} {e : Env} {s : State} {m : MethodId} {below : List Frame} {meth : Method} {c : Code} {b L : Nat} {xs : Nat → Int32} {Q : State → Prop} {k n i : Nat} {σ : Sto}
theorem dl_240 : decode code 240 = .ok (.aload_n 1, 1) := by decide +kernel
theorem dl_241 : decode code 241 = .ok (.aload_n 0, 1) := by decide +kernel
theorem dl_242 : decode code 242 = .ok (.iload 4, 2) := by decide +kernel
theorem dl_244 : decode code 244 = .ok (.iconst 1, 1) := by decide +kernel
theorem dl_245 : decode code 245 = .ok (.iadd, 1) := by decide +kernel
theorem dl_246 : decode code 246 = .ok (.iaload, 1) := by decide +kernel
theorem dl_247 : decode code 247 = .ok (.aload_n 3, 1) := by decide +kernel
theorem dl_248 : decode code 248 = .ok (.invokestatic 119, 3) := by decide +kernel
theorem dl_251 : decode code 251 = .ok (.istore 5, 2) := by decide +kernel
theorem dl_253 : decode code 253 = .ok (.aload_n 2, 1) := by decide +kernel
theorem dl_254 : decode code 254 = .ok (.aload_n 0, 1) := by decide +kernel
theorem dl_255 : decode code 255 = .ok (.iload 4, 2) := by decide +kernel
theorem dl_257 : decode code 257 = .ok (.iconst 1, 1) := by decide +kernel
theorem dl_258 : decode code 258 = .ok (.iadd, 1) := by decide +kernel
theorem dl_259 : decode code 259 = .ok (.iaload, 1) := by decide +kernel
theorem dl_260 : decode code 260 = .ok (.invokevirtual 124, 3) := by decide +kernel
theorem dl_263 : decode code 263 = .ok (.istore 6, 2) := by decide +kernel
theorem dl_265 : decode code 265 = .ok (.aload_n 2, 1) := by decide +kernel
theorem dl_266 : decode code 266 = .ok (.invokevirtual 125, 3) := by decide +kernel
theorem dl_269 : decode code 269 = .ok (.iload 5, 2) := by decide +kernel
theorem dl_271 : decode code 271 = .ok (.if_icmp .eq 5, 3) := by decide +kernel
theorem dl_276 : decode code 276 = .ok (.iload 5, 2) := by decide +kernel
theorem dl_278 : decode code 278 = .ok (.ifCond .ne 15, 3) := by decide +kernel
theorem dl_281 : decode code 281 = .ok (.aload_n 3, 1) := by decide +kernel
theorem dl_282 : decode code 282 = .ok (.iconst 0, 1) := by decide +kernel
theorem dl_283 : decode code 283 = .ok (.laload, 1) := by decide +kernel
theorem dl_284 : decode code 284 = .ok (.iload 6, 2) := by decide +kernel
theorem dl_286 : decode code 286 = .ok (.i2l, 1) := by decide +kernel
theorem dl_287 : decode code 287 = .ok (.lcmp, 1) := by decide +kernel
theorem dl_288 : decode code 288 = .ok (.ifCond .eq 5, 3) := by decide +kernel
theorem dl_293 : decode code 293 = .ok (.goto 2236, 3) := by decide +kernel
set_option maxRecDepth 100000 in
theorem lc_appendText (hst : l.stackTraces = false) (C : LCX l E p s m c b L xs) (hi : i + 5 < L) (hL : L ≤ 3072) (hk : k + 4 ≤ 601024 ∧ n + 24 ≤ 7293034) (hR : REL σ) (kk : ∀ σ2, REL σ2 → LW l E p e s m below meth c b Q (k + 4) (n + 24) 2529 (lo4 i) [] σ2) : LW l E p e s m below meth c b Q k n 240 (lo4 i) [] σ := by
  obtain ⟨tag, v, σ1, e1, H1⟩ := q_append (xs (i + 1)) σ hR
  have ht : tag = 0 ∨ tag = 2 := by
    obtain ⟨w, σ2, -, h2, -⟩ := H1 σ1 (fun _ _ => rfl)
    exact (thr_k1 h2).2
  obtain ⟨w, σ2, e2, h2, h3, h4, h5⟩ := H1 _ (e54_w (σ1 := σ1) (tag := tag) (v := v))
  have hk1 : σ2 133 7 = kti [2] tag := (thr_k1 h2).1
  have hv : tag = 0 → σ2 154 0 = w := fun h => by
    rw [h5, if_pos h, su_s]
    exact h3 h
  refine lr_aload_n (pc := 240) C 0 dl_240 rfl rfl ?_
  refine lr_arg (pc := 241) (i := i) (j := 1) C 3 rfl (by omega) hL dl_241 dl_242 1 (by decide) dl_244 dl_245 dl_246 ?_
  refine lr_aload_n (pc := 247) C 2 dl_247 rfl rfl ?_
  refine lr_callW (pc := 248) (hh := hL_appendText) (M' := mL_appendText) (y := yL_appendText) (ix := 119) (t := kti [2] tag) (σ2 := (if tag = 0 then su σ1 154 0 v else σ1)) (st := []) [.ref 0, .int (xs (i + 1)), .ref 154] C (tL_appendText l hst (xs (i + 1)) σ tag v σ1 e1 ht) dl_248 rfl rfl kw_L_appendText lk_L_119 (by decide) (Nat.zero_le _) (show k + 1 ≤ 601024 ∧ n + 6 ≤ 7293034 by omega) ?_
  refine lr_istore (pc := 251) C ((5, .int (kti [2] tag)) :: lo4 i) dl_251 (by decide) (by decide) rfl ?_
  refine lr_aload_n (pc := 253) C 2 dl_253 rfl rfl ?_
  refine lr_arg (pc := 254) (i := i) (j := 1) C 4 rfl (by omega) hL dl_254 dl_255 1 (by decide) dl_257 dl_258 dl_259 ?_
  refine lr_callV (pc := 260) (q := 133) (ci := 7) (o1 := (0, .int w, σ2)) (M' := mX7_appendText) (y := yX7_appendText) (ix := 124) (st := []) [.int (xs (i + 1))] C (tX7_appendText l hst (xs (i + 1)) _ (w, σ2) e2) rfl dl_260 rfl ks_133 (show vwCl[7]? = some _ from rfl) yw_X7_appendText lk_L_124 (by decide) (Nat.zero_le _) (show k + 1 + 0 ≤ 601024 ∧ n + 6 + 0 ≤ 7293034 by omega) ?_
  refine lr_istore (pc := 263) C ((6, .int w) :: (5, .int (kti [2] tag)) :: lo4 i) dl_263 (by decide) (by decide) rfl ?_
  exact lr_tail (pc := 265) (i := i) hst C hk1 hv (show k + 1 + 0 ≤ 601024 ∧ n + 6 + 0 ≤ 7293034 by omega) dl_265 dl_266 dl_269 dl_271 dl_276 dl_278 dl_281 dl_282 dl_283 dl_284 dl_286 dl_287 dl_288 dl_293 (by decide) (lr_widen (k + 4) (n + 24) (show k + 1 + 0 ≤ k + 4 by omega) (show n + 6 + 0 ≤ n + 24 by omega) (kk σ2 h4))
theorem dl_296 : decode code 296 = .ok (.aload_n 1, 1) := by decide +kernel
theorem dl_297 : decode code 297 = .ok (.aload_n 0, 1) := by decide +kernel
theorem dl_298 : decode code 298 = .ok (.iload 4, 2) := by decide +kernel
theorem dl_300 : decode code 300 = .ok (.iconst 1, 1) := by decide +kernel
theorem dl_301 : decode code 301 = .ok (.iadd, 1) := by decide +kernel
theorem dl_302 : decode code 302 = .ok (.iaload, 1) := by decide +kernel
theorem dl_303 : decode code 303 = .ok (.aload_n 3, 1) := by decide +kernel
theorem dl_304 : decode code 304 = .ok (.invokestatic 129, 3) := by decide +kernel
theorem dl_307 : decode code 307 = .ok (.istore 5, 2) := by decide +kernel
theorem dl_309 : decode code 309 = .ok (.aload_n 2, 1) := by decide +kernel
theorem dl_310 : decode code 310 = .ok (.aload_n 0, 1) := by decide +kernel
theorem dl_311 : decode code 311 = .ok (.iload 4, 2) := by decide +kernel
theorem dl_313 : decode code 313 = .ok (.iconst 1, 1) := by decide +kernel
theorem dl_314 : decode code 314 = .ok (.iadd, 1) := by decide +kernel
theorem dl_315 : decode code 315 = .ok (.iaload, 1) := by decide +kernel
theorem dl_316 : decode code 316 = .ok (.invokevirtual 131, 3) := by decide +kernel
theorem dl_319 : decode code 319 = .ok (.istore 6, 2) := by decide +kernel
theorem dl_321 : decode code 321 = .ok (.aload_n 2, 1) := by decide +kernel
theorem dl_322 : decode code 322 = .ok (.invokevirtual 125, 3) := by decide +kernel
theorem dl_325 : decode code 325 = .ok (.iload 5, 2) := by decide +kernel
theorem dl_327 : decode code 327 = .ok (.if_icmp .eq 5, 3) := by decide +kernel
theorem dl_332 : decode code 332 = .ok (.iload 5, 2) := by decide +kernel
theorem dl_334 : decode code 334 = .ok (.ifCond .ne 15, 3) := by decide +kernel
theorem dl_337 : decode code 337 = .ok (.aload_n 3, 1) := by decide +kernel
theorem dl_338 : decode code 338 = .ok (.iconst 0, 1) := by decide +kernel
theorem dl_339 : decode code 339 = .ok (.laload, 1) := by decide +kernel
theorem dl_340 : decode code 340 = .ok (.iload 6, 2) := by decide +kernel
theorem dl_342 : decode code 342 = .ok (.i2l, 1) := by decide +kernel
theorem dl_343 : decode code 343 = .ok (.lcmp, 1) := by decide +kernel
theorem dl_344 : decode code 344 = .ok (.ifCond .eq 5, 3) := by decide +kernel
theorem dl_349 : decode code 349 = .ok (.goto 2180, 3) := by decide +kernel
set_option maxRecDepth 100000 in
theorem lc_truncateText (hst : l.stackTraces = false) (C : LCX l E p s m c b L xs) (hi : i + 5 < L) (hL : L ≤ 3072) (hk : k + 4 ≤ 601024 ∧ n + 24 ≤ 7293034) (hR : REL σ) (kk : ∀ σ2, REL σ2 → LW l E p e s m below meth c b Q (k + 4) (n + 24) 2529 (lo4 i) [] σ2) : LW l E p e s m below meth c b Q k n 296 (lo4 i) [] σ := by
  obtain ⟨tag, v, σ1, e1, H1⟩ := q_truncate (xs (i + 1)) σ hR
  have ht : tag = 0 ∨ tag = 1 := by
    obtain ⟨w, σ2, -, h2, -⟩ := H1 σ1 (fun _ _ => rfl)
    exact (thr_k1 h2).2
  obtain ⟨w, σ2, e2, h2, h3, h4, h5⟩ := H1 _ (e54_w (σ1 := σ1) (tag := tag) (v := v))
  have hk1 : σ2 133 7 = kti [1] tag := (thr_k1 h2).1
  have hv : tag = 0 → σ2 154 0 = w := fun h => by
    rw [h5, if_pos h, su_s]
    exact h3 h
  refine lr_aload_n (pc := 296) C 0 dl_296 rfl rfl ?_
  refine lr_arg (pc := 297) (i := i) (j := 1) C 3 rfl (by omega) hL dl_297 dl_298 1 (by decide) dl_300 dl_301 dl_302 ?_
  refine lr_aload_n (pc := 303) C 2 dl_303 rfl rfl ?_
  refine lr_callW (pc := 304) (hh := hL_truncateText) (M' := mL_truncateText) (y := yL_truncateText) (ix := 129) (t := kti [1] tag) (σ2 := (if tag = 0 then su σ1 154 0 v else σ1)) (st := []) [.ref 0, .int (xs (i + 1)), .ref 154] C (tL_truncateText l hst (xs (i + 1)) σ tag v σ1 e1 ht) dl_304 rfl rfl kw_L_truncateText lk_L_129 (by decide) (Nat.zero_le _) (show k + 1 ≤ 601024 ∧ n + 6 ≤ 7293034 by omega) ?_
  refine lr_istore (pc := 307) C ((5, .int (kti [1] tag)) :: lo4 i) dl_307 (by decide) (by decide) rfl ?_
  refine lr_aload_n (pc := 309) C 2 dl_309 rfl rfl ?_
  refine lr_arg (pc := 310) (i := i) (j := 1) C 4 rfl (by omega) hL dl_310 dl_311 1 (by decide) dl_313 dl_314 dl_315 ?_
  refine lr_callV (pc := 316) (q := 133) (ci := 7) (o1 := (0, .int w, σ2)) (M' := mX7_truncateText) (y := yX7_truncateText) (ix := 131) (st := []) [.int (xs (i + 1))] C (tX7_truncateText l hst (xs (i + 1)) _ (w, σ2) e2) rfl dl_316 rfl ks_133 (show vwCl[7]? = some _ from rfl) yw_X7_truncateText lk_L_131 (by decide) (Nat.zero_le _) (show k + 1 + 0 ≤ 601024 ∧ n + 6 + 0 ≤ 7293034 by omega) ?_
  refine lr_istore (pc := 319) C ((6, .int w) :: (5, .int (kti [1] tag)) :: lo4 i) dl_319 (by decide) (by decide) rfl ?_
  exact lr_tail (pc := 321) (i := i) hst C hk1 hv (show k + 1 + 0 ≤ 601024 ∧ n + 6 + 0 ≤ 7293034 by omega) dl_321 dl_322 dl_325 dl_327 dl_332 dl_334 dl_337 dl_338 dl_339 dl_340 dl_342 dl_343 dl_344 dl_349 (by decide) (lr_widen (k + 4) (n + 24) (show k + 1 + 0 ≤ k + 4 by omega) (show n + 6 + 0 ≤ n + 24 by omega) (kk σ2 h4))
theorem dl_352 : decode code 352 = .ok (.aload_n 1, 1) := by decide +kernel
theorem dl_353 : decode code 353 = .ok (.invokevirtual 132, 3) := by decide +kernel
theorem dl_356 : decode code 356 = .ok (.aload_n 2, 1) := by decide +kernel
theorem dl_357 : decode code 357 = .ok (.invokevirtual 135, 3) := by decide +kernel
theorem dl_360 : decode code 360 = .ok (.if_icmp .eq 2169, 3) := by decide +kernel
set_option maxRecDepth 100000 in
theorem lc_load (hst : l.stackTraces = false) (C : LCX l E p s m c b L xs) (hi : i + 5 < L) (hL : L ≤ 3072) (hk : k + 4 ≤ 601024 ∧ n + 24 ≤ 7293034) (hR : REL σ) (kk : ∀ σ2, REL σ2 → LW l E p e s m below meth c b Q (k + 4) (n + 24) 2529 (lo4 i) [] σ2) : LW l E p e s m below meth c b Q k n 352 (lo4 i) [] σ := by
  obtain ⟨tag, v, σ1, e1, H1⟩ := q_load  σ hR
  obtain ⟨e0, ht⟩ := liS_inv e1
  obtain ⟨w, σ2, e2, h2, h3, h4, h5⟩ := H1 σ1 (fun _ _ => rfl)
  have hvw : v = w := h3 ht
  subst hvw
  refine lr_aload_n (pc := 352) C 0 dl_352 rfl rfl ?_
  refine lr_callV (pc := 353) (q := 0) (ci := 6) (o1 := (0, .int v, σ1)) (M' := mX6_load) (y := yX6_load) (ix := 132) (st := []) [] C (tX6_load l hst  σ (v, σ1) e0) rfl dl_353 rfl ks_0 (show vwCl[6]? = some _ from rfl) yw_X6_load lk_L_132 (by decide) (show _ ≤ 8 from Nat.le_of_ble_eq_true rfl) (show k + 0 ≤ 601024 ∧ n + 0 ≤ 7293034 by omega) ?_
  refine lr_aload_n (pc := 356) C 1 dl_356 rfl rfl ?_
  refine lr_callV (pc := 357) (q := 133) (ci := 7) (o1 := (0, .int v, σ2)) (M' := mX7_load) (y := yX7_load) (ix := 135) (st := [.int v]) [] C (tX7_load l hst  σ1 (v, σ2) e2) rfl dl_357 rfl ks_133 (show vwCl[7]? = some _ from rfl) yw_X7_load lk_L_135 (by decide) (show _ ≤ 8 from Nat.le_of_ble_eq_true rfl) (show k + 0 + 0 ≤ 601024 ∧ n + 0 + 0 ≤ 7293034 by omega) ?_
  refine lr_icmp_eq (pc := 360) (tgt := 2529) C rfl dl_360 (by decide) ?_
  exact lr_widen (k + 4) (n + 24) (show k + 0 + 0 ≤ k + 4 by omega) (show n + 0 + 0 ≤ n + 24 by omega) (kk σ2 h4)
theorem dl_365 : decode code 365 = .ok (.aload_n 1, 1) := by decide +kernel
theorem dl_366 : decode code 366 = .ok (.invokevirtual 136, 3) := by decide +kernel
theorem dl_369 : decode code 369 = .ok (.aload_n 2, 1) := by decide +kernel
theorem dl_370 : decode code 370 = .ok (.invokevirtual 139, 3) := by decide +kernel
theorem dl_373 : decode code 373 = .ok (.if_icmp .eq 2156, 3) := by decide +kernel
set_option maxRecDepth 100000 in
theorem lc_errorCode (hst : l.stackTraces = false) (C : LCX l E p s m c b L xs) (hi : i + 5 < L) (hL : L ≤ 3072) (hk : k + 4 ≤ 601024 ∧ n + 24 ≤ 7293034) (hR : REL σ) (kk : ∀ σ2, REL σ2 → LW l E p e s m below meth c b Q (k + 4) (n + 24) 2529 (lo4 i) [] σ2) : LW l E p e s m below meth c b Q k n 365 (lo4 i) [] σ := by
  obtain ⟨tag, v, σ1, e1, H1⟩ := q_errorCode  σ hR
  have ht : tag = 0 := by cases e1; rfl
  have hv0 : fX6_errorCode σ = v := by cases e1; rfl
  have hs1 : σ1 = σ := by cases e1; rfl
  subst hs1
  obtain ⟨w, σ2, e2, h2, h3, h4, h5⟩ := H1 σ1 (fun _ _ => rfl)
  have hvw : v = w := h3 ht
  subst hvw
  refine lr_aload_n (pc := 365) C 0 dl_365 rfl rfl ?_
  refine lr_callV (pc := 366) (q := 0) (ci := 6) (o1 := (0, .int v, σ1)) (M' := mX6_errorCode) (y := yX6_errorCode) (ix := 136) (st := []) [] C ((by have h := tX6_errorCode l hst σ1; rw [hv0] at h; exact h)) rfl dl_366 rfl ks_0 (show vwCl[6]? = some _ from rfl) yw_X6_errorCode lk_L_136 (by decide) (show _ ≤ 8 from Nat.le_of_ble_eq_true rfl) (show k + 0 ≤ 601024 ∧ n + 0 ≤ 7293034 by omega) ?_
  refine lr_aload_n (pc := 369) C 1 dl_369 rfl rfl ?_
  have e3 : fX7_errorCode σ1 = (v, σ2) := Option.some.inj e2
  refine lr_callV (pc := 370) (q := 133) (ci := 7) (o1 := (0, .int v, σ2)) (M' := mX7_errorCode) (y := yX7_errorCode) (ix := 139) (st := [.int v]) [] C ((by have h := tX7_errorCode l hst σ1; rw [e3] at h; exact h)) rfl dl_370 rfl ks_133 (show vwCl[7]? = some _ from rfl) yw_X7_errorCode lk_L_139 (by decide) (show _ ≤ 8 from Nat.le_of_ble_eq_true rfl) (show k + 0 + 0 ≤ 601024 ∧ n + 0 + 0 ≤ 7293034 by omega) ?_
  refine lr_icmp_eq (pc := 373) (tgt := 2529) C rfl dl_373 (by decide) ?_
  exact lr_widen (k + 4) (n + 24) (show k + 0 + 0 ≤ k + 4 by omega) (show n + 0 + 0 ≤ n + 24 by omega) (kk σ2 h4)
theorem dl_378 : decode code 378 = .ok (.aload_n 1, 1) := by decide +kernel
theorem dl_379 : decode code 379 = .ok (.invokevirtual 140, 3) := by decide +kernel
theorem dl_382 : decode code 382 = .ok (.aload_n 2, 1) := by decide +kernel
theorem dl_383 : decode code 383 = .ok (.invokevirtual 143, 3) := by decide +kernel
theorem dl_386 : decode code 386 = .ok (.if_icmp .eq 2143, 3) := by decide +kernel
set_option maxRecDepth 100000 in
theorem lc_errorPosition (hst : l.stackTraces = false) (C : LCX l E p s m c b L xs) (hi : i + 5 < L) (hL : L ≤ 3072) (hk : k + 4 ≤ 601024 ∧ n + 24 ≤ 7293034) (hR : REL σ) (kk : ∀ σ2, REL σ2 → LW l E p e s m below meth c b Q (k + 4) (n + 24) 2529 (lo4 i) [] σ2) : LW l E p e s m below meth c b Q k n 378 (lo4 i) [] σ := by
  obtain ⟨tag, v, σ1, e1, H1⟩ := q_errorPosition  σ hR
  have ht : tag = 0 := by cases e1; rfl
  have hv0 : fX6_errorPosition σ = v := by cases e1; rfl
  have hs1 : σ1 = σ := by cases e1; rfl
  subst hs1
  obtain ⟨w, σ2, e2, h2, h3, h4, h5⟩ := H1 σ1 (fun _ _ => rfl)
  have hvw : v = w := h3 ht
  subst hvw
  refine lr_aload_n (pc := 378) C 0 dl_378 rfl rfl ?_
  refine lr_callV (pc := 379) (q := 0) (ci := 6) (o1 := (0, .int v, σ1)) (M' := mX6_errorPosition) (y := yX6_errorPosition) (ix := 140) (st := []) [] C ((by have h := tX6_errorPosition l hst σ1; rw [hv0] at h; exact h)) rfl dl_379 rfl ks_0 (show vwCl[6]? = some _ from rfl) yw_X6_errorPosition lk_L_140 (by decide) (show _ ≤ 8 from Nat.le_of_ble_eq_true rfl) (show k + 0 ≤ 601024 ∧ n + 0 ≤ 7293034 by omega) ?_
  refine lr_aload_n (pc := 382) C 1 dl_382 rfl rfl ?_
  have e3 : fX7_errorPosition σ1 = (v, σ2) := Option.some.inj e2
  refine lr_callV (pc := 383) (q := 133) (ci := 7) (o1 := (0, .int v, σ2)) (M' := mX7_errorPosition) (y := yX7_errorPosition) (ix := 143) (st := [.int v]) [] C ((by have h := tX7_errorPosition l hst σ1; rw [e3] at h; exact h)) rfl dl_383 rfl ks_133 (show vwCl[7]? = some _ from rfl) yw_X7_errorPosition lk_L_143 (by decide) (show _ ≤ 8 from Nat.le_of_ble_eq_true rfl) (show k + 0 + 0 ≤ 601024 ∧ n + 0 + 0 ≤ 7293034 by omega) ?_
  refine lr_icmp_eq (pc := 386) (tgt := 2529) C rfl dl_386 (by decide) ?_
  exact lr_widen (k + 4) (n + 24) (show k + 0 + 0 ≤ k + 4 by omega) (show n + 0 + 0 ≤ n + 24 by omega) (kk σ2 h4)
theorem dl_391 : decode code 391 = .ok (.aload_n 1, 1) := by decide +kernel
theorem dl_392 : decode code 392 = .ok (.aload_n 0, 1) := by decide +kernel
theorem dl_393 : decode code 393 = .ok (.iload 4, 2) := by decide +kernel
theorem dl_395 : decode code 395 = .ok (.iconst 1, 1) := by decide +kernel
theorem dl_396 : decode code 396 = .ok (.iadd, 1) := by decide +kernel
theorem dl_397 : decode code 397 = .ok (.iaload, 1) := by decide +kernel
theorem dl_398 : decode code 398 = .ok (.aload_n 3, 1) := by decide +kernel
theorem dl_399 : decode code 399 = .ok (.invokestatic 144, 3) := by decide +kernel
theorem dl_402 : decode code 402 = .ok (.istore 5, 2) := by decide +kernel
theorem dl_404 : decode code 404 = .ok (.aload_n 2, 1) := by decide +kernel
theorem dl_405 : decode code 405 = .ok (.aload_n 0, 1) := by decide +kernel
theorem dl_406 : decode code 406 = .ok (.iload 4, 2) := by decide +kernel
theorem dl_408 : decode code 408 = .ok (.iconst 1, 1) := by decide +kernel
theorem dl_409 : decode code 409 = .ok (.iadd, 1) := by decide +kernel
theorem dl_410 : decode code 410 = .ok (.iaload, 1) := by decide +kernel
theorem dl_411 : decode code 411 = .ok (.invokevirtual 146, 3) := by decide +kernel
theorem dl_414 : decode code 414 = .ok (.istore 6, 2) := by decide +kernel
theorem dl_416 : decode code 416 = .ok (.aload_n 2, 1) := by decide +kernel
theorem dl_417 : decode code 417 = .ok (.invokevirtual 125, 3) := by decide +kernel
theorem dl_420 : decode code 420 = .ok (.iload 5, 2) := by decide +kernel
theorem dl_422 : decode code 422 = .ok (.if_icmp .eq 5, 3) := by decide +kernel
theorem dl_427 : decode code 427 = .ok (.iload 5, 2) := by decide +kernel
theorem dl_429 : decode code 429 = .ok (.ifCond .ne 15, 3) := by decide +kernel
theorem dl_432 : decode code 432 = .ok (.aload_n 3, 1) := by decide +kernel
theorem dl_433 : decode code 433 = .ok (.iconst 0, 1) := by decide +kernel
theorem dl_434 : decode code 434 = .ok (.laload, 1) := by decide +kernel
theorem dl_435 : decode code 435 = .ok (.iload 6, 2) := by decide +kernel
theorem dl_437 : decode code 437 = .ok (.i2l, 1) := by decide +kernel
theorem dl_438 : decode code 438 = .ok (.lcmp, 1) := by decide +kernel
theorem dl_439 : decode code 439 = .ok (.ifCond .eq 5, 3) := by decide +kernel
theorem dl_444 : decode code 444 = .ok (.goto 2085, 3) := by decide +kernel
set_option maxRecDepth 100000 in
theorem lc_count (hst : l.stackTraces = false) (C : LCX l E p s m c b L xs) (hi : i + 5 < L) (hL : L ≤ 3072) (hk : k + 4 ≤ 601024 ∧ n + 24 ≤ 7293034) (hR : REL σ) (kk : ∀ σ2, REL σ2 → LW l E p e s m below meth c b Q (k + 4) (n + 24) 2529 (lo4 i) [] σ2) : LW l E p e s m below meth c b Q k n 391 (lo4 i) [] σ := by
  obtain ⟨tag, v, σ1, e1, H1⟩ := q_count (xs (i + 1)) σ hR
  have ht : tag = 0 ∨ tag = 1 := by
    obtain ⟨w, σ2, -, h2, -⟩ := H1 σ1 (fun _ _ => rfl)
    exact (thr_k1 h2).2
  obtain ⟨w, σ2, e2, h2, h3, h4, h5⟩ := H1 _ (e54_w (σ1 := σ1) (tag := tag) (v := v))
  have hk1 : σ2 133 7 = kti [1] tag := (thr_k1 h2).1
  have hv : tag = 0 → σ2 154 0 = w := fun h => by
    rw [h5, if_pos h, su_s]
    exact h3 h
  refine lr_aload_n (pc := 391) C 0 dl_391 rfl rfl ?_
  refine lr_arg (pc := 392) (i := i) (j := 1) C 3 rfl (by omega) hL dl_392 dl_393 1 (by decide) dl_395 dl_396 dl_397 ?_
  refine lr_aload_n (pc := 398) C 2 dl_398 rfl rfl ?_
  refine lr_callW (pc := 399) (hh := hL_count) (M' := mL_count) (y := yL_count) (ix := 144) (t := kti [1] tag) (σ2 := (if tag = 0 then su σ1 154 0 v else σ1)) (st := []) [.ref 0, .int (xs (i + 1)), .ref 154] C (tL_count l hst (xs (i + 1)) σ tag v σ1 e1 ht) dl_399 rfl rfl kw_L_count lk_L_144 (by decide) (Nat.zero_le _) (show k + 1 ≤ 601024 ∧ n + 6 ≤ 7293034 by omega) ?_
  refine lr_istore (pc := 402) C ((5, .int (kti [1] tag)) :: lo4 i) dl_402 (by decide) (by decide) rfl ?_
  refine lr_aload_n (pc := 404) C 2 dl_404 rfl rfl ?_
  refine lr_arg (pc := 405) (i := i) (j := 1) C 4 rfl (by omega) hL dl_405 dl_406 1 (by decide) dl_408 dl_409 dl_410 ?_
  refine lr_callV (pc := 411) (q := 133) (ci := 7) (o1 := (0, .int w, σ2)) (M' := mX7_count) (y := yX7_count) (ix := 146) (st := []) [.int (xs (i + 1))] C (tX7_count l hst (xs (i + 1)) _ (w, σ2) e2) rfl dl_411 rfl ks_133 (show vwCl[7]? = some _ from rfl) yw_X7_count lk_L_146 (by decide) (Nat.zero_le _) (show k + 1 + 0 ≤ 601024 ∧ n + 6 + 0 ≤ 7293034 by omega) ?_
  refine lr_istore (pc := 414) C ((6, .int w) :: (5, .int (kti [1] tag)) :: lo4 i) dl_414 (by decide) (by decide) rfl ?_
  exact lr_tail (pc := 416) (i := i) hst C hk1 hv (show k + 1 + 0 ≤ 601024 ∧ n + 6 + 0 ≤ 7293034 by omega) dl_416 dl_417 dl_420 dl_422 dl_427 dl_429 dl_432 dl_433 dl_434 dl_435 dl_437 dl_438 dl_439 dl_444 (by decide) (lr_widen (k + 4) (n + 24) (show k + 1 + 0 ≤ k + 4 by omega) (show n + 6 + 0 ≤ n + 24 by omega) (kk σ2 h4))
theorem dl_447 : decode code 447 = .ok (.aload_n 1, 1) := by decide +kernel
theorem dl_448 : decode code 448 = .ok (.aload_n 0, 1) := by decide +kernel
theorem dl_449 : decode code 449 = .ok (.iload 4, 2) := by decide +kernel
theorem dl_451 : decode code 451 = .ok (.iconst 1, 1) := by decide +kernel
theorem dl_452 : decode code 452 = .ok (.iadd, 1) := by decide +kernel
theorem dl_453 : decode code 453 = .ok (.iaload, 1) := by decide +kernel
theorem dl_454 : decode code 454 = .ok (.aload_n 0, 1) := by decide +kernel
theorem dl_455 : decode code 455 = .ok (.iload 4, 2) := by decide +kernel
theorem dl_457 : decode code 457 = .ok (.iconst 2, 1) := by decide +kernel
theorem dl_458 : decode code 458 = .ok (.iadd, 1) := by decide +kernel
theorem dl_459 : decode code 459 = .ok (.iaload, 1) := by decide +kernel
theorem dl_460 : decode code 460 = .ok (.aload_n 3, 1) := by decide +kernel
theorem dl_461 : decode code 461 = .ok (.invokestatic 147, 3) := by decide +kernel
theorem dl_464 : decode code 464 = .ok (.istore 5, 2) := by decide +kernel
theorem dl_466 : decode code 466 = .ok (.aload_n 2, 1) := by decide +kernel
theorem dl_467 : decode code 467 = .ok (.aload_n 0, 1) := by decide +kernel
theorem dl_468 : decode code 468 = .ok (.iload 4, 2) := by decide +kernel
theorem dl_470 : decode code 470 = .ok (.iconst 1, 1) := by decide +kernel
theorem dl_471 : decode code 471 = .ok (.iadd, 1) := by decide +kernel
theorem dl_472 : decode code 472 = .ok (.iaload, 1) := by decide +kernel
theorem dl_473 : decode code 473 = .ok (.aload_n 0, 1) := by decide +kernel
theorem dl_474 : decode code 474 = .ok (.iload 4, 2) := by decide +kernel
theorem dl_476 : decode code 476 = .ok (.iconst 2, 1) := by decide +kernel
theorem dl_477 : decode code 477 = .ok (.iadd, 1) := by decide +kernel
theorem dl_478 : decode code 478 = .ok (.iaload, 1) := by decide +kernel
theorem dl_479 : decode code 479 = .ok (.invokevirtual 150, 3) := by decide +kernel
theorem dl_482 : decode code 482 = .ok (.istore 6, 2) := by decide +kernel
theorem dl_484 : decode code 484 = .ok (.aload_n 2, 1) := by decide +kernel
theorem dl_485 : decode code 485 = .ok (.invokevirtual 125, 3) := by decide +kernel
theorem dl_488 : decode code 488 = .ok (.iload 5, 2) := by decide +kernel
theorem dl_490 : decode code 490 = .ok (.if_icmp .eq 5, 3) := by decide +kernel
theorem dl_495 : decode code 495 = .ok (.iload 5, 2) := by decide +kernel
theorem dl_497 : decode code 497 = .ok (.ifCond .ne 15, 3) := by decide +kernel
theorem dl_500 : decode code 500 = .ok (.aload_n 3, 1) := by decide +kernel
theorem dl_501 : decode code 501 = .ok (.iconst 0, 1) := by decide +kernel
theorem dl_502 : decode code 502 = .ok (.laload, 1) := by decide +kernel
theorem dl_503 : decode code 503 = .ok (.iload 6, 2) := by decide +kernel
theorem dl_505 : decode code 505 = .ok (.i2l, 1) := by decide +kernel
theorem dl_506 : decode code 506 = .ok (.lcmp, 1) := by decide +kernel
theorem dl_507 : decode code 507 = .ok (.ifCond .eq 5, 3) := by decide +kernel
theorem dl_512 : decode code 512 = .ok (.goto 2017, 3) := by decide +kernel
set_option maxRecDepth 100000 in
theorem lc_chip (hst : l.stackTraces = false) (C : LCX l E p s m c b L xs) (hi : i + 5 < L) (hL : L ≤ 3072) (hk : k + 4 ≤ 601024 ∧ n + 24 ≤ 7293034) (hR : REL σ) (kk : ∀ σ2, REL σ2 → LW l E p e s m below meth c b Q (k + 4) (n + 24) 2529 (lo4 i) [] σ2) : LW l E p e s m below meth c b Q k n 447 (lo4 i) [] σ := by
  obtain ⟨tag, v, σ1, e1, H1⟩ := q_chip (xs (i + 1)) (xs (i + 2)) σ hR
  have ht : tag = 0 ∨ tag = 3 ∨ tag = 1 := by
    obtain ⟨w, σ2, -, h2, -⟩ := H1 σ1 (fun _ _ => rfl)
    exact (thr_k2 (by decide) h2).2
  obtain ⟨w, σ2, e2, h2, h3, h4, h5⟩ := H1 _ (e54_w (σ1 := σ1) (tag := tag) (v := v))
  have hk1 : σ2 133 7 = kti [3, 1] tag := (thr_k2 (by decide) h2).1
  have hv : tag = 0 → σ2 154 0 = w := fun h => by
    rw [h5, if_pos h, su_s]
    exact h3 h
  refine lr_aload_n (pc := 447) C 0 dl_447 rfl rfl ?_
  refine lr_arg (pc := 448) (i := i) (j := 1) C 3 rfl (by omega) hL dl_448 dl_449 1 (by decide) dl_451 dl_452 dl_453 ?_
  refine lr_arg (pc := 454) (i := i) (j := 2) C 3 rfl (by omega) hL dl_454 dl_455 2 (by decide) dl_457 dl_458 dl_459 ?_
  refine lr_aload_n (pc := 460) C 2 dl_460 rfl rfl ?_
  refine lr_callW (pc := 461) (hh := hL_chip) (M' := mL_chip) (y := yL_chip) (ix := 147) (t := kti [3, 1] tag) (σ2 := (if tag = 0 then su σ1 154 0 v else σ1)) (st := []) [.ref 0, .int (xs (i + 1)), .int (xs (i + 2)), .ref 154] C (tL_chip l hst (xs (i + 1)) (xs (i + 2)) σ tag v σ1 e1 ht) dl_461 rfl rfl kw_L_chip lk_L_147 (by decide) (Nat.zero_le _) (show k + 2 ≤ 601024 ∧ n + 12 ≤ 7293034 by omega) ?_
  refine lr_istore (pc := 464) C ((5, .int (kti [3, 1] tag)) :: lo4 i) dl_464 (by decide) (by decide) rfl ?_
  refine lr_aload_n (pc := 466) C 2 dl_466 rfl rfl ?_
  refine lr_arg (pc := 467) (i := i) (j := 1) C 4 rfl (by omega) hL dl_467 dl_468 1 (by decide) dl_470 dl_471 dl_472 ?_
  refine lr_arg (pc := 473) (i := i) (j := 2) C 4 rfl (by omega) hL dl_473 dl_474 2 (by decide) dl_476 dl_477 dl_478 ?_
  refine lr_callV (pc := 479) (q := 133) (ci := 7) (o1 := (0, .int w, σ2)) (M' := mX7_chip) (y := yX7_chip) (ix := 150) (st := []) [.int (xs (i + 1)), .int (xs (i + 2))] C (tX7_chip l hst (xs (i + 1)) (xs (i + 2)) _ (w, σ2) e2) rfl dl_479 rfl ks_133 (show vwCl[7]? = some _ from rfl) yw_X7_chip lk_L_150 (by decide) (Nat.zero_le _) (show k + 2 + 0 ≤ 601024 ∧ n + 12 + 0 ≤ 7293034 by omega) ?_
  refine lr_istore (pc := 482) C ((6, .int w) :: (5, .int (kti [3, 1] tag)) :: lo4 i) dl_482 (by decide) (by decide) rfl ?_
  exact lr_tail (pc := 484) (i := i) hst C hk1 hv (show k + 2 + 0 ≤ 601024 ∧ n + 12 + 0 ≤ 7293034 by omega) dl_484 dl_485 dl_488 dl_490 dl_495 dl_497 dl_500 dl_501 dl_502 dl_503 dl_505 dl_506 dl_507 dl_512 (by decide) (lr_widen (k + 4) (n + 24) (show k + 2 + 0 ≤ k + 4 by omega) (show n + 12 + 0 ≤ n + 24 by omega) (kk σ2 h4))
theorem dl_515 : decode code 515 = .ok (.aload_n 1, 1) := by decide +kernel
theorem dl_516 : decode code 516 = .ok (.aload_n 0, 1) := by decide +kernel
theorem dl_517 : decode code 517 = .ok (.iload 4, 2) := by decide +kernel
theorem dl_519 : decode code 519 = .ok (.iconst 1, 1) := by decide +kernel
theorem dl_520 : decode code 520 = .ok (.iadd, 1) := by decide +kernel
theorem dl_521 : decode code 521 = .ok (.iaload, 1) := by decide +kernel
theorem dl_522 : decode code 522 = .ok (.aload_n 0, 1) := by decide +kernel
theorem dl_523 : decode code 523 = .ok (.iload 4, 2) := by decide +kernel
theorem dl_525 : decode code 525 = .ok (.iconst 2, 1) := by decide +kernel
theorem dl_526 : decode code 526 = .ok (.iadd, 1) := by decide +kernel
theorem dl_527 : decode code 527 = .ok (.iaload, 1) := by decide +kernel
theorem dl_528 : decode code 528 = .ok (.aload_n 3, 1) := by decide +kernel
theorem dl_529 : decode code 529 = .ok (.invokestatic 151, 3) := by decide +kernel
theorem dl_532 : decode code 532 = .ok (.istore 5, 2) := by decide +kernel
theorem dl_534 : decode code 534 = .ok (.aload_n 2, 1) := by decide +kernel
theorem dl_535 : decode code 535 = .ok (.aload_n 0, 1) := by decide +kernel
theorem dl_536 : decode code 536 = .ok (.iload 4, 2) := by decide +kernel
theorem dl_538 : decode code 538 = .ok (.iconst 1, 1) := by decide +kernel
theorem dl_539 : decode code 539 = .ok (.iadd, 1) := by decide +kernel
theorem dl_540 : decode code 540 = .ok (.iaload, 1) := by decide +kernel
theorem dl_541 : decode code 541 = .ok (.aload_n 0, 1) := by decide +kernel
theorem dl_542 : decode code 542 = .ok (.iload 4, 2) := by decide +kernel
theorem dl_544 : decode code 544 = .ok (.iconst 2, 1) := by decide +kernel
theorem dl_545 : decode code 545 = .ok (.iadd, 1) := by decide +kernel
theorem dl_546 : decode code 546 = .ok (.iaload, 1) := by decide +kernel
theorem dl_547 : decode code 547 = .ok (.invokevirtual 153, 3) := by decide +kernel
theorem dl_550 : decode code 550 = .ok (.istore 6, 2) := by decide +kernel
theorem dl_552 : decode code 552 = .ok (.aload_n 2, 1) := by decide +kernel
theorem dl_553 : decode code 553 = .ok (.invokevirtual 125, 3) := by decide +kernel
theorem dl_556 : decode code 556 = .ok (.iload 5, 2) := by decide +kernel
theorem dl_558 : decode code 558 = .ok (.if_icmp .eq 5, 3) := by decide +kernel
theorem dl_563 : decode code 563 = .ok (.iload 5, 2) := by decide +kernel
theorem dl_565 : decode code 565 = .ok (.ifCond .ne 15, 3) := by decide +kernel
theorem dl_568 : decode code 568 = .ok (.aload_n 3, 1) := by decide +kernel
theorem dl_569 : decode code 569 = .ok (.iconst 0, 1) := by decide +kernel
theorem dl_570 : decode code 570 = .ok (.laload, 1) := by decide +kernel
theorem dl_571 : decode code 571 = .ok (.iload 6, 2) := by decide +kernel
theorem dl_573 : decode code 573 = .ok (.i2l, 1) := by decide +kernel
theorem dl_574 : decode code 574 = .ok (.lcmp, 1) := by decide +kernel
theorem dl_575 : decode code 575 = .ok (.ifCond .eq 5, 3) := by decide +kernel
theorem dl_580 : decode code 580 = .ok (.goto 1949, 3) := by decide +kernel
set_option maxRecDepth 100000 in
theorem lc_chipAt (hst : l.stackTraces = false) (C : LCX l E p s m c b L xs) (hi : i + 5 < L) (hL : L ≤ 3072) (hk : k + 4 ≤ 601024 ∧ n + 24 ≤ 7293034) (hR : REL σ) (kk : ∀ σ2, REL σ2 → LW l E p e s m below meth c b Q (k + 4) (n + 24) 2529 (lo4 i) [] σ2) : LW l E p e s m below meth c b Q k n 515 (lo4 i) [] σ := by
  obtain ⟨tag, v, σ1, e1, H1⟩ := q_chipAt (xs (i + 1)) (xs (i + 2)) σ hR
  have ht : tag = 0 ∨ tag = 3 := by
    obtain ⟨w, σ2, -, h2, -⟩ := H1 σ1 (fun _ _ => rfl)
    exact (thr_k1 h2).2
  obtain ⟨w, σ2, e2, h2, h3, h4, h5⟩ := H1 _ (e54_w (σ1 := σ1) (tag := tag) (v := v))
  have hk1 : σ2 133 7 = kti [3] tag := (thr_k1 h2).1
  have hv : tag = 0 → σ2 154 0 = w := fun h => by
    rw [h5, if_pos h, su_s]
    exact h3 h
  refine lr_aload_n (pc := 515) C 0 dl_515 rfl rfl ?_
  refine lr_arg (pc := 516) (i := i) (j := 1) C 3 rfl (by omega) hL dl_516 dl_517 1 (by decide) dl_519 dl_520 dl_521 ?_
  refine lr_arg (pc := 522) (i := i) (j := 2) C 3 rfl (by omega) hL dl_522 dl_523 2 (by decide) dl_525 dl_526 dl_527 ?_
  refine lr_aload_n (pc := 528) C 2 dl_528 rfl rfl ?_
  refine lr_callW (pc := 529) (hh := hL_chipAt) (M' := mL_chipAt) (y := yL_chipAt) (ix := 151) (t := kti [3] tag) (σ2 := (if tag = 0 then su σ1 154 0 v else σ1)) (st := []) [.ref 0, .int (xs (i + 1)), .int (xs (i + 2)), .ref 154] C (tL_chipAt l hst (xs (i + 1)) (xs (i + 2)) σ tag v σ1 e1 ht) dl_529 rfl rfl kw_L_chipAt lk_L_151 (by decide) (Nat.zero_le _) (show k + 1 ≤ 601024 ∧ n + 6 ≤ 7293034 by omega) ?_
  refine lr_istore (pc := 532) C ((5, .int (kti [3] tag)) :: lo4 i) dl_532 (by decide) (by decide) rfl ?_
  refine lr_aload_n (pc := 534) C 2 dl_534 rfl rfl ?_
  refine lr_arg (pc := 535) (i := i) (j := 1) C 4 rfl (by omega) hL dl_535 dl_536 1 (by decide) dl_538 dl_539 dl_540 ?_
  refine lr_arg (pc := 541) (i := i) (j := 2) C 4 rfl (by omega) hL dl_541 dl_542 2 (by decide) dl_544 dl_545 dl_546 ?_
  refine lr_callV (pc := 547) (q := 133) (ci := 7) (o1 := (0, .int w, σ2)) (M' := mX7_chipAt) (y := yX7_chipAt) (ix := 153) (st := []) [.int (xs (i + 1)), .int (xs (i + 2))] C (tX7_chipAt l hst (xs (i + 1)) (xs (i + 2)) _ (w, σ2) e2) rfl dl_547 rfl ks_133 (show vwCl[7]? = some _ from rfl) yw_X7_chipAt lk_L_153 (by decide) (Nat.zero_le _) (show k + 1 + 0 ≤ 601024 ∧ n + 6 + 0 ≤ 7293034 by omega) ?_
  refine lr_istore (pc := 550) C ((6, .int w) :: (5, .int (kti [3] tag)) :: lo4 i) dl_550 (by decide) (by decide) rfl ?_
  exact lr_tail (pc := 552) (i := i) hst C hk1 hv (show k + 1 + 0 ≤ 601024 ∧ n + 6 + 0 ≤ 7293034 by omega) dl_552 dl_553 dl_556 dl_558 dl_563 dl_565 dl_568 dl_569 dl_570 dl_571 dl_573 dl_574 dl_575 dl_580 (by decide) (lr_widen (k + 4) (n + 24) (show k + 1 + 0 ≤ k + 4 by omega) (show n + 6 + 0 ≤ n + 24 by omega) (kk σ2 h4))
theorem dl_583 : decode code 583 = .ok (.aload_n 1, 1) := by decide +kernel
theorem dl_584 : decode code 584 = .ok (.aload_n 0, 1) := by decide +kernel
theorem dl_585 : decode code 585 = .ok (.iload 4, 2) := by decide +kernel
theorem dl_587 : decode code 587 = .ok (.iconst 1, 1) := by decide +kernel
theorem dl_588 : decode code 588 = .ok (.iadd, 1) := by decide +kernel
theorem dl_589 : decode code 589 = .ok (.iaload, 1) := by decide +kernel
theorem dl_590 : decode code 590 = .ok (.aload_n 0, 1) := by decide +kernel
theorem dl_591 : decode code 591 = .ok (.iload 4, 2) := by decide +kernel
theorem dl_593 : decode code 593 = .ok (.iconst 2, 1) := by decide +kernel
theorem dl_594 : decode code 594 = .ok (.iadd, 1) := by decide +kernel
theorem dl_595 : decode code 595 = .ok (.iaload, 1) := by decide +kernel
theorem dl_596 : decode code 596 = .ok (.aload_n 3, 1) := by decide +kernel
theorem dl_597 : decode code 597 = .ok (.invokestatic 154, 3) := by decide +kernel
theorem dl_600 : decode code 600 = .ok (.istore 5, 2) := by decide +kernel
theorem dl_602 : decode code 602 = .ok (.aload_n 2, 1) := by decide +kernel
theorem dl_603 : decode code 603 = .ok (.aload_n 0, 1) := by decide +kernel
theorem dl_604 : decode code 604 = .ok (.iload 4, 2) := by decide +kernel
theorem dl_606 : decode code 606 = .ok (.iconst 1, 1) := by decide +kernel
theorem dl_607 : decode code 607 = .ok (.iadd, 1) := by decide +kernel
theorem dl_608 : decode code 608 = .ok (.iaload, 1) := by decide +kernel
theorem dl_609 : decode code 609 = .ok (.aload_n 0, 1) := by decide +kernel
theorem dl_610 : decode code 610 = .ok (.iload 4, 2) := by decide +kernel
theorem dl_612 : decode code 612 = .ok (.iconst 2, 1) := by decide +kernel
theorem dl_613 : decode code 613 = .ok (.iadd, 1) := by decide +kernel
theorem dl_614 : decode code 614 = .ok (.iaload, 1) := by decide +kernel
theorem dl_615 : decode code 615 = .ok (.invokevirtual 156, 3) := by decide +kernel
theorem dl_618 : decode code 618 = .ok (.istore 6, 2) := by decide +kernel
theorem dl_620 : decode code 620 = .ok (.aload_n 2, 1) := by decide +kernel
theorem dl_621 : decode code 621 = .ok (.invokevirtual 125, 3) := by decide +kernel
theorem dl_624 : decode code 624 = .ok (.iload 5, 2) := by decide +kernel
theorem dl_626 : decode code 626 = .ok (.if_icmp .eq 5, 3) := by decide +kernel
theorem dl_631 : decode code 631 = .ok (.iload 5, 2) := by decide +kernel
theorem dl_633 : decode code 633 = .ok (.ifCond .ne 15, 3) := by decide +kernel
theorem dl_636 : decode code 636 = .ok (.aload_n 3, 1) := by decide +kernel
theorem dl_637 : decode code 637 = .ok (.iconst 0, 1) := by decide +kernel
theorem dl_638 : decode code 638 = .ok (.laload, 1) := by decide +kernel
theorem dl_639 : decode code 639 = .ok (.iload 6, 2) := by decide +kernel
theorem dl_641 : decode code 641 = .ok (.i2l, 1) := by decide +kernel
theorem dl_642 : decode code 642 = .ok (.lcmp, 1) := by decide +kernel
theorem dl_643 : decode code 643 = .ok (.ifCond .eq 5, 3) := by decide +kernel
theorem dl_648 : decode code 648 = .ok (.goto 1881, 3) := by decide +kernel
set_option maxRecDepth 100000 in
theorem lc_depth (hst : l.stackTraces = false) (C : LCX l E p s m c b L xs) (hi : i + 5 < L) (hL : L ≤ 3072) (hk : k + 4 ≤ 601024 ∧ n + 24 ≤ 7293034) (hR : REL σ) (kk : ∀ σ2, REL σ2 → LW l E p e s m below meth c b Q (k + 4) (n + 24) 2529 (lo4 i) [] σ2) : LW l E p e s m below meth c b Q k n 583 (lo4 i) [] σ := by
  obtain ⟨tag, v, σ1, e1, H1⟩ := q_depth (xs (i + 1)) (xs (i + 2)) σ hR
  have ht : tag = 0 ∨ tag = 3 := by
    obtain ⟨w, σ2, -, h2, -⟩ := H1 σ1 (fun _ _ => rfl)
    exact (thr_k1 h2).2
  obtain ⟨w, σ2, e2, h2, h3, h4, h5⟩ := H1 _ (e54_w (σ1 := σ1) (tag := tag) (v := v))
  have hk1 : σ2 133 7 = kti [3] tag := (thr_k1 h2).1
  have hv : tag = 0 → σ2 154 0 = w := fun h => by
    rw [h5, if_pos h, su_s]
    exact h3 h
  refine lr_aload_n (pc := 583) C 0 dl_583 rfl rfl ?_
  refine lr_arg (pc := 584) (i := i) (j := 1) C 3 rfl (by omega) hL dl_584 dl_585 1 (by decide) dl_587 dl_588 dl_589 ?_
  refine lr_arg (pc := 590) (i := i) (j := 2) C 3 rfl (by omega) hL dl_590 dl_591 2 (by decide) dl_593 dl_594 dl_595 ?_
  refine lr_aload_n (pc := 596) C 2 dl_596 rfl rfl ?_
  refine lr_callW (pc := 597) (hh := hL_depth) (M' := mL_depth) (y := yL_depth) (ix := 154) (t := kti [3] tag) (σ2 := (if tag = 0 then su σ1 154 0 v else σ1)) (st := []) [.ref 0, .int (xs (i + 1)), .int (xs (i + 2)), .ref 154] C (tL_depth l hst (xs (i + 1)) (xs (i + 2)) σ tag v σ1 e1 ht) dl_597 rfl rfl kw_L_depth lk_L_154 (by decide) (Nat.zero_le _) (show k + 1 ≤ 601024 ∧ n + 6 ≤ 7293034 by omega) ?_
  refine lr_istore (pc := 600) C ((5, .int (kti [3] tag)) :: lo4 i) dl_600 (by decide) (by decide) rfl ?_
  refine lr_aload_n (pc := 602) C 2 dl_602 rfl rfl ?_
  refine lr_arg (pc := 603) (i := i) (j := 1) C 4 rfl (by omega) hL dl_603 dl_604 1 (by decide) dl_606 dl_607 dl_608 ?_
  refine lr_arg (pc := 609) (i := i) (j := 2) C 4 rfl (by omega) hL dl_609 dl_610 2 (by decide) dl_612 dl_613 dl_614 ?_
  refine lr_callV (pc := 615) (q := 133) (ci := 7) (o1 := (0, .int w, σ2)) (M' := mX7_depth) (y := yX7_depth) (ix := 156) (st := []) [.int (xs (i + 1)), .int (xs (i + 2))] C (tX7_depth l hst (xs (i + 1)) (xs (i + 2)) _ (w, σ2) e2) rfl dl_615 rfl ks_133 (show vwCl[7]? = some _ from rfl) yw_X7_depth lk_L_156 (by decide) (Nat.zero_le _) (show k + 1 + 0 ≤ 601024 ∧ n + 6 + 0 ≤ 7293034 by omega) ?_
  refine lr_istore (pc := 618) C ((6, .int w) :: (5, .int (kti [3] tag)) :: lo4 i) dl_618 (by decide) (by decide) rfl ?_
  exact lr_tail (pc := 620) (i := i) hst C hk1 hv (show k + 1 + 0 ≤ 601024 ∧ n + 6 + 0 ≤ 7293034 by omega) dl_620 dl_621 dl_624 dl_626 dl_631 dl_633 dl_636 dl_637 dl_638 dl_639 dl_641 dl_642 dl_643 dl_648 (by decide) (lr_widen (k + 4) (n + 24) (show k + 1 + 0 ≤ k + 4 by omega) (show n + 6 + 0 ≤ n + 24 by omega) (kk σ2 h4))
theorem dl_651 : decode code 651 = .ok (.aload_n 1, 1) := by decide +kernel
theorem dl_652 : decode code 652 = .ok (.aload_n 0, 1) := by decide +kernel
theorem dl_653 : decode code 653 = .ok (.iload 4, 2) := by decide +kernel
theorem dl_655 : decode code 655 = .ok (.iconst 1, 1) := by decide +kernel
theorem dl_656 : decode code 656 = .ok (.iadd, 1) := by decide +kernel
theorem dl_657 : decode code 657 = .ok (.iaload, 1) := by decide +kernel
theorem dl_658 : decode code 658 = .ok (.aload_n 3, 1) := by decide +kernel
theorem dl_659 : decode code 659 = .ok (.invokestatic 157, 3) := by decide +kernel
theorem dl_662 : decode code 662 = .ok (.istore 5, 2) := by decide +kernel
theorem dl_664 : decode code 664 = .ok (.aload_n 2, 1) := by decide +kernel
theorem dl_665 : decode code 665 = .ok (.aload_n 0, 1) := by decide +kernel
theorem dl_666 : decode code 666 = .ok (.iload 4, 2) := by decide +kernel
theorem dl_668 : decode code 668 = .ok (.iconst 1, 1) := by decide +kernel
theorem dl_669 : decode code 669 = .ok (.iadd, 1) := by decide +kernel
theorem dl_670 : decode code 670 = .ok (.iaload, 1) := by decide +kernel
theorem dl_671 : decode code 671 = .ok (.invokevirtual 159, 3) := by decide +kernel
theorem dl_674 : decode code 674 = .ok (.istore 6, 2) := by decide +kernel
theorem dl_676 : decode code 676 = .ok (.aload_n 2, 1) := by decide +kernel
theorem dl_677 : decode code 677 = .ok (.invokevirtual 125, 3) := by decide +kernel
theorem dl_680 : decode code 680 = .ok (.iload 5, 2) := by decide +kernel
theorem dl_682 : decode code 682 = .ok (.if_icmp .eq 5, 3) := by decide +kernel
theorem dl_687 : decode code 687 = .ok (.iload 5, 2) := by decide +kernel
theorem dl_689 : decode code 689 = .ok (.ifCond .ne 15, 3) := by decide +kernel
theorem dl_692 : decode code 692 = .ok (.aload_n 3, 1) := by decide +kernel
theorem dl_693 : decode code 693 = .ok (.iconst 0, 1) := by decide +kernel
theorem dl_694 : decode code 694 = .ok (.laload, 1) := by decide +kernel
theorem dl_695 : decode code 695 = .ok (.iload 6, 2) := by decide +kernel
theorem dl_697 : decode code 697 = .ok (.i2l, 1) := by decide +kernel
theorem dl_698 : decode code 698 = .ok (.lcmp, 1) := by decide +kernel
theorem dl_699 : decode code 699 = .ok (.ifCond .eq 5, 3) := by decide +kernel
theorem dl_704 : decode code 704 = .ok (.goto 1825, 3) := by decide +kernel
set_option maxRecDepth 100000 in
theorem lc_account (hst : l.stackTraces = false) (C : LCX l E p s m c b L xs) (hi : i + 5 < L) (hL : L ≤ 3072) (hk : k + 4 ≤ 601024 ∧ n + 24 ≤ 7293034) (hR : REL σ) (kk : ∀ σ2, REL σ2 → LW l E p e s m below meth c b Q (k + 4) (n + 24) 2529 (lo4 i) [] σ2) : LW l E p e s m below meth c b Q k n 651 (lo4 i) [] σ := by
  obtain ⟨tag, v, σ1, e1, H1⟩ := q_account (xs (i + 1)) σ hR
  have ht : tag = 0 ∨ tag = 1 := by
    obtain ⟨w, σ2, -, h2, -⟩ := H1 σ1 (fun _ _ => rfl)
    exact (thr_k1 h2).2
  obtain ⟨w, σ2, e2, h2, h3, h4, h5⟩ := H1 _ (e54_w (σ1 := σ1) (tag := tag) (v := v))
  have hk1 : σ2 133 7 = kti [1] tag := (thr_k1 h2).1
  have hv : tag = 0 → σ2 154 0 = w := fun h => by
    rw [h5, if_pos h, su_s]
    exact h3 h
  refine lr_aload_n (pc := 651) C 0 dl_651 rfl rfl ?_
  refine lr_arg (pc := 652) (i := i) (j := 1) C 3 rfl (by omega) hL dl_652 dl_653 1 (by decide) dl_655 dl_656 dl_657 ?_
  refine lr_aload_n (pc := 658) C 2 dl_658 rfl rfl ?_
  refine lr_callW (pc := 659) (hh := hL_account) (M' := mL_account) (y := yL_account) (ix := 157) (t := kti [1] tag) (σ2 := (if tag = 0 then su σ1 154 0 v else σ1)) (st := []) [.ref 0, .int (xs (i + 1)), .ref 154] C (tL_account l hst (xs (i + 1)) σ tag v σ1 e1 ht) dl_659 rfl rfl kw_L_account lk_L_157 (by decide) (Nat.zero_le _) (show k + 1 ≤ 601024 ∧ n + 6 ≤ 7293034 by omega) ?_
  refine lr_istore (pc := 662) C ((5, .int (kti [1] tag)) :: lo4 i) dl_662 (by decide) (by decide) rfl ?_
  refine lr_aload_n (pc := 664) C 2 dl_664 rfl rfl ?_
  refine lr_arg (pc := 665) (i := i) (j := 1) C 4 rfl (by omega) hL dl_665 dl_666 1 (by decide) dl_668 dl_669 dl_670 ?_
  refine lr_callV (pc := 671) (q := 133) (ci := 7) (o1 := (0, .int w, σ2)) (M' := mX7_account) (y := yX7_account) (ix := 159) (st := []) [.int (xs (i + 1))] C (tX7_account l hst (xs (i + 1)) _ (w, σ2) e2) rfl dl_671 rfl ks_133 (show vwCl[7]? = some _ from rfl) yw_X7_account lk_L_159 (by decide) (Nat.zero_le _) (show k + 1 + 0 ≤ 601024 ∧ n + 6 + 0 ≤ 7293034 by omega) ?_
  refine lr_istore (pc := 674) C ((6, .int w) :: (5, .int (kti [1] tag)) :: lo4 i) dl_674 (by decide) (by decide) rfl ?_
  exact lr_tail (pc := 676) (i := i) hst C hk1 hv (show k + 1 + 0 ≤ 601024 ∧ n + 6 + 0 ≤ 7293034 by omega) dl_676 dl_677 dl_680 dl_682 dl_687 dl_689 dl_692 dl_693 dl_694 dl_695 dl_697 dl_698 dl_699 dl_704 (by decide) (lr_widen (k + 4) (n + 24) (show k + 1 + 0 ≤ k + 4 by omega) (show n + 6 + 0 ≤ n + 24 by omega) (kk σ2 h4))
end LC0
