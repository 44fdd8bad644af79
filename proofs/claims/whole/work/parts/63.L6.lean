/-! the law's cases -/
section LC4
variable {l : Launch} {E : KE} {p : Program} {e : Env} {s : State} {m : MethodId} {below : List Frame} {meth : Method} {c : Code} {b L : Nat} {xs : Nat → Int32} {Q : State → Prop} {k n i : Nat} {σ : Sto}
theorem dl_2363 : decode code 2363 = .ok (.aload_n 1, 1) := by decide +kernel
theorem dl_2364 : decode code 2364 = .ok (.invokevirtual 263, 3) := by decide +kernel
theorem dl_2367 : decode code 2367 = .ok (.f2d, 1) := by decide +kernel
theorem dl_2368 : decode code 2368 = .ok (.dstore 5, 2) := by decide +kernel
theorem dl_2370 : decode code 2370 = .ok (.aload_n 2, 1) := by decide +kernel
theorem dl_2371 : decode code 2371 = .ok (.invokevirtual 267, 3) := by decide +kernel
theorem dl_2374 : decode code 2374 = .ok (.f2d, 1) := by decide +kernel
theorem dl_2375 : decode code 2375 = .ok (.dstore 7, 2) := by decide +kernel
theorem dl_2377 : decode code 2377 = .ok (.dload 5, 2) := by decide +kernel
theorem dl_2379 : decode code 2379 = .ok (.dload 7, 2) := by decide +kernel
theorem dl_2381 : decode code 2381 = .ok (.dcmp .l, 1) := by decide +kernel
theorem dl_2382 : decode code 2382 = .ok (.ifCond .eq 21, 3) := by decide +kernel
theorem dl_2385 : decode code 2385 = .ok (.dload 5, 2) := by decide +kernel
theorem dl_2387 : decode code 2387 = .ok (.dload 5, 2) := by decide +kernel
theorem dl_2389 : decode code 2389 = .ok (.dcmp .l, 1) := by decide +kernel
theorem dl_2390 : decode code 2390 = .ok (.ifCond .eq 11, 3) := by decide +kernel
theorem dl_2393 : decode code 2393 = .ok (.dload 7, 2) := by decide +kernel
theorem dl_2395 : decode code 2395 = .ok (.dload 7, 2) := by decide +kernel
theorem dl_2397 : decode code 2397 = .ok (.dcmp .l, 1) := by decide +kernel
theorem dl_2398 : decode code 2398 = .ok (.ifCond .ne 5, 3) := by decide +kernel
theorem dl_2403 : decode code 2403 = .ok (.goto 126, 3) := by decide +kernel
set_option maxRecDepth 100000 in
theorem lc_filled (hst : l.stackTraces = false) (C : LCX l E p s m c b L xs) (hi : i + 5 < L) (hL : L ≤ 3072) (hk : k + 4 ≤ 601024 ∧ n + 24 ≤ 7293034) (hR : REL σ) (kk : ∀ σ2, REL σ2 → LW l E p e s m below meth c b Q (k + 4) (n + 24) 2529 (lo4 i) [] σ2) : LW l E p e s m below meth c b Q k n 2363 (lo4 i) [] σ := by
  obtain ⟨v, σ1, e1, H1⟩ := q_filled σ hR
  obtain ⟨σ2, e2, h4, h5⟩ := H1 σ1 (fun _ _ => rfl)
  have e1p : (fX6_filled σ).bind (fun r => some (r, σ)) = some (v, σ1) := e1
  obtain ⟨e0, hs1⟩ : fX6_filled σ = some v ∧ σ1 = σ := by
    cases hf : fX6_filled σ with
    | none => rw [hf] at e1p; cases e1p
    | some r => rw [hf, Option.bind_some] at e1p; cases e1p; exact ⟨rfl, rfl⟩
  subst hs1
  have hne : vf_n64 (FP.f2d v) := filled_n64 e0
  refine lr_aload_n (pc := 2363) C 0 dl_2363 rfl rfl ?_
  refine lr_callV (pc := 2364) (q := 0) (ci := 6) (o1 := (0, .float v, σ1)) (M' := mX6_filled) (y := yX6_filled) (ix := 263) (st := []) [] C (tX6_filled l hst σ1 v e0) rfl dl_2364 rfl ks_0 (show vwCl[6]? = some _ from rfl) yw_X6_filled lk_L_263 (by decide) (show _ ≤ 8 from Nat.le_of_ble_eq_true rfl) (show k + 0 ≤ 601024 ∧ n + 0 ≤ 7293034 by omega) ?_
  refine lr_f2d (pc := 2367) C dl_2367 hne ?_
  refine lr_dstore (pc := 2368) (x := FP.f2d v) C ((5, .double (FP.f2d v)) :: lo4 i) dl_2368 (by decide) (by decide) rfl ?_
  refine lr_aload_n (pc := 2370) C 2 dl_2370 rfl rfl ?_
  refine lr_callV (pc := 2371) (q := 133) (ci := 7) (o1 := (0, .float v, σ2)) (M' := mX7_filled) (y := yX7_filled) (ix := 267) (st := []) [] C (tX7_filled l hst _ (v, σ2) e2) rfl dl_2371 rfl ks_133 (show vwCl[7]? = some _ from rfl) yw_X7_filled lk_L_267 (by decide) (show _ ≤ 8 from Nat.le_of_ble_eq_true rfl) (show k + 0 + 0 ≤ 601024 ∧ n + 0 + 0 ≤ 7293034 by omega) ?_
  refine lr_f2d (pc := 2374) C dl_2374 hne ?_
  refine lr_dstore (pc := 2375) (x := FP.f2d v) C ((7, .double (FP.f2d v)) :: (5, .double (FP.f2d v)) :: lo4 i) dl_2375 (by decide) (by decide) rfl ?_
  have hend : LW l E p e s m below meth c b Q (k + 0 + 0) (n + 0 + 0) 2403 ((7, .double (FP.f2d v)) :: (5, .double (FP.f2d v)) :: lo4 i) [] σ2 := lr_goto (pc := 2403) (tgt := 2529) C dl_2403 (by decide) (lr_sub (lo4 i) [2, 3, 4, 5] rfl (lr_widen (k + 4) (n + 24) (show k + 0 + 0 ≤ k + 4 by omega) (show n + 0 + 0 ≤ n + 24 by omega) (kk σ2 h4)))
  refine lr_dload (pc := 2377) C 1 dl_2377 rfl ?_
  refine lr_dload (pc := 2379) C 0 dl_2379 rfl ?_
  refine lr_dcmp (pc := 2381) C dl_2381 ?_
  refine lr_if_eq (pc := 2382) (tgt := 2403) C dl_2382 (by decide) (fun _ => hend) (fun h0 => ?_)
  refine lr_dload (pc := 2385) C 1 dl_2385 rfl ?_
  refine lr_dload (pc := 2387) C 1 dl_2387 rfl ?_
  refine lr_dcmp (pc := 2389) C dl_2389 ?_
  refine lr_if_eq (pc := 2390) (tgt := 2401) C dl_2390 (by decide) (fun h => absurd h h0) (fun _ => ?_)
  refine lr_dload (pc := 2393) C 0 dl_2393 rfl ?_
  refine lr_dload (pc := 2395) C 0 dl_2395 rfl ?_
  refine lr_dcmp (pc := 2397) C dl_2397 ?_
  exact lr_if_ne (pc := 2398) (tgt := 2403) C dl_2398 (by decide) (fun _ => hend) (fun h => absurd h h0)
theorem dl_2406 : decode code 2406 = .ok (.aload_n 1, 1) := by decide +kernel
theorem dl_2407 : decode code 2407 = .ok (.invokevirtual 268, 3) := by decide +kernel
theorem dl_2410 : decode code 2410 = .ok (.aload_n 2, 1) := by decide +kernel
theorem dl_2411 : decode code 2411 = .ok (.invokevirtual 271, 3) := by decide +kernel
theorem dl_2414 : decode code 2414 = .ok (.if_icmp .eq 115, 3) := by decide +kernel
set_option maxRecDepth 100000 in
theorem lc_write (hst : l.stackTraces = false) (C : LCX l E p s m c b L xs) (hi : i + 5 < L) (hL : L ≤ 3072) (hk : k + 4 ≤ 601024 ∧ n + 24 ≤ 7293034) (hR : REL σ) (kk : ∀ σ2, REL σ2 → LW l E p e s m below meth c b Q (k + 4) (n + 24) 2529 (lo4 i) [] σ2) : LW l E p e s m below meth c b Q k n 2406 (lo4 i) [] σ := by
  obtain ⟨tag, v, σ1, e1, H1⟩ := q_write  σ hR
  obtain ⟨e0, ht⟩ := liS_inv e1
  obtain ⟨w, σ2, e2, h2, h3, h4, h5⟩ := H1 σ1 (fun _ _ => rfl)
  have hvw : v = w := h3 ht
  subst hvw
  refine lr_aload_n (pc := 2406) C 0 dl_2406 rfl rfl ?_
  refine lr_callV (pc := 2407) (q := 0) (ci := 6) (o1 := (0, .int v, σ1)) (M' := mX6_write) (y := yX6_write) (ix := 268) (st := []) [] C (tX6_write l hst  σ (v, σ1) e0) rfl dl_2407 rfl ks_0 (show vwCl[6]? = some _ from rfl) yw_X6_write lk_L_268 (by decide) (show _ ≤ 8 from Nat.le_of_ble_eq_true rfl) (show k + 0 ≤ 601024 ∧ n + 0 ≤ 7293034 by omega) ?_
  refine lr_aload_n (pc := 2410) C 1 dl_2410 rfl rfl ?_
  refine lr_callV (pc := 2411) (q := 133) (ci := 7) (o1 := (0, .int v, σ2)) (M' := mX7_write) (y := yX7_write) (ix := 271) (st := [.int v]) [] C (tX7_write l hst  σ1 (v, σ2) e2) rfl dl_2411 rfl ks_133 (show vwCl[7]? = some _ from rfl) yw_X7_write lk_L_271 (by decide) (show _ ≤ 8 from Nat.le_of_ble_eq_true rfl) (show k + 0 + 0 ≤ 601024 ∧ n + 0 + 0 ≤ 7293034 by omega) ?_
  refine lr_icmp_eq (pc := 2414) (tgt := 2529) C rfl dl_2414 (by decide) ?_
  exact lr_widen (k + 4) (n + 24) (show k + 0 + 0 ≤ k + 4 by omega) (show n + 0 + 0 ≤ n + 24 by omega) (kk σ2 h4)
theorem dl_2419 : decode code 2419 = .ok (.aload_n 1, 1) := by decide +kernel
theorem dl_2420 : decode code 2420 = .ok (.aload_n 0, 1) := by decide +kernel
theorem dl_2421 : decode code 2421 = .ok (.iload 4, 2) := by decide +kernel
theorem dl_2423 : decode code 2423 = .ok (.iconst 1, 1) := by decide +kernel
theorem dl_2424 : decode code 2424 = .ok (.iadd, 1) := by decide +kernel
theorem dl_2425 : decode code 2425 = .ok (.iaload, 1) := by decide +kernel
theorem dl_2426 : decode code 2426 = .ok (.invokevirtual 272, 3) := by decide +kernel
theorem dl_2429 : decode code 2429 = .ok (.aload_n 2, 1) := by decide +kernel
theorem dl_2430 : decode code 2430 = .ok (.aload_n 0, 1) := by decide +kernel
theorem dl_2431 : decode code 2431 = .ok (.iload 4, 2) := by decide +kernel
theorem dl_2433 : decode code 2433 = .ok (.iconst 1, 1) := by decide +kernel
theorem dl_2434 : decode code 2434 = .ok (.iadd, 1) := by decide +kernel
theorem dl_2435 : decode code 2435 = .ok (.iaload, 1) := by decide +kernel
theorem dl_2436 : decode code 2436 = .ok (.invokevirtual 275, 3) := by decide +kernel
theorem dl_2439 : decode code 2439 = .ok (.if_icmp .eq 90, 3) := by decide +kernel
set_option maxRecDepth 100000 in
theorem lc_output (hst : l.stackTraces = false) (C : LCX l E p s m c b L xs) (hi : i + 5 < L) (hL : L ≤ 3072) (hk : k + 4 ≤ 601024 ∧ n + 24 ≤ 7293034) (hR : REL σ) (kk : ∀ σ2, REL σ2 → LW l E p e s m below meth c b Q (k + 4) (n + 24) 2529 (lo4 i) [] σ2) : LW l E p e s m below meth c b Q k n 2419 (lo4 i) [] σ := by
  obtain ⟨tag, v, σ1, e1, H1⟩ := q_output (xs (i + 1)) σ hR
  obtain ⟨e0, hs1, ht⟩ := liI_inv e1
  subst hs1
  obtain ⟨w, σ2, e2, h2, h3, h4, h5⟩ := H1 σ1 (fun _ _ => rfl)
  have hvw : v = w := h3 ht
  subst hvw
  refine lr_aload_n (pc := 2419) C 0 dl_2419 rfl rfl ?_
  refine lr_arg (pc := 2420) (i := i) (j := 1) C 3 rfl (by omega) hL dl_2420 dl_2421 1 (by decide) dl_2423 dl_2424 dl_2425 ?_
  refine lr_callV (pc := 2426) (q := 0) (ci := 6) (o1 := (0, .int v, σ1)) (M' := mX6_output) (y := yX6_output) (ix := 272) (st := []) [.int (xs (i + 1))] C (tX6_output l hst (xs (i + 1)) σ1 v e0) rfl dl_2426 rfl ks_0 (show vwCl[6]? = some _ from rfl) yw_X6_output lk_L_272 (by decide) (show _ ≤ 8 from Nat.le_of_ble_eq_true rfl) (show k + 0 ≤ 601024 ∧ n + 0 ≤ 7293034 by omega) ?_
  refine lr_aload_n (pc := 2429) C 1 dl_2429 rfl rfl ?_
  refine lr_arg (pc := 2430) (i := i) (j := 1) C 3 rfl (by omega) hL dl_2430 dl_2431 1 (by decide) dl_2433 dl_2434 dl_2435 ?_
  refine lr_callV (pc := 2436) (q := 133) (ci := 7) (o1 := (0, .int v, σ2)) (M' := mX7_output) (y := yX7_output) (ix := 275) (st := [.int v]) [.int (xs (i + 1))] C (tX7_output l hst (xs (i + 1)) σ1 (v, σ2) e2) rfl dl_2436 rfl ks_133 (show vwCl[7]? = some _ from rfl) yw_X7_output lk_L_275 (by decide) (show _ ≤ 8 from Nat.le_of_ble_eq_true rfl) (show k + 0 + 0 ≤ 601024 ∧ n + 0 + 0 ≤ 7293034 by omega) ?_
  refine lr_icmp_eq (pc := 2439) (tgt := 2529) C rfl dl_2439 (by decide) ?_
  exact lr_widen (k + 4) (n + 24) (show k + 0 + 0 ≤ k + 4 by omega) (show n + 0 + 0 ≤ n + 24 by omega) (kk σ2 h4)
theorem dl_2444 : decode code 2444 = .ok (.aload_n 1, 1) := by decide +kernel
theorem dl_2445 : decode code 2445 = .ok (.invokevirtual 276, 3) := by decide +kernel
theorem dl_2448 : decode code 2448 = .ok (.aload_n 2, 1) := by decide +kernel
theorem dl_2449 : decode code 2449 = .ok (.invokevirtual 279, 3) := by decide +kernel
theorem dl_2452 : decode code 2452 = .ok (.if_icmp .eq 77, 3) := by decide +kernel
set_option maxRecDepth 100000 in
theorem lc_undo (hst : l.stackTraces = false) (C : LCX l E p s m c b L xs) (hi : i + 5 < L) (hL : L ≤ 3072) (hk : k + 4 ≤ 601024 ∧ n + 24 ≤ 7293034) (hR : REL σ) (kk : ∀ σ2, REL σ2 → LW l E p e s m below meth c b Q (k + 4) (n + 24) 2529 (lo4 i) [] σ2) : LW l E p e s m below meth c b Q k n 2444 (lo4 i) [] σ := by
  obtain ⟨tag, v, σ1, e1, H1⟩ := q_undo  σ hR
  obtain ⟨e0, ht⟩ := liS_inv e1
  obtain ⟨w, σ2, e2, h2, h3, h4, h5⟩ := H1 σ1 (fun _ _ => rfl)
  have hvw : v = w := h3 ht
  subst hvw
  refine lr_aload_n (pc := 2444) C 0 dl_2444 rfl rfl ?_
  refine lr_callV (pc := 2445) (q := 0) (ci := 6) (o1 := (0, .int v, σ1)) (M' := mX6_undo) (y := yX6_undo) (ix := 276) (st := []) [] C (tX6_undo l hst  σ (v, σ1) e0) rfl dl_2445 rfl ks_0 (show vwCl[6]? = some _ from rfl) yw_X6_undo lk_L_276 (by decide) (show _ ≤ 8 from Nat.le_of_ble_eq_true rfl) (show k + 0 ≤ 601024 ∧ n + 0 ≤ 7293034 by omega) ?_
  refine lr_aload_n (pc := 2448) C 1 dl_2448 rfl rfl ?_
  refine lr_callV (pc := 2449) (q := 133) (ci := 7) (o1 := (0, .int v, σ2)) (M' := mX7_undo) (y := yX7_undo) (ix := 279) (st := [.int v]) [] C (tX7_undo l hst  σ1 (v, σ2) e2) rfl dl_2449 rfl ks_133 (show vwCl[7]? = some _ from rfl) yw_X7_undo lk_L_279 (by decide) (show _ ≤ 8 from Nat.le_of_ble_eq_true rfl) (show k + 0 + 0 ≤ 601024 ∧ n + 0 + 0 ≤ 7293034 by omega) ?_
  refine lr_icmp_eq (pc := 2452) (tgt := 2529) C rfl dl_2452 (by decide) ?_
  exact lr_widen (k + 4) (n + 24) (show k + 0 + 0 ≤ k + 4 by omega) (show n + 0 + 0 ≤ n + 24 by omega) (kk σ2 h4)
theorem dl_2457 : decode code 2457 = .ok (.aload_n 1, 1) := by decide +kernel
theorem dl_2458 : decode code 2458 = .ok (.aload_n 0, 1) := by decide +kernel
theorem dl_2459 : decode code 2459 = .ok (.iload 4, 2) := by decide +kernel
theorem dl_2461 : decode code 2461 = .ok (.iconst 1, 1) := by decide +kernel
theorem dl_2462 : decode code 2462 = .ok (.iadd, 1) := by decide +kernel
theorem dl_2463 : decode code 2463 = .ok (.iaload, 1) := by decide +kernel
theorem dl_2464 : decode code 2464 = .ok (.invokestatic 280, 3) := by decide +kernel
theorem dl_2467 : decode code 2467 = .ok (.istore 5, 2) := by decide +kernel
theorem dl_2469 : decode code 2469 = .ok (.aload_n 2, 1) := by decide +kernel
theorem dl_2470 : decode code 2470 = .ok (.aload_n 0, 1) := by decide +kernel
theorem dl_2471 : decode code 2471 = .ok (.iload 4, 2) := by decide +kernel
theorem dl_2473 : decode code 2473 = .ok (.iconst 1, 1) := by decide +kernel
theorem dl_2474 : decode code 2474 = .ok (.iadd, 1) := by decide +kernel
theorem dl_2475 : decode code 2475 = .ok (.iaload, 1) := by decide +kernel
theorem dl_2476 : decode code 2476 = .ok (.invokevirtual 283, 3) := by decide +kernel
theorem dl_2479 : decode code 2479 = .ok (.aload_n 2, 1) := by decide +kernel
theorem dl_2480 : decode code 2480 = .ok (.invokevirtual 125, 3) := by decide +kernel
theorem dl_2483 : decode code 2483 = .ok (.iload 5, 2) := by decide +kernel
theorem dl_2485 : decode code 2485 = .ok (.if_icmp .eq 5, 3) := by decide +kernel
theorem dl_2490 : decode code 2490 = .ok (.goto 39, 3) := by decide +kernel
set_option maxRecDepth 100000 in
theorem lc_save (hst : l.stackTraces = false) (C : LCX l E p s m c b L xs) (hi : i + 5 < L) (hL : L ≤ 3072) (hk : k + 4 ≤ 601024 ∧ n + 24 ≤ 7293034) (hR : REL σ) (kk : ∀ σ2, REL σ2 → LW l E p e s m below meth c b Q (k + 4) (n + 24) 2529 (lo4 i) [] σ2) : LW l E p e s m below meth c b Q k n 2457 (lo4 i) [] σ := by
  obtain ⟨tag, v, σ1, e1, H1⟩ := q_save (xs (i + 1)) σ hR
  have ht : tag = 0 ∨ tag = 1 := by
    obtain ⟨w, σ2, -, h2, -⟩ := H1 σ1 (fun _ _ => rfl)
    exact (thr_k1 h2).2
  obtain ⟨w, σ2, e2, h2, h3, h4, h5⟩ := H1 σ1 (fun _ _ => rfl)
  have hk1 : σ2 133 7 = kti [1] tag := (thr_k1 h2).1
  refine lr_aload_n (pc := 2457) C 0 dl_2457 rfl rfl ?_
  refine lr_arg (pc := 2458) (i := i) (j := 1) C 3 rfl (by omega) hL dl_2458 dl_2459 1 (by decide) dl_2461 dl_2462 dl_2463 ?_
  refine lr_callW (pc := 2464) (hh := hL_save) (M' := mL_save) (y := yL_save) (ix := 280) (t := kti [1] tag) (σ2 := σ1) (st := []) [.ref 0, .int (xs (i + 1))] C (tL_save l hst (xs (i + 1)) σ tag v σ1 e1 ht) dl_2464 rfl rfl kw_L_save lk_L_280 (by decide) (Nat.zero_le _) (show k + 1 ≤ 601024 ∧ n + 6 ≤ 7293034 by omega) ?_
  refine lr_istore (pc := 2467) C ((5, .int (kti [1] tag)) :: lo4 i) dl_2467 (by decide) (by decide) rfl ?_
  refine lr_aload_n (pc := 2469) C 2 dl_2469 rfl rfl ?_
  refine lr_arg (pc := 2470) (i := i) (j := 1) C 4 rfl (by omega) hL dl_2470 dl_2471 1 (by decide) dl_2473 dl_2474 dl_2475 ?_
  have e2p : liV (fX7_save (xs (i + 1)) σ1) = some (w, σ2) := e2
  have e3 : fX7_save (xs (i + 1)) σ1 = some σ2 := by
    unfold liV at e2p
    cases hf : fX7_save (xs (i + 1)) σ1 with
    | none => rw [hf] at e2p; cases e2p
    | some r => rw [hf, Option.bind_some] at e2p; cases e2p; rfl
  refine lr_callV (pc := 2476) (q := 133) (ci := 7) (o1 := (0, .int 0, σ2)) (M' := mX7_save) (y := yX7_save) (ix := 283) (st := []) [.int (xs (i + 1))] C (tX7_save l hst (xs (i + 1)) σ1 σ2 e3) rfl dl_2476 rfl ks_133 (show vwCl[7]? = some _ from rfl) yw_X7_save lk_L_283 (by decide) (Nat.zero_le _) (show k + 1 + 0 ≤ 601024 ∧ n + 6 + 0 ≤ 7293034 by omega) ?_
  refine lr_aload_n (pc := 2479) C 2 dl_2479 rfl rfl ?_
  refine lr_callV (pc := 2480) (q := 133) (ci := 7) (o1 := (0, .int (fX7_thrown σ2), σ2)) (M' := mX7_thrown) (y := yX7_thrown) (ix := 125) (st := []) [] C (tX7_thrown l hst σ2) rfl dl_2480 rfl ks_133 (show vwCl[7]? = some _ from rfl) yw_X7_thrown lk_L_125 (by decide) (Nat.zero_le _) (show k + 1 + 0 ≤ 601024 ∧ n + 6 + 0 ≤ 7293034 by omega) ?_
  refine lr_iload (pc := 2483) C 0 dl_2483 rfl ?_
  refine lr_icmp_eq (pc := 2485) (tgt := 2490) C hk1 dl_2485 (by decide) ?_
  refine lr_goto (pc := 2490) (tgt := 2529) C dl_2490 (by decide) ?_
  exact lr_sub (lo4 i) [1, 2, 3, 4] rfl (lr_widen (k + 4) (n + 24) (show k + 1 + 0 ≤ k + 4 by omega) (show n + 6 + 0 ≤ n + 24 by omega) (kk σ2 h4))
theorem dl_2493 : decode code 2493 = .ok (.aload_n 1, 1) := by decide +kernel
theorem dl_2494 : decode code 2494 = .ok (.aload_n 0, 1) := by decide +kernel
theorem dl_2495 : decode code 2495 = .ok (.iload 4, 2) := by decide +kernel
theorem dl_2497 : decode code 2497 = .ok (.iconst 1, 1) := by decide +kernel
theorem dl_2498 : decode code 2498 = .ok (.iadd, 1) := by decide +kernel
theorem dl_2499 : decode code 2499 = .ok (.iaload, 1) := by decide +kernel
theorem dl_2500 : decode code 2500 = .ok (.invokestatic 284, 3) := by decide +kernel
theorem dl_2503 : decode code 2503 = .ok (.istore 5, 2) := by decide +kernel
theorem dl_2505 : decode code 2505 = .ok (.aload_n 2, 1) := by decide +kernel
theorem dl_2506 : decode code 2506 = .ok (.aload_n 0, 1) := by decide +kernel
theorem dl_2507 : decode code 2507 = .ok (.iload 4, 2) := by decide +kernel
theorem dl_2509 : decode code 2509 = .ok (.iconst 1, 1) := by decide +kernel
theorem dl_2510 : decode code 2510 = .ok (.iadd, 1) := by decide +kernel
theorem dl_2511 : decode code 2511 = .ok (.iaload, 1) := by decide +kernel
theorem dl_2512 : decode code 2512 = .ok (.invokevirtual 286, 3) := by decide +kernel
theorem dl_2515 : decode code 2515 = .ok (.aload_n 2, 1) := by decide +kernel
theorem dl_2516 : decode code 2516 = .ok (.invokevirtual 125, 3) := by decide +kernel
theorem dl_2519 : decode code 2519 = .ok (.iload 5, 2) := by decide +kernel
theorem dl_2521 : decode code 2521 = .ok (.if_icmp .eq 5, 3) := by decide +kernel
theorem dl_2526 : decode code 2526 = .ok (.goto 3, 3) := by decide +kernel
set_option maxRecDepth 100000 in
theorem lc_restore (hst : l.stackTraces = false) (C : LCX l E p s m c b L xs) (hi : i + 5 < L) (hL : L ≤ 3072) (hk : k + 4 ≤ 601024 ∧ n + 24 ≤ 7293034) (hR : REL σ) (kk : ∀ σ2, REL σ2 → LW l E p e s m below meth c b Q (k + 4) (n + 24) 2529 (lo4 i) [] σ2) : LW l E p e s m below meth c b Q k n 2493 (lo4 i) [] σ := by
  obtain ⟨tag, v, σ1, e1, H1⟩ := q_restore (xs (i + 1)) σ hR
  have ht : tag = 0 ∨ tag = 1 ∨ tag = 2 := by
    obtain ⟨w, σ2, -, h2, -⟩ := H1 σ1 (fun _ _ => rfl)
    exact (thr_k2 (by decide) h2).2
  obtain ⟨w, σ2, e2, h2, h3, h4, h5⟩ := H1 σ1 (fun _ _ => rfl)
  have hk1 : σ2 133 7 = kti [1, 2] tag := (thr_k2 (by decide) h2).1
  refine lr_aload_n (pc := 2493) C 0 dl_2493 rfl rfl ?_
  refine lr_arg (pc := 2494) (i := i) (j := 1) C 3 rfl (by omega) hL dl_2494 dl_2495 1 (by decide) dl_2497 dl_2498 dl_2499 ?_
  refine lr_callW (pc := 2500) (hh := hL_restore) (M' := mL_restore) (y := yL_restore) (ix := 284) (t := kti [1, 2] tag) (σ2 := σ1) (st := []) [.ref 0, .int (xs (i + 1))] C (tL_restore l hst (xs (i + 1)) σ tag v σ1 e1 ht) dl_2500 rfl rfl kw_L_restore lk_L_284 (by decide) (Nat.zero_le _) (show k + 2 ≤ 601024 ∧ n + 12 ≤ 7293034 by omega) ?_
  refine lr_istore (pc := 2503) C ((5, .int (kti [1, 2] tag)) :: lo4 i) dl_2503 (by decide) (by decide) rfl ?_
  refine lr_aload_n (pc := 2505) C 2 dl_2505 rfl rfl ?_
  refine lr_arg (pc := 2506) (i := i) (j := 1) C 4 rfl (by omega) hL dl_2506 dl_2507 1 (by decide) dl_2509 dl_2510 dl_2511 ?_
  have e2p : liV (fX7_restore (xs (i + 1)) σ1) = some (w, σ2) := e2
  have e3 : fX7_restore (xs (i + 1)) σ1 = some σ2 := by
    unfold liV at e2p
    cases hf : fX7_restore (xs (i + 1)) σ1 with
    | none => rw [hf] at e2p; cases e2p
    | some r => rw [hf, Option.bind_some] at e2p; cases e2p; rfl
  refine lr_callV (pc := 2512) (q := 133) (ci := 7) (o1 := (0, .int 0, σ2)) (M' := mX7_restore) (y := yX7_restore) (ix := 286) (st := []) [.int (xs (i + 1))] C (tX7_restore l hst (xs (i + 1)) σ1 σ2 e3) rfl dl_2512 rfl ks_133 (show vwCl[7]? = some _ from rfl) yw_X7_restore lk_L_286 (by decide) (Nat.zero_le _) (show k + 2 + 0 ≤ 601024 ∧ n + 12 + 0 ≤ 7293034 by omega) ?_
  refine lr_aload_n (pc := 2515) C 2 dl_2515 rfl rfl ?_
  refine lr_callV (pc := 2516) (q := 133) (ci := 7) (o1 := (0, .int (fX7_thrown σ2), σ2)) (M' := mX7_thrown) (y := yX7_thrown) (ix := 125) (st := []) [] C (tX7_thrown l hst σ2) rfl dl_2516 rfl ks_133 (show vwCl[7]? = some _ from rfl) yw_X7_thrown lk_L_125 (by decide) (Nat.zero_le _) (show k + 2 + 0 ≤ 601024 ∧ n + 12 + 0 ≤ 7293034 by omega) ?_
  refine lr_iload (pc := 2519) C 0 dl_2519 rfl ?_
  refine lr_icmp_eq (pc := 2521) (tgt := 2526) C hk1 dl_2521 (by decide) ?_
  refine lr_goto (pc := 2526) (tgt := 2529) C dl_2526 (by decide) ?_
  exact lr_sub (lo4 i) [1, 2, 3, 4] rfl (lr_widen (k + 4) (n + 24) (show k + 2 + 0 ≤ k + 4 by omega) (show n + 12 + 0 ≤ n + 24 by omega) (kk σ2 h4))
end LC4
