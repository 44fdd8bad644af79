/-! the law's cases -/
section LC2
variable {l : Launch} {E : KE} {p : Program} {e : Env} {s : State} {m : MethodId} {below : List Frame} {meth : Method} {c : Code} {b L : Nat} {xs : Nat → Int32} {Q : State → Prop} {k n i : Nat} {σ : Sto}
theorem dl_1324 : decode code 1324 = .ok (.aload_n 1, 1) := by decide +kernel
theorem dl_1325 : decode code 1325 = .ok (.invokevirtual 192, 3) := by decide +kernel
theorem dl_1328 : decode code 1328 = .ok (.aload_n 2, 1) := by decide +kernel
theorem dl_1329 : decode code 1329 = .ok (.invokevirtual 195, 3) := by decide +kernel
theorem dl_1332 : decode code 1332 = .ok (.if_icmp .eq 1197, 3) := by decide +kernel
set_option maxRecDepth 100000 in
theorem lc_light (hst : l.stackTraces = false) (C : LCX l E p s m c b L xs) (hi : i + 5 < L) (hL : L ≤ 3072) (hk : k + 4 ≤ 601024 ∧ n + 24 ≤ 7293034) (hR : REL σ) (kk : ∀ σ2, REL σ2 → LW l E p e s m below meth c b Q (k + 4) (n + 24) 2529 (lo4 i) [] σ2) : LW l E p e s m below meth c b Q k n 1324 (lo4 i) [] σ := by
  obtain ⟨tag, v, σ1, e1, H1⟩ := q_light  σ hR
  obtain ⟨e0, ht⟩ := liS_inv e1
  obtain ⟨w, σ2, e2, h2, h3, h4, h5⟩ := H1 σ1 (fun _ _ => rfl)
  have hvw : v = w := h3 ht
  subst hvw
  refine lr_aload_n (pc := 1324) C 0 dl_1324 rfl rfl ?_
  refine lr_callV (pc := 1325) (q := 0) (ci := 6) (o1 := (0, .int v, σ1)) (M' := mX6_light) (y := yX6_light) (ix := 192) (st := []) [] C (tX6_light l hst  σ (v, σ1) e0) rfl dl_1325 rfl ks_0 (show vwCl[6]? = some _ from rfl) yw_X6_light lk_L_192 (by decide) (show _ ≤ 8 from Nat.le_of_ble_eq_true rfl) (show k + 0 ≤ 601024 ∧ n + 0 ≤ 7293034 by omega) ?_
  refine lr_aload_n (pc := 1328) C 1 dl_1328 rfl rfl ?_
  refine lr_callV (pc := 1329) (q := 133) (ci := 7) (o1 := (0, .int v, σ2)) (M' := mX7_light) (y := yX7_light) (ix := 195) (st := [.int v]) [] C (tX7_light l hst  σ1 (v, σ2) e2) rfl dl_1329 rfl ks_133 (show vwCl[7]? = some _ from rfl) yw_X7_light lk_L_195 (by decide) (show _ ≤ 8 from Nat.le_of_ble_eq_true rfl) (show k + 0 + 0 ≤ 601024 ∧ n + 0 + 0 ≤ 7293034 by omega) ?_
  refine lr_icmp_eq (pc := 1332) (tgt := 2529) C rfl dl_1332 (by decide) ?_
  exact lr_widen (k + 4) (n + 24) (show k + 0 + 0 ≤ k + 4 by omega) (show n + 0 + 0 ≤ n + 24 by omega) (kk σ2 h4)
theorem dl_1337 : decode code 1337 = .ok (.aload_n 1, 1) := by decide +kernel
theorem dl_1338 : decode code 1338 = .ok (.invokevirtual 196, 3) := by decide +kernel
theorem dl_1341 : decode code 1341 = .ok (.aload_n 2, 1) := by decide +kernel
theorem dl_1342 : decode code 1342 = .ok (.invokevirtual 199, 3) := by decide +kernel
theorem dl_1345 : decode code 1345 = .ok (.if_icmp .eq 1184, 3) := by decide +kernel
set_option maxRecDepth 100000 in
theorem lc_symmetries (hst : l.stackTraces = false) (C : LCX l E p s m c b L xs) (hi : i + 5 < L) (hL : L ≤ 3072) (hk : k + 4 ≤ 601024 ∧ n + 24 ≤ 7293034) (hR : REL σ) (kk : ∀ σ2, REL σ2 → LW l E p e s m below meth c b Q (k + 4) (n + 24) 2529 (lo4 i) [] σ2) : LW l E p e s m below meth c b Q k n 1337 (lo4 i) [] σ := by
  obtain ⟨tag, v, σ1, e1, H1⟩ := q_symmetries  σ hR
  obtain ⟨e0, ht⟩ := liS_inv e1
  obtain ⟨w, σ2, e2, h2, h3, h4, h5⟩ := H1 σ1 (fun _ _ => rfl)
  have hvw : v = w := h3 ht
  subst hvw
  refine lr_aload_n (pc := 1337) C 0 dl_1337 rfl rfl ?_
  refine lr_callV (pc := 1338) (q := 0) (ci := 6) (o1 := (0, .int v, σ1)) (M' := mX6_symmetries) (y := yX6_symmetries) (ix := 196) (st := []) [] C (tX6_symmetries l hst  σ (v, σ1) e0) rfl dl_1338 rfl ks_0 (show vwCl[6]? = some _ from rfl) yw_X6_symmetries lk_L_196 (by decide) (show _ ≤ 8 from Nat.le_of_ble_eq_true rfl) (show k + 0 ≤ 601024 ∧ n + 0 ≤ 7293034 by omega) ?_
  refine lr_aload_n (pc := 1341) C 1 dl_1341 rfl rfl ?_
  refine lr_callV (pc := 1342) (q := 133) (ci := 7) (o1 := (0, .int v, σ2)) (M' := mX7_symmetries) (y := yX7_symmetries) (ix := 199) (st := [.int v]) [] C (tX7_symmetries l hst  σ1 (v, σ2) e2) rfl dl_1342 rfl ks_133 (show vwCl[7]? = some _ from rfl) yw_X7_symmetries lk_L_199 (by decide) (show _ ≤ 8 from Nat.le_of_ble_eq_true rfl) (show k + 0 + 0 ≤ 601024 ∧ n + 0 + 0 ≤ 7293034 by omega) ?_
  refine lr_icmp_eq (pc := 1345) (tgt := 2529) C rfl dl_1345 (by decide) ?_
  exact lr_widen (k + 4) (n + 24) (show k + 0 + 0 ≤ k + 4 by omega) (show n + 0 + 0 ≤ n + 24 by omega) (kk σ2 h4)
theorem dl_1350 : decode code 1350 = .ok (.aload_n 1, 1) := by decide +kernel
theorem dl_1351 : decode code 1351 = .ok (.invokevirtual 200, 3) := by decide +kernel
theorem dl_1354 : decode code 1354 = .ok (.aload_n 2, 1) := by decide +kernel
theorem dl_1355 : decode code 1355 = .ok (.invokevirtual 203, 3) := by decide +kernel
theorem dl_1358 : decode code 1358 = .ok (.if_icmp .eq 1171, 3) := by decide +kernel
set_option maxRecDepth 100000 in
theorem lc_ownMaps (hst : l.stackTraces = false) (C : LCX l E p s m c b L xs) (hi : i + 5 < L) (hL : L ≤ 3072) (hk : k + 4 ≤ 601024 ∧ n + 24 ≤ 7293034) (hR : REL σ) (kk : ∀ σ2, REL σ2 → LW l E p e s m below meth c b Q (k + 4) (n + 24) 2529 (lo4 i) [] σ2) : LW l E p e s m below meth c b Q k n 1350 (lo4 i) [] σ := by
  obtain ⟨tag, v, σ1, e1, H1⟩ := q_ownMaps  σ hR
  have ht : tag = 0 := by cases e1; rfl
  have hv0 : fX6_ownMaps σ = v := by cases e1; rfl
  have hs1 : σ1 = σ := by cases e1; rfl
  subst hs1
  obtain ⟨w, σ2, e2, h2, h3, h4, h5⟩ := H1 σ1 (fun _ _ => rfl)
  have hvw : v = w := h3 ht
  subst hvw
  refine lr_aload_n (pc := 1350) C 0 dl_1350 rfl rfl ?_
  refine lr_callV (pc := 1351) (q := 0) (ci := 6) (o1 := (0, .int v, σ1)) (M' := mX6_ownMaps) (y := yX6_ownMaps) (ix := 200) (st := []) [] C ((by have h := tX6_ownMaps l hst σ1; rw [hv0] at h; exact h)) rfl dl_1351 rfl ks_0 (show vwCl[6]? = some _ from rfl) yw_X6_ownMaps lk_L_200 (by decide) (show _ ≤ 8 from Nat.le_of_ble_eq_true rfl) (show k + 0 ≤ 601024 ∧ n + 0 ≤ 7293034 by omega) ?_
  refine lr_aload_n (pc := 1354) C 1 dl_1354 rfl rfl ?_
  refine lr_callV (pc := 1355) (q := 133) (ci := 7) (o1 := (0, .int v, σ2)) (M' := mX7_ownMaps) (y := yX7_ownMaps) (ix := 203) (st := [.int v]) [] C (tX7_ownMaps l hst  σ1 (v, σ2) e2) rfl dl_1355 rfl ks_133 (show vwCl[7]? = some _ from rfl) yw_X7_ownMaps lk_L_203 (by decide) (show _ ≤ 8 from Nat.le_of_ble_eq_true rfl) (show k + 0 + 0 ≤ 601024 ∧ n + 0 + 0 ≤ 7293034 by omega) ?_
  refine lr_icmp_eq (pc := 1358) (tgt := 2529) C rfl dl_1358 (by decide) ?_
  exact lr_widen (k + 4) (n + 24) (show k + 0 + 0 ≤ k + 4 by omega) (show n + 0 + 0 ≤ n + 24 by omega) (kk σ2 h4)
theorem dl_1363 : decode code 1363 = .ok (.aload_n 1, 1) := by decide +kernel
theorem dl_1364 : decode code 1364 = .ok (.aload_n 0, 1) := by decide +kernel
theorem dl_1365 : decode code 1365 = .ok (.iload 4, 2) := by decide +kernel
theorem dl_1367 : decode code 1367 = .ok (.iconst 1, 1) := by decide +kernel
theorem dl_1368 : decode code 1368 = .ok (.iadd, 1) := by decide +kernel
theorem dl_1369 : decode code 1369 = .ok (.iaload, 1) := by decide +kernel
theorem dl_1370 : decode code 1370 = .ok (.aload_n 0, 1) := by decide +kernel
theorem dl_1371 : decode code 1371 = .ok (.iload 4, 2) := by decide +kernel
theorem dl_1373 : decode code 1373 = .ok (.iconst 2, 1) := by decide +kernel
theorem dl_1374 : decode code 1374 = .ok (.iadd, 1) := by decide +kernel
theorem dl_1375 : decode code 1375 = .ok (.iaload, 1) := by decide +kernel
theorem dl_1376 : decode code 1376 = .ok (.aload_n 0, 1) := by decide +kernel
theorem dl_1377 : decode code 1377 = .ok (.iload 4, 2) := by decide +kernel
theorem dl_1379 : decode code 1379 = .ok (.iconst 3, 1) := by decide +kernel
theorem dl_1380 : decode code 1380 = .ok (.iadd, 1) := by decide +kernel
theorem dl_1381 : decode code 1381 = .ok (.iaload, 1) := by decide +kernel
theorem dl_1382 : decode code 1382 = .ok (.aload_n 0, 1) := by decide +kernel
theorem dl_1383 : decode code 1383 = .ok (.iload 4, 2) := by decide +kernel
theorem dl_1385 : decode code 1385 = .ok (.iconst 4, 1) := by decide +kernel
theorem dl_1386 : decode code 1386 = .ok (.iadd, 1) := by decide +kernel
theorem dl_1387 : decode code 1387 = .ok (.iaload, 1) := by decide +kernel
theorem dl_1388 : decode code 1388 = .ok (.ifCond .eq 7, 3) := by decide +kernel
theorem dl_1391 : decode code 1391 = .ok (.iconst 1, 1) := by decide +kernel
theorem dl_1392 : decode code 1392 = .ok (.goto 4, 3) := by decide +kernel
theorem dl_1395 : decode code 1395 = .ok (.iconst 0, 1) := by decide +kernel
theorem dl_1396 : decode code 1396 = .ok (.aload_n 3, 1) := by decide +kernel
theorem dl_1397 : decode code 1397 = .ok (.invokestatic 204, 3) := by decide +kernel
theorem dl_1400 : decode code 1400 = .ok (.istore 5, 2) := by decide +kernel
theorem dl_1402 : decode code 1402 = .ok (.aload_n 2, 1) := by decide +kernel
theorem dl_1403 : decode code 1403 = .ok (.aload_n 0, 1) := by decide +kernel
theorem dl_1404 : decode code 1404 = .ok (.iload 4, 2) := by decide +kernel
theorem dl_1406 : decode code 1406 = .ok (.iconst 1, 1) := by decide +kernel
theorem dl_1407 : decode code 1407 = .ok (.iadd, 1) := by decide +kernel
theorem dl_1408 : decode code 1408 = .ok (.iaload, 1) := by decide +kernel
theorem dl_1409 : decode code 1409 = .ok (.aload_n 0, 1) := by decide +kernel
theorem dl_1410 : decode code 1410 = .ok (.iload 4, 2) := by decide +kernel
theorem dl_1412 : decode code 1412 = .ok (.iconst 2, 1) := by decide +kernel
theorem dl_1413 : decode code 1413 = .ok (.iadd, 1) := by decide +kernel
theorem dl_1414 : decode code 1414 = .ok (.iaload, 1) := by decide +kernel
theorem dl_1415 : decode code 1415 = .ok (.aload_n 0, 1) := by decide +kernel
theorem dl_1416 : decode code 1416 = .ok (.iload 4, 2) := by decide +kernel
theorem dl_1418 : decode code 1418 = .ok (.iconst 3, 1) := by decide +kernel
theorem dl_1419 : decode code 1419 = .ok (.iadd, 1) := by decide +kernel
theorem dl_1420 : decode code 1420 = .ok (.iaload, 1) := by decide +kernel
theorem dl_1421 : decode code 1421 = .ok (.aload_n 0, 1) := by decide +kernel
theorem dl_1422 : decode code 1422 = .ok (.iload 4, 2) := by decide +kernel
theorem dl_1424 : decode code 1424 = .ok (.iconst 4, 1) := by decide +kernel
theorem dl_1425 : decode code 1425 = .ok (.iadd, 1) := by decide +kernel
theorem dl_1426 : decode code 1426 = .ok (.iaload, 1) := by decide +kernel
theorem dl_1427 : decode code 1427 = .ok (.ifCond .eq 7, 3) := by decide +kernel
theorem dl_1430 : decode code 1430 = .ok (.iconst 1, 1) := by decide +kernel
theorem dl_1431 : decode code 1431 = .ok (.goto 4, 3) := by decide +kernel
theorem dl_1434 : decode code 1434 = .ok (.iconst 0, 1) := by decide +kernel
theorem dl_1435 : decode code 1435 = .ok (.invokevirtual 207, 3) := by decide +kernel
theorem dl_1438 : decode code 1438 = .ok (.istore 6, 2) := by decide +kernel
theorem dl_1440 : decode code 1440 = .ok (.aload_n 2, 1) := by decide +kernel
theorem dl_1441 : decode code 1441 = .ok (.invokevirtual 125, 3) := by decide +kernel
theorem dl_1444 : decode code 1444 = .ok (.iload 5, 2) := by decide +kernel
theorem dl_1446 : decode code 1446 = .ok (.if_icmp .eq 5, 3) := by decide +kernel
theorem dl_1451 : decode code 1451 = .ok (.iload 5, 2) := by decide +kernel
theorem dl_1453 : decode code 1453 = .ok (.ifCond .ne 15, 3) := by decide +kernel
theorem dl_1456 : decode code 1456 = .ok (.aload_n 3, 1) := by decide +kernel
theorem dl_1457 : decode code 1457 = .ok (.iconst 0, 1) := by decide +kernel
theorem dl_1458 : decode code 1458 = .ok (.laload, 1) := by decide +kernel
theorem dl_1459 : decode code 1459 = .ok (.iload 6, 2) := by decide +kernel
theorem dl_1461 : decode code 1461 = .ok (.i2l, 1) := by decide +kernel
theorem dl_1462 : decode code 1462 = .ok (.lcmp, 1) := by decide +kernel
theorem dl_1463 : decode code 1463 = .ok (.ifCond .eq 5, 3) := by decide +kernel
theorem dl_1468 : decode code 1468 = .ok (.goto 1061, 3) := by decide +kernel
set_option maxRecDepth 100000 in
theorem lc_mapped (hst : l.stackTraces = false) (C : LCX l E p s m c b L xs) (hi : i + 5 < L) (hL : L ≤ 3072) (hk : k + 4 ≤ 601024 ∧ n + 24 ≤ 7293034) (hR : REL σ) (kk : ∀ σ2, REL σ2 → LW l E p e s m below meth c b Q (k + 4) (n + 24) 2529 (lo4 i) [] σ2) : LW l E p e s m below meth c b Q k n 1363 (lo4 i) [] σ := by
  obtain ⟨tag, v, σ1, e1, H1⟩ := q_mapped (xs (i + 1)) (xs (i + 2)) (xs (i + 3)) (kb (decide (xs (i + 4) ≠ 0))) σ hR
  have ht : tag = 0 ∨ tag = 3 := by
    obtain ⟨w, σ2, -, h2, -⟩ := H1 σ1 (fun _ _ => rfl)
    exact (thr_k1 h2).2
  obtain ⟨w, σ2, e2, h2, h3, h4, h5⟩ := H1 _ (e54_w (σ1 := σ1) (tag := tag) (v := v))
  have hk1 : σ2 133 7 = kti [3] tag := (thr_k1 h2).1
  have hv : tag = 0 → σ2 154 0 = w := fun h => by
    rw [h5, if_pos h, su_s]
    exact h3 h
  refine lr_aload_n (pc := 1363) C 0 dl_1363 rfl rfl ?_
  refine lr_arg (pc := 1364) (i := i) (j := 1) C 3 rfl (by omega) hL dl_1364 dl_1365 1 (by decide) dl_1367 dl_1368 dl_1369 ?_
  refine lr_arg (pc := 1370) (i := i) (j := 2) C 3 rfl (by omega) hL dl_1370 dl_1371 2 (by decide) dl_1373 dl_1374 dl_1375 ?_
  refine lr_arg (pc := 1376) (i := i) (j := 3) C 3 rfl (by omega) hL dl_1376 dl_1377 3 (by decide) dl_1379 dl_1380 dl_1381 ?_
  refine lr_arg (pc := 1382) (i := i) (j := 4) C 3 rfl (by omega) hL dl_1382 dl_1383 4 (by decide) dl_1385 dl_1386 dl_1387 ?_
  refine lr_bool (pc := 1388) C dl_1388 dl_1391 dl_1392 dl_1395 ?_
  refine lr_aload_n (pc := 1396) C 2 dl_1396 rfl rfl ?_
  refine lr_callW (pc := 1397) (hh := hL_mapped) (M' := mL_mapped) (y := yL_mapped) (ix := 204) (t := kti [3] tag) (σ2 := (if tag = 0 then su σ1 154 0 v else σ1)) (st := []) [.ref 0, .int (xs (i + 1)), .int (xs (i + 2)), .int (xs (i + 3)), .int (kb (decide (xs (i + 4) ≠ 0))), .ref 154] C (tL_mapped l hst (xs (i + 1)) (xs (i + 2)) (xs (i + 3)) (kb (decide (xs (i + 4) ≠ 0))) σ tag v σ1 e1 ht) dl_1397 rfl rfl kw_L_mapped lk_L_204 (by decide) (Nat.zero_le _) (show k + 1 ≤ 601024 ∧ n + 6 ≤ 7293034 by omega) ?_
  refine lr_istore (pc := 1400) C ((5, .int (kti [3] tag)) :: lo4 i) dl_1400 (by decide) (by decide) rfl ?_
  refine lr_aload_n (pc := 1402) C 2 dl_1402 rfl rfl ?_
  refine lr_arg (pc := 1403) (i := i) (j := 1) C 4 rfl (by omega) hL dl_1403 dl_1404 1 (by decide) dl_1406 dl_1407 dl_1408 ?_
  refine lr_arg (pc := 1409) (i := i) (j := 2) C 4 rfl (by omega) hL dl_1409 dl_1410 2 (by decide) dl_1412 dl_1413 dl_1414 ?_
  refine lr_arg (pc := 1415) (i := i) (j := 3) C 4 rfl (by omega) hL dl_1415 dl_1416 3 (by decide) dl_1418 dl_1419 dl_1420 ?_
  refine lr_arg (pc := 1421) (i := i) (j := 4) C 4 rfl (by omega) hL dl_1421 dl_1422 4 (by decide) dl_1424 dl_1425 dl_1426 ?_
  refine lr_bool (pc := 1427) C dl_1427 dl_1430 dl_1431 dl_1434 ?_
  refine lr_callV (pc := 1435) (q := 133) (ci := 7) (o1 := (0, .int w, σ2)) (M' := mX7_mapped) (y := yX7_mapped) (ix := 207) (st := []) [.int (xs (i + 1)), .int (xs (i + 2)), .int (xs (i + 3)), .int (kb (decide (xs (i + 4) ≠ 0)))] C (tX7_mapped l hst (xs (i + 1)) (xs (i + 2)) (xs (i + 3)) (kb (decide (xs (i + 4) ≠ 0))) _ (w, σ2) e2) rfl dl_1435 rfl ks_133 (show vwCl[7]? = some _ from rfl) yw_X7_mapped lk_L_207 (by decide) (Nat.zero_le _) (show k + 1 + 0 ≤ 601024 ∧ n + 6 + 0 ≤ 7293034 by omega) ?_
  refine lr_istore (pc := 1438) C ((6, .int w) :: (5, .int (kti [3] tag)) :: lo4 i) dl_1438 (by decide) (by decide) rfl ?_
  exact lr_tail (pc := 1440) (i := i) hst C hk1 hv (show k + 1 + 0 ≤ 601024 ∧ n + 6 + 0 ≤ 7293034 by omega) dl_1440 dl_1441 dl_1444 dl_1446 dl_1451 dl_1453 dl_1456 dl_1457 dl_1458 dl_1459 dl_1461 dl_1462 dl_1463 dl_1468 (by decide) (lr_widen (k + 4) (n + 24) (show k + 1 + 0 ≤ k + 4 by omega) (show n + 6 + 0 ≤ n + 24 by omega) (kk σ2 h4))
theorem dl_1471 : decode code 1471 = .ok (.aload_n 1, 1) := by decide +kernel
theorem dl_1472 : decode code 1472 = .ok (.aload_n 0, 1) := by decide +kernel
theorem dl_1473 : decode code 1473 = .ok (.iload 4, 2) := by decide +kernel
theorem dl_1475 : decode code 1475 = .ok (.iconst 1, 1) := by decide +kernel
theorem dl_1476 : decode code 1476 = .ok (.iadd, 1) := by decide +kernel
theorem dl_1477 : decode code 1477 = .ok (.iaload, 1) := by decide +kernel
theorem dl_1478 : decode code 1478 = .ok (.aload_n 3, 1) := by decide +kernel
theorem dl_1479 : decode code 1479 = .ok (.invokestatic 208, 3) := by decide +kernel
theorem dl_1482 : decode code 1482 = .ok (.istore 5, 2) := by decide +kernel
theorem dl_1484 : decode code 1484 = .ok (.aload_n 2, 1) := by decide +kernel
theorem dl_1485 : decode code 1485 = .ok (.aload_n 0, 1) := by decide +kernel
theorem dl_1486 : decode code 1486 = .ok (.iload 4, 2) := by decide +kernel
theorem dl_1488 : decode code 1488 = .ok (.iconst 1, 1) := by decide +kernel
theorem dl_1489 : decode code 1489 = .ok (.iadd, 1) := by decide +kernel
theorem dl_1490 : decode code 1490 = .ok (.iaload, 1) := by decide +kernel
theorem dl_1491 : decode code 1491 = .ok (.invokevirtual 210, 3) := by decide +kernel
theorem dl_1494 : decode code 1494 = .ok (.istore 6, 2) := by decide +kernel
theorem dl_1496 : decode code 1496 = .ok (.aload_n 2, 1) := by decide +kernel
theorem dl_1497 : decode code 1497 = .ok (.invokevirtual 125, 3) := by decide +kernel
theorem dl_1500 : decode code 1500 = .ok (.iload 5, 2) := by decide +kernel
theorem dl_1502 : decode code 1502 = .ok (.if_icmp .eq 5, 3) := by decide +kernel
theorem dl_1507 : decode code 1507 = .ok (.iload 5, 2) := by decide +kernel
theorem dl_1509 : decode code 1509 = .ok (.ifCond .ne 15, 3) := by decide +kernel
theorem dl_1512 : decode code 1512 = .ok (.aload_n 3, 1) := by decide +kernel
theorem dl_1513 : decode code 1513 = .ok (.iconst 0, 1) := by decide +kernel
theorem dl_1514 : decode code 1514 = .ok (.laload, 1) := by decide +kernel
theorem dl_1515 : decode code 1515 = .ok (.iload 6, 2) := by decide +kernel
theorem dl_1517 : decode code 1517 = .ok (.i2l, 1) := by decide +kernel
theorem dl_1518 : decode code 1518 = .ok (.lcmp, 1) := by decide +kernel
theorem dl_1519 : decode code 1519 = .ok (.ifCond .eq 5, 3) := by decide +kernel
theorem dl_1524 : decode code 1524 = .ok (.goto 1005, 3) := by decide +kernel
set_option maxRecDepth 100000 in
theorem lc_matches (hst : l.stackTraces = false) (C : LCX l E p s m c b L xs) (hi : i + 5 < L) (hL : L ≤ 3072) (hk : k + 4 ≤ 601024 ∧ n + 24 ≤ 7293034) (hR : REL σ) (kk : ∀ σ2, REL σ2 → LW l E p e s m below meth c b Q (k + 4) (n + 24) 2529 (lo4 i) [] σ2) : LW l E p e s m below meth c b Q k n 1471 (lo4 i) [] σ := by
  obtain ⟨tag, v, σ1, e1, H1⟩ := q_matches (xs (i + 1)) σ hR
  have ht : tag = 0 ∨ tag = 1 ∨ tag = 2 := by
    obtain ⟨w, σ2, -, h2, -⟩ := H1 σ1 (fun _ _ => rfl)
    exact (thr_k2 (by decide) h2).2
  obtain ⟨w, σ2, e2, h2, h3, h4, h5⟩ := H1 _ (e54_w (σ1 := σ1) (tag := tag) (v := v))
  have hk1 : σ2 133 7 = kti [1, 2] tag := (thr_k2 (by decide) h2).1
  have hv : tag = 0 → σ2 154 0 = w := fun h => by
    rw [h5, if_pos h, su_s]
    exact h3 h
  refine lr_aload_n (pc := 1471) C 0 dl_1471 rfl rfl ?_
  refine lr_arg (pc := 1472) (i := i) (j := 1) C 3 rfl (by omega) hL dl_1472 dl_1473 1 (by decide) dl_1475 dl_1476 dl_1477 ?_
  refine lr_aload_n (pc := 1478) C 2 dl_1478 rfl rfl ?_
  refine lr_callW (pc := 1479) (hh := hL_matches) (M' := mL_matches) (y := yL_matches) (ix := 208) (t := kti [1, 2] tag) (σ2 := (if tag = 0 then su σ1 154 0 v else σ1)) (st := []) [.ref 0, .int (xs (i + 1)), .ref 154] C (tL_matches l hst (xs (i + 1)) σ tag v σ1 e1 ht) dl_1479 rfl rfl kw_L_matches lk_L_208 (by decide) (Nat.zero_le _) (show k + 2 ≤ 601024 ∧ n + 12 ≤ 7293034 by omega) ?_
  refine lr_istore (pc := 1482) C ((5, .int (kti [1, 2] tag)) :: lo4 i) dl_1482 (by decide) (by decide) rfl ?_
  refine lr_aload_n (pc := 1484) C 2 dl_1484 rfl rfl ?_
  refine lr_arg (pc := 1485) (i := i) (j := 1) C 4 rfl (by omega) hL dl_1485 dl_1486 1 (by decide) dl_1488 dl_1489 dl_1490 ?_
  refine lr_callV (pc := 1491) (q := 133) (ci := 7) (o1 := (0, .int w, σ2)) (M' := mX7_matches) (y := yX7_matches) (ix := 210) (st := []) [.int (xs (i + 1))] C (tX7_matches l hst (xs (i + 1)) _ (w, σ2) e2) rfl dl_1491 rfl ks_133 (show vwCl[7]? = some _ from rfl) yw_X7_matches lk_L_210 (by decide) (Nat.zero_le _) (show k + 2 + 0 ≤ 601024 ∧ n + 12 + 0 ≤ 7293034 by omega) ?_
  refine lr_istore (pc := 1494) C ((6, .int w) :: (5, .int (kti [1, 2] tag)) :: lo4 i) dl_1494 (by decide) (by decide) rfl ?_
  exact lr_tail (pc := 1496) (i := i) hst C hk1 hv (show k + 2 + 0 ≤ 601024 ∧ n + 12 + 0 ≤ 7293034 by omega) dl_1496 dl_1497 dl_1500 dl_1502 dl_1507 dl_1509 dl_1512 dl_1513 dl_1514 dl_1515 dl_1517 dl_1518 dl_1519 dl_1524 (by decide) (lr_widen (k + 4) (n + 24) (show k + 2 + 0 ≤ k + 4 by omega) (show n + 12 + 0 ≤ n + 24 by omega) (kk σ2 h4))
theorem dl_1527 : decode code 1527 = .ok (.aload_n 1, 1) := by decide +kernel
theorem dl_1528 : decode code 1528 = .ok (.aload_n 0, 1) := by decide +kernel
theorem dl_1529 : decode code 1529 = .ok (.iload 4, 2) := by decide +kernel
theorem dl_1531 : decode code 1531 = .ok (.iconst 1, 1) := by decide +kernel
theorem dl_1532 : decode code 1532 = .ok (.iadd, 1) := by decide +kernel
theorem dl_1533 : decode code 1533 = .ok (.iaload, 1) := by decide +kernel
theorem dl_1534 : decode code 1534 = .ok (.aload_n 0, 1) := by decide +kernel
theorem dl_1535 : decode code 1535 = .ok (.iload 4, 2) := by decide +kernel
theorem dl_1537 : decode code 1537 = .ok (.iconst 2, 1) := by decide +kernel
theorem dl_1538 : decode code 1538 = .ok (.iadd, 1) := by decide +kernel
theorem dl_1539 : decode code 1539 = .ok (.iaload, 1) := by decide +kernel
theorem dl_1540 : decode code 1540 = .ok (.aload_n 0, 1) := by decide +kernel
theorem dl_1541 : decode code 1541 = .ok (.iload 4, 2) := by decide +kernel
theorem dl_1543 : decode code 1543 = .ok (.iconst 3, 1) := by decide +kernel
theorem dl_1544 : decode code 1544 = .ok (.iadd, 1) := by decide +kernel
theorem dl_1545 : decode code 1545 = .ok (.iaload, 1) := by decide +kernel
theorem dl_1546 : decode code 1546 = .ok (.aload_n 0, 1) := by decide +kernel
theorem dl_1547 : decode code 1547 = .ok (.iload 4, 2) := by decide +kernel
theorem dl_1549 : decode code 1549 = .ok (.iconst 4, 1) := by decide +kernel
theorem dl_1550 : decode code 1550 = .ok (.iadd, 1) := by decide +kernel
theorem dl_1551 : decode code 1551 = .ok (.iaload, 1) := by decide +kernel
theorem dl_1552 : decode code 1552 = .ok (.aload_n 0, 1) := by decide +kernel
theorem dl_1553 : decode code 1553 = .ok (.iload 4, 2) := by decide +kernel
theorem dl_1555 : decode code 1555 = .ok (.iconst 5, 1) := by decide +kernel
theorem dl_1556 : decode code 1556 = .ok (.iadd, 1) := by decide +kernel
theorem dl_1557 : decode code 1557 = .ok (.iaload, 1) := by decide +kernel
theorem dl_1558 : decode code 1558 = .ok (.aload_n 3, 1) := by decide +kernel
theorem dl_1559 : decode code 1559 = .ok (.invokestatic 211, 3) := by decide +kernel
theorem dl_1562 : decode code 1562 = .ok (.istore 5, 2) := by decide +kernel
theorem dl_1564 : decode code 1564 = .ok (.aload_n 2, 1) := by decide +kernel
theorem dl_1565 : decode code 1565 = .ok (.aload_n 0, 1) := by decide +kernel
theorem dl_1566 : decode code 1566 = .ok (.iload 4, 2) := by decide +kernel
theorem dl_1568 : decode code 1568 = .ok (.iconst 1, 1) := by decide +kernel
theorem dl_1569 : decode code 1569 = .ok (.iadd, 1) := by decide +kernel
theorem dl_1570 : decode code 1570 = .ok (.iaload, 1) := by decide +kernel
theorem dl_1571 : decode code 1571 = .ok (.aload_n 0, 1) := by decide +kernel
theorem dl_1572 : decode code 1572 = .ok (.iload 4, 2) := by decide +kernel
theorem dl_1574 : decode code 1574 = .ok (.iconst 2, 1) := by decide +kernel
theorem dl_1575 : decode code 1575 = .ok (.iadd, 1) := by decide +kernel
theorem dl_1576 : decode code 1576 = .ok (.iaload, 1) := by decide +kernel
theorem dl_1577 : decode code 1577 = .ok (.aload_n 0, 1) := by decide +kernel
theorem dl_1578 : decode code 1578 = .ok (.iload 4, 2) := by decide +kernel
theorem dl_1580 : decode code 1580 = .ok (.iconst 3, 1) := by decide +kernel
theorem dl_1581 : decode code 1581 = .ok (.iadd, 1) := by decide +kernel
theorem dl_1582 : decode code 1582 = .ok (.iaload, 1) := by decide +kernel
theorem dl_1583 : decode code 1583 = .ok (.aload_n 0, 1) := by decide +kernel
theorem dl_1584 : decode code 1584 = .ok (.iload 4, 2) := by decide +kernel
theorem dl_1586 : decode code 1586 = .ok (.iconst 4, 1) := by decide +kernel
theorem dl_1587 : decode code 1587 = .ok (.iadd, 1) := by decide +kernel
theorem dl_1588 : decode code 1588 = .ok (.iaload, 1) := by decide +kernel
theorem dl_1589 : decode code 1589 = .ok (.aload_n 0, 1) := by decide +kernel
theorem dl_1590 : decode code 1590 = .ok (.iload 4, 2) := by decide +kernel
theorem dl_1592 : decode code 1592 = .ok (.iconst 5, 1) := by decide +kernel
theorem dl_1593 : decode code 1593 = .ok (.iadd, 1) := by decide +kernel
theorem dl_1594 : decode code 1594 = .ok (.iaload, 1) := by decide +kernel
theorem dl_1595 : decode code 1595 = .ok (.invokevirtual 214, 3) := by decide +kernel
theorem dl_1598 : decode code 1598 = .ok (.istore 6, 2) := by decide +kernel
theorem dl_1600 : decode code 1600 = .ok (.aload_n 2, 1) := by decide +kernel
theorem dl_1601 : decode code 1601 = .ok (.invokevirtual 125, 3) := by decide +kernel
theorem dl_1604 : decode code 1604 = .ok (.iload 5, 2) := by decide +kernel
theorem dl_1606 : decode code 1606 = .ok (.if_icmp .eq 5, 3) := by decide +kernel
theorem dl_1611 : decode code 1611 = .ok (.iload 5, 2) := by decide +kernel
theorem dl_1613 : decode code 1613 = .ok (.ifCond .ne 15, 3) := by decide +kernel
theorem dl_1616 : decode code 1616 = .ok (.aload_n 3, 1) := by decide +kernel
theorem dl_1617 : decode code 1617 = .ok (.iconst 0, 1) := by decide +kernel
theorem dl_1618 : decode code 1618 = .ok (.laload, 1) := by decide +kernel
theorem dl_1619 : decode code 1619 = .ok (.iload 6, 2) := by decide +kernel
theorem dl_1621 : decode code 1621 = .ok (.i2l, 1) := by decide +kernel
theorem dl_1622 : decode code 1622 = .ok (.lcmp, 1) := by decide +kernel
theorem dl_1623 : decode code 1623 = .ok (.ifCond .eq 5, 3) := by decide +kernel
theorem dl_1628 : decode code 1628 = .ok (.goto 901, 3) := by decide +kernel
set_option maxRecDepth 100000 in
theorem lc_add (hst : l.stackTraces = false) (C : LCX l E p s m c b L xs) (hi : i + 5 < L) (hL : L ≤ 3072) (hk : k + 4 ≤ 601024 ∧ n + 24 ≤ 7293034) (hR : REL σ) (kk : ∀ σ2, REL σ2 → LW l E p e s m below meth c b Q (k + 4) (n + 24) 2529 (lo4 i) [] σ2) : LW l E p e s m below meth c b Q k n 1527 (lo4 i) [] σ := by
  obtain ⟨tag, v, σ1, e1, H1⟩ := q_add (xs (i + 1)) (xs (i + 2)) (xs (i + 3)) (xs (i + 4)) (xs (i + 5)) σ hR
  have ht : tag = 0 ∨ tag = 3 ∨ tag = 1 := by
    obtain ⟨w, σ2, -, h2, -⟩ := H1 σ1 (fun _ _ => rfl)
    exact (thr_k2 (by decide) h2).2
  obtain ⟨w, σ2, e2, h2, h3, h4, h5⟩ := H1 _ (e54_w (σ1 := σ1) (tag := tag) (v := v))
  have hk1 : σ2 133 7 = kti [3, 1] tag := (thr_k2 (by decide) h2).1
  have hv : tag = 0 → σ2 154 0 = w := fun h => by
    rw [h5, if_pos h, su_s]
    exact h3 h
  refine lr_aload_n (pc := 1527) C 0 dl_1527 rfl rfl ?_
  refine lr_arg (pc := 1528) (i := i) (j := 1) C 3 rfl (by omega) hL dl_1528 dl_1529 1 (by decide) dl_1531 dl_1532 dl_1533 ?_
  refine lr_arg (pc := 1534) (i := i) (j := 2) C 3 rfl (by omega) hL dl_1534 dl_1535 2 (by decide) dl_1537 dl_1538 dl_1539 ?_
  refine lr_arg (pc := 1540) (i := i) (j := 3) C 3 rfl (by omega) hL dl_1540 dl_1541 3 (by decide) dl_1543 dl_1544 dl_1545 ?_
  refine lr_arg (pc := 1546) (i := i) (j := 4) C 3 rfl (by omega) hL dl_1546 dl_1547 4 (by decide) dl_1549 dl_1550 dl_1551 ?_
  refine lr_arg (pc := 1552) (i := i) (j := 5) C 3 rfl (by omega) hL dl_1552 dl_1553 5 (by decide) dl_1555 dl_1556 dl_1557 ?_
  refine lr_aload_n (pc := 1558) C 2 dl_1558 rfl rfl ?_
  refine lr_callW (pc := 1559) (hh := hL_add) (M' := mL_add) (y := yL_add) (ix := 211) (t := kti [3, 1] tag) (σ2 := (if tag = 0 then su σ1 154 0 v else σ1)) (st := []) [.ref 0, .int (xs (i + 1)), .int (xs (i + 2)), .int (xs (i + 3)), .int (xs (i + 4)), .int (xs (i + 5)), .ref 154] C (tL_add l hst (xs (i + 1)) (xs (i + 2)) (xs (i + 3)) (xs (i + 4)) (xs (i + 5)) σ tag v σ1 e1 ht) dl_1559 rfl rfl kw_L_add lk_L_211 (by decide) (Nat.zero_le _) (show k + 4 ≤ 601024 ∧ n + 24 ≤ 7293034 by omega) ?_
  refine lr_istore (pc := 1562) C ((5, .int (kti [3, 1] tag)) :: lo4 i) dl_1562 (by decide) (by decide) rfl ?_
  refine lr_aload_n (pc := 1564) C 2 dl_1564 rfl rfl ?_
  refine lr_arg (pc := 1565) (i := i) (j := 1) C 4 rfl (by omega) hL dl_1565 dl_1566 1 (by decide) dl_1568 dl_1569 dl_1570 ?_
  refine lr_arg (pc := 1571) (i := i) (j := 2) C 4 rfl (by omega) hL dl_1571 dl_1572 2 (by decide) dl_1574 dl_1575 dl_1576 ?_
  refine lr_arg (pc := 1577) (i := i) (j := 3) C 4 rfl (by omega) hL dl_1577 dl_1578 3 (by decide) dl_1580 dl_1581 dl_1582 ?_
  refine lr_arg (pc := 1583) (i := i) (j := 4) C 4 rfl (by omega) hL dl_1583 dl_1584 4 (by decide) dl_1586 dl_1587 dl_1588 ?_
  refine lr_arg (pc := 1589) (i := i) (j := 5) C 4 rfl (by omega) hL dl_1589 dl_1590 5 (by decide) dl_1592 dl_1593 dl_1594 ?_
  refine lr_callV (pc := 1595) (q := 133) (ci := 7) (o1 := (0, .int w, σ2)) (M' := mX7_add) (y := yX7_add) (ix := 214) (st := []) [.int (xs (i + 1)), .int (xs (i + 2)), .int (xs (i + 3)), .int (xs (i + 4)), .int (xs (i + 5))] C (tX7_add l hst (xs (i + 1)) (xs (i + 2)) (xs (i + 3)) (xs (i + 4)) (xs (i + 5)) _ (w, σ2) e2) rfl dl_1595 rfl ks_133 (show vwCl[7]? = some _ from rfl) yw_X7_add lk_L_214 (by decide) (Nat.zero_le _) (show k + 4 + 0 ≤ 601024 ∧ n + 24 + 0 ≤ 7293034 by omega) ?_
  refine lr_istore (pc := 1598) C ((6, .int w) :: (5, .int (kti [3, 1] tag)) :: lo4 i) dl_1598 (by decide) (by decide) rfl ?_
  exact lr_tail (pc := 1600) (i := i) hst C hk1 hv (show k + 4 + 0 ≤ 601024 ∧ n + 24 + 0 ≤ 7293034 by omega) dl_1600 dl_1601 dl_1604 dl_1606 dl_1611 dl_1613 dl_1616 dl_1617 dl_1618 dl_1619 dl_1621 dl_1622 dl_1623 dl_1628 (by decide) (lr_widen (k + 4) (n + 24) (show k + 4 + 0 ≤ k + 4 by omega) (show n + 24 + 0 ≤ n + 24 by omega) (kk σ2 h4))
theorem dl_1631 : decode code 1631 = .ok (.aload_n 1, 1) := by decide +kernel
theorem dl_1632 : decode code 1632 = .ok (.aload_n 0, 1) := by decide +kernel
theorem dl_1633 : decode code 1633 = .ok (.iload 4, 2) := by decide +kernel
theorem dl_1635 : decode code 1635 = .ok (.iconst 1, 1) := by decide +kernel
theorem dl_1636 : decode code 1636 = .ok (.iadd, 1) := by decide +kernel
theorem dl_1637 : decode code 1637 = .ok (.iaload, 1) := by decide +kernel
theorem dl_1638 : decode code 1638 = .ok (.aload_n 3, 1) := by decide +kernel
theorem dl_1639 : decode code 1639 = .ok (.invokestatic 215, 3) := by decide +kernel
theorem dl_1642 : decode code 1642 = .ok (.istore 5, 2) := by decide +kernel
theorem dl_1644 : decode code 1644 = .ok (.aload_n 2, 1) := by decide +kernel
theorem dl_1645 : decode code 1645 = .ok (.aload_n 0, 1) := by decide +kernel
theorem dl_1646 : decode code 1646 = .ok (.iload 4, 2) := by decide +kernel
theorem dl_1648 : decode code 1648 = .ok (.iconst 1, 1) := by decide +kernel
theorem dl_1649 : decode code 1649 = .ok (.iadd, 1) := by decide +kernel
theorem dl_1650 : decode code 1650 = .ok (.iaload, 1) := by decide +kernel
theorem dl_1651 : decode code 1651 = .ok (.invokevirtual 217, 3) := by decide +kernel
theorem dl_1654 : decode code 1654 = .ok (.istore 6, 2) := by decide +kernel
theorem dl_1656 : decode code 1656 = .ok (.aload_n 2, 1) := by decide +kernel
theorem dl_1657 : decode code 1657 = .ok (.invokevirtual 125, 3) := by decide +kernel
theorem dl_1660 : decode code 1660 = .ok (.iload 5, 2) := by decide +kernel
theorem dl_1662 : decode code 1662 = .ok (.if_icmp .eq 5, 3) := by decide +kernel
theorem dl_1667 : decode code 1667 = .ok (.iload 5, 2) := by decide +kernel
theorem dl_1669 : decode code 1669 = .ok (.ifCond .ne 15, 3) := by decide +kernel
theorem dl_1672 : decode code 1672 = .ok (.aload_n 3, 1) := by decide +kernel
theorem dl_1673 : decode code 1673 = .ok (.iconst 0, 1) := by decide +kernel
theorem dl_1674 : decode code 1674 = .ok (.laload, 1) := by decide +kernel
theorem dl_1675 : decode code 1675 = .ok (.iload 6, 2) := by decide +kernel
theorem dl_1677 : decode code 1677 = .ok (.i2l, 1) := by decide +kernel
theorem dl_1678 : decode code 1678 = .ok (.lcmp, 1) := by decide +kernel
theorem dl_1679 : decode code 1679 = .ok (.ifCond .eq 5, 3) := by decide +kernel
theorem dl_1684 : decode code 1684 = .ok (.goto 845, 3) := by decide +kernel
set_option maxRecDepth 100000 in
theorem lc_take (hst : l.stackTraces = false) (C : LCX l E p s m c b L xs) (hi : i + 5 < L) (hL : L ≤ 3072) (hk : k + 4 ≤ 601024 ∧ n + 24 ≤ 7293034) (hR : REL σ) (kk : ∀ σ2, REL σ2 → LW l E p e s m below meth c b Q (k + 4) (n + 24) 2529 (lo4 i) [] σ2) : LW l E p e s m below meth c b Q k n 1631 (lo4 i) [] σ := by
  obtain ⟨tag, v, σ1, e1, H1⟩ := q_take (xs (i + 1)) σ hR
  have ht : tag = 0 ∨ tag = 3 := by
    obtain ⟨w, σ2, -, h2, -⟩ := H1 σ1 (fun _ _ => rfl)
    exact (thr_k1 h2).2
  obtain ⟨w, σ2, e2, h2, h3, h4, h5⟩ := H1 _ (e54_w (σ1 := σ1) (tag := tag) (v := v))
  have hk1 : σ2 133 7 = kti [3] tag := (thr_k1 h2).1
  have hv : tag = 0 → σ2 154 0 = w := fun h => by
    rw [h5, if_pos h, su_s]
    exact h3 h
  refine lr_aload_n (pc := 1631) C 0 dl_1631 rfl rfl ?_
  refine lr_arg (pc := 1632) (i := i) (j := 1) C 3 rfl (by omega) hL dl_1632 dl_1633 1 (by decide) dl_1635 dl_1636 dl_1637 ?_
  refine lr_aload_n (pc := 1638) C 2 dl_1638 rfl rfl ?_
  refine lr_callW (pc := 1639) (hh := hL_take) (M' := mL_take) (y := yL_take) (ix := 215) (t := kti [3] tag) (σ2 := (if tag = 0 then su σ1 154 0 v else σ1)) (st := []) [.ref 0, .int (xs (i + 1)), .ref 154] C (tL_take l hst (xs (i + 1)) σ tag v σ1 e1 ht) dl_1639 rfl rfl kw_L_take lk_L_215 (by decide) (Nat.zero_le _) (show k + 1 ≤ 601024 ∧ n + 6 ≤ 7293034 by omega) ?_
  refine lr_istore (pc := 1642) C ((5, .int (kti [3] tag)) :: lo4 i) dl_1642 (by decide) (by decide) rfl ?_
  refine lr_aload_n (pc := 1644) C 2 dl_1644 rfl rfl ?_
  refine lr_arg (pc := 1645) (i := i) (j := 1) C 4 rfl (by omega) hL dl_1645 dl_1646 1 (by decide) dl_1648 dl_1649 dl_1650 ?_
  refine lr_callV (pc := 1651) (q := 133) (ci := 7) (o1 := (0, .int w, σ2)) (M' := mX7_take) (y := yX7_take) (ix := 217) (st := []) [.int (xs (i + 1))] C (tX7_take l hst (xs (i + 1)) _ (w, σ2) e2) rfl dl_1651 rfl ks_133 (show vwCl[7]? = some _ from rfl) yw_X7_take lk_L_217 (by decide) (Nat.zero_le _) (show k + 1 + 0 ≤ 601024 ∧ n + 6 + 0 ≤ 7293034 by omega) ?_
  refine lr_istore (pc := 1654) C ((6, .int w) :: (5, .int (kti [3] tag)) :: lo4 i) dl_1654 (by decide) (by decide) rfl ?_
  exact lr_tail (pc := 1656) (i := i) hst C hk1 hv (show k + 1 + 0 ≤ 601024 ∧ n + 6 + 0 ≤ 7293034 by omega) dl_1656 dl_1657 dl_1660 dl_1662 dl_1667 dl_1669 dl_1672 dl_1673 dl_1674 dl_1675 dl_1677 dl_1678 dl_1679 dl_1684 (by decide) (lr_widen (k + 4) (n + 24) (show k + 1 + 0 ≤ k + 4 by omega) (show n + 6 + 0 ≤ n + 24 by omega) (kk σ2 h4))
theorem dl_1687 : decode code 1687 = .ok (.aload_n 1, 1) := by decide +kernel
theorem dl_1688 : decode code 1688 = .ok (.aload_n 0, 1) := by decide +kernel
theorem dl_1689 : decode code 1689 = .ok (.iload 4, 2) := by decide +kernel
theorem dl_1691 : decode code 1691 = .ok (.iconst 1, 1) := by decide +kernel
theorem dl_1692 : decode code 1692 = .ok (.iadd, 1) := by decide +kernel
theorem dl_1693 : decode code 1693 = .ok (.iaload, 1) := by decide +kernel
theorem dl_1694 : decode code 1694 = .ok (.aload_n 0, 1) := by decide +kernel
theorem dl_1695 : decode code 1695 = .ok (.iload 4, 2) := by decide +kernel
theorem dl_1697 : decode code 1697 = .ok (.iconst 2, 1) := by decide +kernel
theorem dl_1698 : decode code 1698 = .ok (.iadd, 1) := by decide +kernel
theorem dl_1699 : decode code 1699 = .ok (.iaload, 1) := by decide +kernel
theorem dl_1700 : decode code 1700 = .ok (.aload_n 3, 1) := by decide +kernel
theorem dl_1701 : decode code 1701 = .ok (.invokestatic 218, 3) := by decide +kernel
theorem dl_1704 : decode code 1704 = .ok (.istore 5, 2) := by decide +kernel
theorem dl_1706 : decode code 1706 = .ok (.aload_n 2, 1) := by decide +kernel
theorem dl_1707 : decode code 1707 = .ok (.aload_n 0, 1) := by decide +kernel
theorem dl_1708 : decode code 1708 = .ok (.iload 4, 2) := by decide +kernel
theorem dl_1710 : decode code 1710 = .ok (.iconst 1, 1) := by decide +kernel
theorem dl_1711 : decode code 1711 = .ok (.iadd, 1) := by decide +kernel
theorem dl_1712 : decode code 1712 = .ok (.iaload, 1) := by decide +kernel
theorem dl_1713 : decode code 1713 = .ok (.aload_n 0, 1) := by decide +kernel
theorem dl_1714 : decode code 1714 = .ok (.iload 4, 2) := by decide +kernel
theorem dl_1716 : decode code 1716 = .ok (.iconst 2, 1) := by decide +kernel
theorem dl_1717 : decode code 1717 = .ok (.iadd, 1) := by decide +kernel
theorem dl_1718 : decode code 1718 = .ok (.iaload, 1) := by decide +kernel
theorem dl_1719 : decode code 1719 = .ok (.invokevirtual 220, 3) := by decide +kernel
theorem dl_1722 : decode code 1722 = .ok (.istore 6, 2) := by decide +kernel
theorem dl_1724 : decode code 1724 = .ok (.aload_n 2, 1) := by decide +kernel
theorem dl_1725 : decode code 1725 = .ok (.invokevirtual 125, 3) := by decide +kernel
theorem dl_1728 : decode code 1728 = .ok (.iload 5, 2) := by decide +kernel
theorem dl_1730 : decode code 1730 = .ok (.if_icmp .eq 5, 3) := by decide +kernel
theorem dl_1735 : decode code 1735 = .ok (.iload 5, 2) := by decide +kernel
theorem dl_1737 : decode code 1737 = .ok (.ifCond .ne 15, 3) := by decide +kernel
theorem dl_1740 : decode code 1740 = .ok (.aload_n 3, 1) := by decide +kernel
theorem dl_1741 : decode code 1741 = .ok (.iconst 0, 1) := by decide +kernel
theorem dl_1742 : decode code 1742 = .ok (.laload, 1) := by decide +kernel
theorem dl_1743 : decode code 1743 = .ok (.iload 6, 2) := by decide +kernel
theorem dl_1745 : decode code 1745 = .ok (.i2l, 1) := by decide +kernel
theorem dl_1746 : decode code 1746 = .ok (.lcmp, 1) := by decide +kernel
theorem dl_1747 : decode code 1747 = .ok (.ifCond .eq 5, 3) := by decide +kernel
theorem dl_1752 : decode code 1752 = .ok (.goto 777, 3) := by decide +kernel
set_option maxRecDepth 100000 in
theorem lc_push (hst : l.stackTraces = false) (C : LCX l E p s m c b L xs) (hi : i + 5 < L) (hL : L ≤ 3072) (hk : k + 4 ≤ 601024 ∧ n + 24 ≤ 7293034) (hR : REL σ) (kk : ∀ σ2, REL σ2 → LW l E p e s m below meth c b Q (k + 4) (n + 24) 2529 (lo4 i) [] σ2) : LW l E p e s m below meth c b Q k n 1687 (lo4 i) [] σ := by
  obtain ⟨tag, v, σ1, e1, H1⟩ := q_push (xs (i + 1)) (xs (i + 2)) σ hR
  have ht : tag = 0 ∨ tag = 3 := by
    obtain ⟨w, σ2, -, h2, -⟩ := H1 σ1 (fun _ _ => rfl)
    exact (thr_k1 h2).2
  obtain ⟨w, σ2, e2, h2, h3, h4, h5⟩ := H1 _ (e54_w (σ1 := σ1) (tag := tag) (v := v))
  have hk1 : σ2 133 7 = kti [3] tag := (thr_k1 h2).1
  have hv : tag = 0 → σ2 154 0 = w := fun h => by
    rw [h5, if_pos h, su_s]
    exact h3 h
  refine lr_aload_n (pc := 1687) C 0 dl_1687 rfl rfl ?_
  refine lr_arg (pc := 1688) (i := i) (j := 1) C 3 rfl (by omega) hL dl_1688 dl_1689 1 (by decide) dl_1691 dl_1692 dl_1693 ?_
  refine lr_arg (pc := 1694) (i := i) (j := 2) C 3 rfl (by omega) hL dl_1694 dl_1695 2 (by decide) dl_1697 dl_1698 dl_1699 ?_
  refine lr_aload_n (pc := 1700) C 2 dl_1700 rfl rfl ?_
  refine lr_callW (pc := 1701) (hh := hL_push) (M' := mL_push) (y := yL_push) (ix := 218) (t := kti [3] tag) (σ2 := (if tag = 0 then su σ1 154 0 v else σ1)) (st := []) [.ref 0, .int (xs (i + 1)), .int (xs (i + 2)), .ref 154] C (tL_push l hst (xs (i + 1)) (xs (i + 2)) σ tag v σ1 e1 ht) dl_1701 rfl rfl kw_L_push lk_L_218 (by decide) (Nat.zero_le _) (show k + 2 ≤ 601024 ∧ n + 12 ≤ 7293034 by omega) ?_
  refine lr_istore (pc := 1704) C ((5, .int (kti [3] tag)) :: lo4 i) dl_1704 (by decide) (by decide) rfl ?_
  refine lr_aload_n (pc := 1706) C 2 dl_1706 rfl rfl ?_
  refine lr_arg (pc := 1707) (i := i) (j := 1) C 4 rfl (by omega) hL dl_1707 dl_1708 1 (by decide) dl_1710 dl_1711 dl_1712 ?_
  refine lr_arg (pc := 1713) (i := i) (j := 2) C 4 rfl (by omega) hL dl_1713 dl_1714 2 (by decide) dl_1716 dl_1717 dl_1718 ?_
  refine lr_callV (pc := 1719) (q := 133) (ci := 7) (o1 := (0, .int w, σ2)) (M' := mX7_push) (y := yX7_push) (ix := 220) (st := []) [.int (xs (i + 1)), .int (xs (i + 2))] C (tX7_push l hst (xs (i + 1)) (xs (i + 2)) _ (w, σ2) e2) rfl dl_1719 rfl ks_133 (show vwCl[7]? = some _ from rfl) yw_X7_push lk_L_220 (by decide) (Nat.zero_le _) (show k + 2 + 0 ≤ 601024 ∧ n + 12 + 0 ≤ 7293034 by omega) ?_
  refine lr_istore (pc := 1722) C ((6, .int w) :: (5, .int (kti [3] tag)) :: lo4 i) dl_1722 (by decide) (by decide) rfl ?_
  exact lr_tail (pc := 1724) (i := i) hst C hk1 hv (show k + 2 + 0 ≤ 601024 ∧ n + 12 + 0 ≤ 7293034 by omega) dl_1724 dl_1725 dl_1728 dl_1730 dl_1735 dl_1737 dl_1740 dl_1741 dl_1742 dl_1743 dl_1745 dl_1746 dl_1747 dl_1752 (by decide) (lr_widen (k + 4) (n + 24) (show k + 2 + 0 ≤ k + 4 by omega) (show n + 12 + 0 ≤ n + 24 by omega) (kk σ2 h4))
theorem dl_1755 : decode code 1755 = .ok (.aload_n 1, 1) := by decide +kernel
theorem dl_1756 : decode code 1756 = .ok (.aload_n 0, 1) := by decide +kernel
theorem dl_1757 : decode code 1757 = .ok (.iload 4, 2) := by decide +kernel
theorem dl_1759 : decode code 1759 = .ok (.iconst 1, 1) := by decide +kernel
theorem dl_1760 : decode code 1760 = .ok (.iadd, 1) := by decide +kernel
theorem dl_1761 : decode code 1761 = .ok (.iaload, 1) := by decide +kernel
theorem dl_1762 : decode code 1762 = .ok (.aload_n 0, 1) := by decide +kernel
theorem dl_1763 : decode code 1763 = .ok (.iload 4, 2) := by decide +kernel
theorem dl_1765 : decode code 1765 = .ok (.iconst 2, 1) := by decide +kernel
theorem dl_1766 : decode code 1766 = .ok (.iadd, 1) := by decide +kernel
theorem dl_1767 : decode code 1767 = .ok (.iaload, 1) := by decide +kernel
theorem dl_1768 : decode code 1768 = .ok (.aload_n 3, 1) := by decide +kernel
theorem dl_1769 : decode code 1769 = .ok (.invokestatic 221, 3) := by decide +kernel
theorem dl_1772 : decode code 1772 = .ok (.istore 5, 2) := by decide +kernel
theorem dl_1774 : decode code 1774 = .ok (.aload_n 2, 1) := by decide +kernel
theorem dl_1775 : decode code 1775 = .ok (.aload_n 0, 1) := by decide +kernel
theorem dl_1776 : decode code 1776 = .ok (.iload 4, 2) := by decide +kernel
theorem dl_1778 : decode code 1778 = .ok (.iconst 1, 1) := by decide +kernel
theorem dl_1779 : decode code 1779 = .ok (.iadd, 1) := by decide +kernel
theorem dl_1780 : decode code 1780 = .ok (.iaload, 1) := by decide +kernel
theorem dl_1781 : decode code 1781 = .ok (.aload_n 0, 1) := by decide +kernel
theorem dl_1782 : decode code 1782 = .ok (.iload 4, 2) := by decide +kernel
theorem dl_1784 : decode code 1784 = .ok (.iconst 2, 1) := by decide +kernel
theorem dl_1785 : decode code 1785 = .ok (.iadd, 1) := by decide +kernel
theorem dl_1786 : decode code 1786 = .ok (.iaload, 1) := by decide +kernel
theorem dl_1787 : decode code 1787 = .ok (.invokevirtual 223, 3) := by decide +kernel
theorem dl_1790 : decode code 1790 = .ok (.istore 6, 2) := by decide +kernel
theorem dl_1792 : decode code 1792 = .ok (.aload_n 2, 1) := by decide +kernel
theorem dl_1793 : decode code 1793 = .ok (.invokevirtual 125, 3) := by decide +kernel
theorem dl_1796 : decode code 1796 = .ok (.iload 5, 2) := by decide +kernel
theorem dl_1798 : decode code 1798 = .ok (.if_icmp .eq 5, 3) := by decide +kernel
theorem dl_1803 : decode code 1803 = .ok (.iload 5, 2) := by decide +kernel
theorem dl_1805 : decode code 1805 = .ok (.ifCond .ne 15, 3) := by decide +kernel
theorem dl_1808 : decode code 1808 = .ok (.aload_n 3, 1) := by decide +kernel
theorem dl_1809 : decode code 1809 = .ok (.iconst 0, 1) := by decide +kernel
theorem dl_1810 : decode code 1810 = .ok (.laload, 1) := by decide +kernel
theorem dl_1811 : decode code 1811 = .ok (.iload 6, 2) := by decide +kernel
theorem dl_1813 : decode code 1813 = .ok (.i2l, 1) := by decide +kernel
theorem dl_1814 : decode code 1814 = .ok (.lcmp, 1) := by decide +kernel
theorem dl_1815 : decode code 1815 = .ok (.ifCond .eq 5, 3) := by decide +kernel
theorem dl_1820 : decode code 1820 = .ok (.goto 709, 3) := by decide +kernel
set_option maxRecDepth 100000 in
theorem lc_paint (hst : l.stackTraces = false) (C : LCX l E p s m c b L xs) (hi : i + 5 < L) (hL : L ≤ 3072) (hk : k + 4 ≤ 601024 ∧ n + 24 ≤ 7293034) (hR : REL σ) (kk : ∀ σ2, REL σ2 → LW l E p e s m below meth c b Q (k + 4) (n + 24) 2529 (lo4 i) [] σ2) : LW l E p e s m below meth c b Q k n 1755 (lo4 i) [] σ := by
  obtain ⟨tag, v, σ1, e1, H1⟩ := q_paint (xs (i + 1)) (xs (i + 2)) σ hR
  have ht : tag = 0 ∨ tag = 3 ∨ tag = 1 := by
    obtain ⟨w, σ2, -, h2, -⟩ := H1 σ1 (fun _ _ => rfl)
    exact (thr_k2 (by decide) h2).2
  obtain ⟨w, σ2, e2, h2, h3, h4, h5⟩ := H1 _ (e54_w (σ1 := σ1) (tag := tag) (v := v))
  have hk1 : σ2 133 7 = kti [3, 1] tag := (thr_k2 (by decide) h2).1
  have hv : tag = 0 → σ2 154 0 = w := fun h => by
    rw [h5, if_pos h, su_s]
    exact h3 h
  refine lr_aload_n (pc := 1755) C 0 dl_1755 rfl rfl ?_
  refine lr_arg (pc := 1756) (i := i) (j := 1) C 3 rfl (by omega) hL dl_1756 dl_1757 1 (by decide) dl_1759 dl_1760 dl_1761 ?_
  refine lr_arg (pc := 1762) (i := i) (j := 2) C 3 rfl (by omega) hL dl_1762 dl_1763 2 (by decide) dl_1765 dl_1766 dl_1767 ?_
  refine lr_aload_n (pc := 1768) C 2 dl_1768 rfl rfl ?_
  refine lr_callW (pc := 1769) (hh := hL_paint) (M' := mL_paint) (y := yL_paint) (ix := 221) (t := kti [3, 1] tag) (σ2 := (if tag = 0 then su σ1 154 0 v else σ1)) (st := []) [.ref 0, .int (xs (i + 1)), .int (xs (i + 2)), .ref 154] C (tL_paint l hst (xs (i + 1)) (xs (i + 2)) σ tag v σ1 e1 ht) dl_1769 rfl rfl kw_L_paint lk_L_221 (by decide) (Nat.zero_le _) (show k + 2 ≤ 601024 ∧ n + 12 ≤ 7293034 by omega) ?_
  refine lr_istore (pc := 1772) C ((5, .int (kti [3, 1] tag)) :: lo4 i) dl_1772 (by decide) (by decide) rfl ?_
  refine lr_aload_n (pc := 1774) C 2 dl_1774 rfl rfl ?_
  refine lr_arg (pc := 1775) (i := i) (j := 1) C 4 rfl (by omega) hL dl_1775 dl_1776 1 (by decide) dl_1778 dl_1779 dl_1780 ?_
  refine lr_arg (pc := 1781) (i := i) (j := 2) C 4 rfl (by omega) hL dl_1781 dl_1782 2 (by decide) dl_1784 dl_1785 dl_1786 ?_
  refine lr_callV (pc := 1787) (q := 133) (ci := 7) (o1 := (0, .int w, σ2)) (M' := mX7_paint) (y := yX7_paint) (ix := 223) (st := []) [.int (xs (i + 1)), .int (xs (i + 2))] C (tX7_paint l hst (xs (i + 1)) (xs (i + 2)) _ (w, σ2) e2) rfl dl_1787 rfl ks_133 (show vwCl[7]? = some _ from rfl) yw_X7_paint lk_L_223 (by decide) (Nat.zero_le _) (show k + 2 + 0 ≤ 601024 ∧ n + 12 + 0 ≤ 7293034 by omega) ?_
  refine lr_istore (pc := 1790) C ((6, .int w) :: (5, .int (kti [3, 1] tag)) :: lo4 i) dl_1790 (by decide) (by decide) rfl ?_
  exact lr_tail (pc := 1792) (i := i) hst C hk1 hv (show k + 2 + 0 ≤ 601024 ∧ n + 12 + 0 ≤ 7293034 by omega) dl_1792 dl_1793 dl_1796 dl_1798 dl_1803 dl_1805 dl_1808 dl_1809 dl_1810 dl_1811 dl_1813 dl_1814 dl_1815 dl_1820 (by decide) (lr_widen (k + 4) (n + 24) (show k + 2 + 0 ≤ k + 4 by omega) (show n + 12 + 0 ≤ n + 24 by omega) (kk σ2 h4))
theorem dl_1823 : decode code 1823 = .ok (.aload_n 1, 1) := by decide +kernel
theorem dl_1824 : decode code 1824 = .ok (.aload_n 0, 1) := by decide +kernel
theorem dl_1825 : decode code 1825 = .ok (.iload 4, 2) := by decide +kernel
theorem dl_1827 : decode code 1827 = .ok (.iconst 1, 1) := by decide +kernel
theorem dl_1828 : decode code 1828 = .ok (.iadd, 1) := by decide +kernel
theorem dl_1829 : decode code 1829 = .ok (.iaload, 1) := by decide +kernel
theorem dl_1830 : decode code 1830 = .ok (.aload_n 3, 1) := by decide +kernel
theorem dl_1831 : decode code 1831 = .ok (.invokestatic 224, 3) := by decide +kernel
theorem dl_1834 : decode code 1834 = .ok (.istore 5, 2) := by decide +kernel
theorem dl_1836 : decode code 1836 = .ok (.aload_n 2, 1) := by decide +kernel
theorem dl_1837 : decode code 1837 = .ok (.aload_n 0, 1) := by decide +kernel
theorem dl_1838 : decode code 1838 = .ok (.iload 4, 2) := by decide +kernel
theorem dl_1840 : decode code 1840 = .ok (.iconst 1, 1) := by decide +kernel
theorem dl_1841 : decode code 1841 = .ok (.iadd, 1) := by decide +kernel
theorem dl_1842 : decode code 1842 = .ok (.iaload, 1) := by decide +kernel
theorem dl_1843 : decode code 1843 = .ok (.invokevirtual 226, 3) := by decide +kernel
theorem dl_1846 : decode code 1846 = .ok (.istore 6, 2) := by decide +kernel
theorem dl_1848 : decode code 1848 = .ok (.aload_n 2, 1) := by decide +kernel
theorem dl_1849 : decode code 1849 = .ok (.invokevirtual 125, 3) := by decide +kernel
theorem dl_1852 : decode code 1852 = .ok (.iload 5, 2) := by decide +kernel
theorem dl_1854 : decode code 1854 = .ok (.if_icmp .eq 5, 3) := by decide +kernel
theorem dl_1859 : decode code 1859 = .ok (.iload 5, 2) := by decide +kernel
theorem dl_1861 : decode code 1861 = .ok (.ifCond .ne 15, 3) := by decide +kernel
theorem dl_1864 : decode code 1864 = .ok (.aload_n 3, 1) := by decide +kernel
theorem dl_1865 : decode code 1865 = .ok (.iconst 0, 1) := by decide +kernel
theorem dl_1866 : decode code 1866 = .ok (.laload, 1) := by decide +kernel
theorem dl_1867 : decode code 1867 = .ok (.iload 6, 2) := by decide +kernel
theorem dl_1869 : decode code 1869 = .ok (.i2l, 1) := by decide +kernel
theorem dl_1870 : decode code 1870 = .ok (.lcmp, 1) := by decide +kernel
theorem dl_1871 : decode code 1871 = .ok (.ifCond .eq 5, 3) := by decide +kernel
theorem dl_1876 : decode code 1876 = .ok (.goto 653, 3) := by decide +kernel
set_option maxRecDepth 100000 in
theorem lc_turn (hst : l.stackTraces = false) (C : LCX l E p s m c b L xs) (hi : i + 5 < L) (hL : L ≤ 3072) (hk : k + 4 ≤ 601024 ∧ n + 24 ≤ 7293034) (hR : REL σ) (kk : ∀ σ2, REL σ2 → LW l E p e s m below meth c b Q (k + 4) (n + 24) 2529 (lo4 i) [] σ2) : LW l E p e s m below meth c b Q k n 1823 (lo4 i) [] σ := by
  obtain ⟨tag, v, σ1, e1, H1⟩ := q_turn (xs (i + 1)) σ hR
  have ht : tag = 0 ∨ tag = 1 := by
    obtain ⟨w, σ2, -, h2, -⟩ := H1 σ1 (fun _ _ => rfl)
    exact (thr_k1 h2).2
  obtain ⟨w, σ2, e2, h2, h3, h4, h5⟩ := H1 _ (e54_w (σ1 := σ1) (tag := tag) (v := v))
  have hk1 : σ2 133 7 = kti [1] tag := (thr_k1 h2).1
  have hv : tag = 0 → σ2 154 0 = w := fun h => by
    rw [h5, if_pos h, su_s]
    exact h3 h
  refine lr_aload_n (pc := 1823) C 0 dl_1823 rfl rfl ?_
  refine lr_arg (pc := 1824) (i := i) (j := 1) C 3 rfl (by omega) hL dl_1824 dl_1825 1 (by decide) dl_1827 dl_1828 dl_1829 ?_
  refine lr_aload_n (pc := 1830) C 2 dl_1830 rfl rfl ?_
  refine lr_callW (pc := 1831) (hh := hL_turn) (M' := mL_turn) (y := yL_turn) (ix := 224) (t := kti [1] tag) (σ2 := (if tag = 0 then su σ1 154 0 v else σ1)) (st := []) [.ref 0, .int (xs (i + 1)), .ref 154] C (tL_turn l hst (xs (i + 1)) σ tag v σ1 e1 ht) dl_1831 rfl rfl kw_L_turn lk_L_224 (by decide) (Nat.zero_le _) (show k + 1 ≤ 601024 ∧ n + 6 ≤ 7293034 by omega) ?_
  refine lr_istore (pc := 1834) C ((5, .int (kti [1] tag)) :: lo4 i) dl_1834 (by decide) (by decide) rfl ?_
  refine lr_aload_n (pc := 1836) C 2 dl_1836 rfl rfl ?_
  refine lr_arg (pc := 1837) (i := i) (j := 1) C 4 rfl (by omega) hL dl_1837 dl_1838 1 (by decide) dl_1840 dl_1841 dl_1842 ?_
  refine lr_callV (pc := 1843) (q := 133) (ci := 7) (o1 := (0, .int w, σ2)) (M' := mX7_turn) (y := yX7_turn) (ix := 226) (st := []) [.int (xs (i + 1))] C (tX7_turn l hst (xs (i + 1)) _ (w, σ2) e2) rfl dl_1843 rfl ks_133 (show vwCl[7]? = some _ from rfl) yw_X7_turn lk_L_226 (by decide) (Nat.zero_le _) (show k + 1 + 0 ≤ 601024 ∧ n + 6 + 0 ≤ 7293034 by omega) ?_
  refine lr_istore (pc := 1846) C ((6, .int w) :: (5, .int (kti [1] tag)) :: lo4 i) dl_1846 (by decide) (by decide) rfl ?_
  exact lr_tail (pc := 1848) (i := i) hst C hk1 hv (show k + 1 + 0 ≤ 601024 ∧ n + 6 + 0 ≤ 7293034 by omega) dl_1848 dl_1849 dl_1852 dl_1854 dl_1859 dl_1861 dl_1864 dl_1865 dl_1866 dl_1867 dl_1869 dl_1870 dl_1871 dl_1876 (by decide) (lr_widen (k + 4) (n + 24) (show k + 1 + 0 ≤ k + 4 by omega) (show n + 6 + 0 ≤ n + 24 by omega) (kk σ2 h4))
end LC2
