/-! the law's loop -/
theorem and63 (x : Int32) : ∃ r, r < 64 ∧ x &&& 63 = nI r := by
  refine ⟨(x &&& 63).toBitVec.toNat, ?_, ?_⟩
  · rw [Int32.toBitVec_and, BitVec.toNat_and]
    have := Nat.and_le_right (n := x.toBitVec.toNat) (m := (63 : Int32).toBitVec.toNat)
    have e : (63 : Int32).toBitVec.toNat = 63 := rfl
    omega
  · refine Int32.toBitVec_inj.mp ?_
    show _ = BitVec.ofNat 32 _
    rw [BitVec.ofNat_toNat, BitVec.setWidth_eq]
theorem sub6 {L : Nat} (hL : L ≤ 3072) : (nI L - 6).toInt = (L : Int) - 6 := by
  rw [Int32.toInt_sub, nI_i (by omega), show (6 : Int32).toInt = 6 from rfl]
  unfold Int.bmod
  simp only
  split <;> omega
theorem lt6 {L i : Nat} (hL : L ≤ 3072) (hi : i ≤ 3078) : nI L - 6 < nI i ↔ L < i + 6 := by
  rw [Int32.lt_iff_toInt_lt, sub6 hL, nI_i (by omega)]
  omega
theorem dl_23 : decode code 23 = .ok (.iload 4, 2) := by decide +kernel
theorem dl_25 : decode code 25 = .ok (.aload_n 0, 1) := by decide +kernel
theorem dl_26 : decode code 26 = .ok (.arraylength, 1) := by decide +kernel
theorem dl_27 : decode code 27 = .ok (.bipush 6, 2) := by decide +kernel
theorem dl_29 : decode code 29 = .ok (.isub, 1) := by decide +kernel
theorem dl_30 : decode code 30 = .ok (.if_icmp .gt 2505, 3) := by decide +kernel
theorem dl_33 : decode code 33 = .ok (.aload_n 0, 1) := by decide +kernel
theorem dl_34 : decode code 34 = .ok (.iload 4, 2) := by decide +kernel
theorem dl_36 : decode code 36 = .ok (.iaload, 1) := by decide +kernel
theorem dl_37 : decode code 37 = .ok (.bipush 63, 2) := by decide +kernel
theorem dl_39 : decode code 39 = .ok (.iand, 1) := by decide +kernel
theorem dl_40 : decode code 40 = .ok (.tableswitch 2489 0 45 #[200, 256, 312, 325, 338, 351, 407, 475, 543, 611, 667, 735, 803, 871, 967, 1035, 1091, 1147, 1203, 1271, 1284, 1297, 1310, 1323, 1431, 1487, 1591, 1647, 1715, 1783, 1839, 1852, 1865, 1949, 2005, 2018, 2102, 2170, 2226, 2282, 2323, 2366, 2379, 2404, 2417, 2453], 200) := by decide +kernel
theorem dl_2529 : decode code 2529 = .ok (.iinc 4 6, 3) := by decide +kernel
theorem dl_2532 : decode code 2532 = .ok (.goto (-2509), 3) := by decide +kernel
section LLOOP
variable {l : Launch} {E : KE} {p : Program} {e : Env} {s : State} {m : MethodId} {below : List Frame} {meth : Method} {c : Code} {b L : Nat} {xs : Nat → Int32} {Q : State → Prop} {k n i : Nat} {σ : Sto}
set_option maxRecDepth 100000 in
theorem lc_any (hst : l.stackTraces = false) (C : LCX l E p s m c b L xs) (hi : i + 5 < L) (hL : L ≤ 3072) (hk : k + 4 ≤ 601024 ∧ n + 24 ≤ 7293034) (hR : REL σ) (kk : ∀ σ2, REL σ2 → LW l E p e s m below meth c b Q (k + 4) (n + 24) 2529 (lo4 i) [] σ2) : LW l E p e s m below meth c b Q k n 33 (lo4 i) [] σ := by
  obtain ⟨r, hr, hx⟩ := and63 (xs i)
  refine lr_arg0 (pc := 33) (i := i) C 3 rfl (by omega) hL dl_33 dl_34 dl_36 ?_
  refine lr_bipush (pc := 37) (v := 63) C dl_37 (by decide) ?_
  refine lr_iand (pc := 39) C dl_39 ?_
  rw [hx]
  match r, hr with
  | 0, _ => exact lr_table (tgt := 240) (off := 200) C dl_40 (by decide) (by decide) rfl (by decide) (lc_appendText hst C hi hL hk hR kk)
  | 1, _ => exact lr_table (tgt := 296) (off := 256) C dl_40 (by decide) (by decide) rfl (by decide) (lc_truncateText hst C hi hL hk hR kk)
  | 2, _ => exact lr_table (tgt := 352) (off := 312) C dl_40 (by decide) (by decide) rfl (by decide) (lc_load hst C hi hL hk hR kk)
  | 3, _ => exact lr_table (tgt := 365) (off := 325) C dl_40 (by decide) (by decide) rfl (by decide) (lc_errorCode hst C hi hL hk hR kk)
  | 4, _ => exact lr_table (tgt := 378) (off := 338) C dl_40 (by decide) (by decide) rfl (by decide) (lc_errorPosition hst C hi hL hk hR kk)
  | 5, _ => exact lr_table (tgt := 391) (off := 351) C dl_40 (by decide) (by decide) rfl (by decide) (lc_count hst C hi hL hk hR kk)
  | 6, _ => exact lr_table (tgt := 447) (off := 407) C dl_40 (by decide) (by decide) rfl (by decide) (lc_chip hst C hi hL hk hR kk)
  | 7, _ => exact lr_table (tgt := 515) (off := 475) C dl_40 (by decide) (by decide) rfl (by decide) (lc_chipAt hst C hi hL hk hR kk)
  | 8, _ => exact lr_table (tgt := 583) (off := 543) C dl_40 (by decide) (by decide) rfl (by decide) (lc_depth hst C hi hL hk hR kk)
  | 9, _ => exact lr_table (tgt := 651) (off := 611) C dl_40 (by decide) (by decide) rfl (by decide) (lc_account hst C hi hL hk hR kk)
  | 10, _ => exact lr_table (tgt := 707) (off := 667) C dl_40 (by decide) (by decide) rfl (by decide) (lc_colour hst C hi hL hk hR kk)
  | 11, _ => exact lr_table (tgt := 775) (off := 735) C dl_40 (by decide) (by decide) rfl (by decide) (lc_brightness hst C hi hL hk hR kk)
  | 12, _ => exact lr_table (tgt := 843) (off := 803) C dl_40 (by decide) (by decide) rfl (by decide) (lc_reflections hst C hi hL hk hR kk)
  | 13, _ => exact lr_table (tgt := 911) (off := 871) C dl_40 (by decide) (by decide) rfl (by decide) (lc_source hst C hi hL hk hR kk)
  | 14, _ => exact lr_table (tgt := 1007) (off := 967) C dl_40 (by decide) (by decide) rfl (by decide) (lc_images hst C hi hL hk hR kk)
  | 15, _ => exact lr_table (tgt := 1075) (off := 1035) C dl_40 (by decide) (by decide) rfl (by decide) (lc_cellsOf hst C hi hL hk hR kk)
  | 16, _ => exact lr_table (tgt := 1131) (off := 1091) C dl_40 (by decide) (by decide) rfl (by decide) (lc_commonest hst C hi hL hk hR kk)
  | 17, _ => exact lr_table (tgt := 1187) (off := 1147) C dl_40 (by decide) (by decide) rfl (by decide) (lc_regions hst C hi hL hk hR kk)
  | 18, _ => exact lr_table (tgt := 1243) (off := 1203) C dl_40 (by decide) (by decide) rfl (by decide) (lc_regionSize hst C hi hL hk hR kk)
  | 19, _ => exact lr_table (tgt := 1311) (off := 1271) C dl_40 (by decide) (by decide) rfl (by decide) (lc_edges hst C hi hL hk hR kk)
  | 20, _ => exact lr_table (tgt := 1324) (off := 1284) C dl_40 (by decide) (by decide) rfl (by decide) (lc_light hst C hi hL hk hR kk)
  | 21, _ => exact lr_table (tgt := 1337) (off := 1297) C dl_40 (by decide) (by decide) rfl (by decide) (lc_symmetries hst C hi hL hk hR kk)
  | 22, _ => exact lr_table (tgt := 1350) (off := 1310) C dl_40 (by decide) (by decide) rfl (by decide) (lc_ownMaps hst C hi hL hk hR kk)
  | 23, _ => exact lr_table (tgt := 1363) (off := 1323) C dl_40 (by decide) (by decide) rfl (by decide) (lc_mapped hst C hi hL hk hR kk)
  | 24, _ => exact lr_table (tgt := 1471) (off := 1431) C dl_40 (by decide) (by decide) rfl (by decide) (lc_matches hst C hi hL hk hR kk)
  | 25, _ => exact lr_table (tgt := 1527) (off := 1487) C dl_40 (by decide) (by decide) rfl (by decide) (lc_add hst C hi hL hk hR kk)
  | 26, _ => exact lr_table (tgt := 1631) (off := 1591) C dl_40 (by decide) (by decide) rfl (by decide) (lc_take hst C hi hL hk hR kk)
  | 27, _ => exact lr_table (tgt := 1687) (off := 1647) C dl_40 (by decide) (by decide) rfl (by decide) (lc_push hst C hi hL hk hR kk)
  | 28, _ => exact lr_table (tgt := 1755) (off := 1715) C dl_40 (by decide) (by decide) rfl (by decide) (lc_paint hst C hi hL hk hR kk)
  | 29, _ => exact lr_table (tgt := 1823) (off := 1783) C dl_40 (by decide) (by decide) rfl (by decide) (lc_turn hst C hi hL hk hR kk)
  | 30, _ => exact lr_table (tgt := 1879) (off := 1839) C dl_40 (by decide) (by decide) rfl (by decide) (lc_tick hst C hi hL hk hR kk)
  | 31, _ => exact lr_table (tgt := 1892) (off := 1852) C dl_40 (by decide) (by decide) rfl (by decide) (lc_settle hst C hi hL hk hR kk)
  | 32, _ => exact lr_table (tgt := 1905) (off := 1865) C dl_40 (by decide) (by decide) rfl (by decide) (lc_cover hst C hi hL hk hR kk)
  | 33, _ => exact lr_table (tgt := 1989) (off := 1949) C dl_40 (by decide) (by decide) rfl (by decide) (lc_setKeep hst C hi hL hk hR kk)
  | 34, _ => exact lr_table (tgt := 2045) (off := 2005) C dl_40 (by decide) (by decide) rfl (by decide) (lc_moves hst C hi hL hk hR kk)
  | 35, _ => exact lr_table (tgt := 2058) (off := 2018) C dl_40 (by decide) (by decide) rfl (by decide) (lc_restsAt hst C hi hL hk hR kk)
  | 36, _ => exact lr_table (tgt := 2142) (off := 2102) C dl_40 (by decide) (by decide) rfl (by decide) (lc_settled hst C hi hL hk hR kk)
  | 37, _ => exact lr_table (tgt := 2210) (off := 2170) C dl_40 (by decide) (by decide) rfl (by decide) (lc_bestTurn hst C hi hL hk hR kk)
  | 38, _ => exact lr_table (tgt := 2266) (off := 2226) C dl_40 (by decide) (by decide) rfl (by decide) (lc_period hst C hi hL hk hR kk)
  | 39, _ => exact lr_table (tgt := 2322) (off := 2282) C dl_40 (by decide) (by decide) rfl (by decide) (lc_meanBrightness hst C hi hL hk hR kk)
  | 40, _ => exact lr_table (tgt := 2363) (off := 2323) C dl_40 (by decide) (by decide) rfl (by decide) (lc_filled hst C hi hL hk hR kk)
  | 41, _ => exact lr_table (tgt := 2406) (off := 2366) C dl_40 (by decide) (by decide) rfl (by decide) (lc_write hst C hi hL hk hR kk)
  | 42, _ => exact lr_table (tgt := 2419) (off := 2379) C dl_40 (by decide) (by decide) rfl (by decide) (lc_output hst C hi hL hk hR kk)
  | 43, _ => exact lr_table (tgt := 2444) (off := 2404) C dl_40 (by decide) (by decide) rfl (by decide) (lc_undo hst C hi hL hk hR kk)
  | 44, _ => exact lr_table (tgt := 2457) (off := 2417) C dl_40 (by decide) (by decide) rfl (by decide) (lc_save hst C hi hL hk hR kk)
  | 45, _ => exact lr_table (tgt := 2493) (off := 2453) C dl_40 (by decide) (by decide) rfl (by decide) (lc_restore hst C hi hL hk hR kk)
  | r + 46, h46 =>
    refine lr_tableO (tgt := 2529) C dl_40 (.inr ?_) (by decide) (lr_widen (k + 4) (n + 24) (by omega) (by omega) (kk σ hR))
    rw [nI_i (by omega)]
    omega
theorem lr_loop (hst : l.stackTraces = false) (C : LCX l E p s m c b L xs) (hL : L ≤ 3072) (hend : ∀ k n i σ, k ≤ 601024 → n ≤ 7293034 → LW l E p e s m below meth c b Q k n 2535 (lo4 i) [] σ) :
    ∀ r k n i σ, L ≤ i + 6 * r → i ≤ 3078 → k + 4 * r ≤ 601024 → n + 24 * r ≤ 7293034 → REL σ → LW l E p e s m below meth c b Q k n 23 (lo4 i) [] σ := by
  intro r
  induction r with
  | zero =>
    intro k n i σ h1 h2 h3 h4 hR
    refine lr_iload (pc := 23) C 3 dl_23 rfl ?_
    refine lr_len (pc := 25) C dl_25 dl_26 ?_
    refine lr_bipush (pc := 27) (v := 6) C dl_27 (by decide) ?_
    refine lr_isub (pc := 29) C dl_29 ?_
    exact lr_icmp_gt (pc := 30) (tgt := 2535) C dl_30 (by decide) (fun _ => hend k n i σ (by omega) (by omega)) (fun h => absurd ((lt6 hL h2).mpr (by omega)) h)
  | succ r ih =>
    intro k n i σ h1 h2 h3 h4 hR
    refine lr_iload (pc := 23) C 3 dl_23 rfl ?_
    refine lr_len (pc := 25) C dl_25 dl_26 ?_
    refine lr_bipush (pc := 27) (v := 6) C dl_27 (by decide) ?_
    refine lr_isub (pc := 29) C dl_29 ?_
    refine lr_icmp_gt (pc := 30) (tgt := 2535) C dl_30 (by decide) (fun _ => hend k n i σ (by omega) (by omega)) (fun h => ?_)
    have hi : i + 5 < L := by
      have := mt (lt6 hL h2).mpr h
      omega
    refine lc_any hst C hi hL ⟨by omega, by omega⟩ hR (fun σ2 h9 => ?_)
    refine lr_iinc (pc := 2529) (x := nI i) (v := nI (i + 6)) C 3 [(4, .int (nI (i + 6))), (1, .ref 0), (2, .ref 133), (3, .ref 154)] dl_2529 rfl (nI_addn i 6) (by decide) (by decide) rfl ?_
    refine lr_goto (pc := 2532) (tgt := 23) C dl_2532 (by decide) ?_
    exact lr_sub (lo4 (i + 6)) [1, 2, 3, 0] rfl (ih (k + 4) (n + 24) (i + 6) σ2 (by omega) (by omega) (by omega) (by omega) h9)
end LLOOP
