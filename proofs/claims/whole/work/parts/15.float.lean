theorem kf_n64 {r : UInt64} (h : FP.Core.dIsNaN r = false) : vf_n64 r := by
  have h1 : ¬ 9218868437227405312 < r.toNat % 2 ^ 63 := fun q => by rw [(FP.Core.isNaN_bits r).mpr q] at h; cases h
  unfold vf_n64
  rw [UInt64.le_iff_toNat_le, UInt64.toNat_and, show (0x7fffffffffffffff : UInt64).toNat = 2 ^ 63 - 1 from rfl, Nat.and_two_pow_sub_one_eq_mod, show (0x7ff0000000000000 : UInt64).toNat = 9218868437227405312 from rfl]
  omega
theorem kf_n32 {r : UInt32} (h : FP.Core.fIsNaN r = false) : vf_n32 r := by
  have h1 : ¬ 2139095040 < r.toNat % 2 ^ 31 := fun q => by rw [(FP.Core.isNaN_bits32 r).mpr q] at h; cases h
  unfold vf_n32
  rw [UInt32.le_iff_toNat_le, UInt32.toNat_and, show (0x7fffffff : UInt32).toNat = 2 ^ 31 - 1 from rfl, Nat.and_two_pow_sub_one_eq_mod, show (0x7f800000 : UInt32).toNat = 2139095040 from rfl]
  omega
theorem kf64' {a b : Int32} (h : ¬ b = 0) : FP.Core.dIsNaN (FP.ddiv (FP.i2d a) (FP.i2d b)) = false := FP.Core.ddiv_out (FP.Core.i2d_fin a).notNaN (FP.Core.i2d_fin b) (fun q => FP.Core.i2d_ne_zero h ((FP.Core.zero_bits2 _).mp q))
theorem kf32' {a b : Int32} (h : ¬ b = 0) : FP.Core.fIsNaN (FP.fdiv (FP.i2f a) (FP.i2f b)) = false := FP.Core.fdiv_out (FP.Core.i2f_fin a).notNaN (FP.Core.i2f_fin b) (fun q => FP.Core.i2f_ne_zero h ((FP.Core.zero_bits232 _).mp q))
theorem kf64 {a b : Int32} (h : ¬ b = 0) : vf_n64 (FP.ddiv (FP.i2d a) (FP.i2d b)) := kf_n64 (kf64' h)
theorem kf32 {a b : Int32} (h : ¬ b = 0) : vf_n32 (FP.fdiv (FP.i2f a) (FP.i2f b)) := kf_n32 (kf32' h)
theorem dX6_meanBrightness_0 : decode cX6_meanBrightness 0 = .ok (.aload_n 0, 1) := by decide +kernel
theorem dX6_meanBrightness_1 : decode cX6_meanBrightness 1 = .ok (.getfield 44, 3) := by decide +kernel
theorem dX6_meanBrightness_4 : decode cX6_meanBrightness 4 = .ok (.aload_n 0, 1) := by decide +kernel
theorem dX6_meanBrightness_5 : decode cX6_meanBrightness 5 = .ok (.getfield 12, 3) := by decide +kernel
theorem dX6_meanBrightness_8 : decode cX6_meanBrightness 8 = .ok (.invokevirtual 206, 3) := by decide +kernel
theorem dX6_meanBrightness_11 : decode cX6_meanBrightness 11 = .ok (.aload_n 0, 1) := by decide +kernel
theorem dX6_meanBrightness_12 : decode cX6_meanBrightness 12 = .ok (.getfield 44, 3) := by decide +kernel
theorem dX6_meanBrightness_15 : decode cX6_meanBrightness 15 = .ok (.invokevirtual 311, 3) := by decide +kernel
theorem dX6_meanBrightness_18 : decode cX6_meanBrightness 18 = .ok (.istore_n 1, 1) := by decide +kernel
theorem dX6_meanBrightness_19 : decode cX6_meanBrightness 19 = .ok (.iload_n 1, 1) := by decide +kernel
theorem dX6_meanBrightness_20 : decode cX6_meanBrightness 20 = .ok (.ifCond .ne 5, 3) := by decide +kernel
theorem dX6_meanBrightness_23 : decode cX6_meanBrightness 23 = .ok (.dconst 0, 1) := by decide +kernel
theorem dX6_meanBrightness_24 : decode cX6_meanBrightness 24 = .ok (.dreturn, 1) := by decide +kernel
theorem dX6_meanBrightness_25 : decode cX6_meanBrightness 25 = .ok (.aload_n 0, 1) := by decide +kernel
theorem dX6_meanBrightness_26 : decode cX6_meanBrightness 26 = .ok (.getfield 44, 3) := by decide +kernel
theorem dX6_meanBrightness_29 : decode cX6_meanBrightness 29 = .ok (.aload_n 0, 1) := by decide +kernel
theorem dX6_meanBrightness_30 : decode cX6_meanBrightness 30 = .ok (.getfield 12, 3) := by decide +kernel
theorem dX6_meanBrightness_33 : decode cX6_meanBrightness 33 = .ok (.iconst 0, 1) := by decide +kernel
theorem dX6_meanBrightness_34 : decode cX6_meanBrightness 34 = .ok (.invokevirtual 229, 3) := by decide +kernel
theorem dX6_meanBrightness_37 : decode cX6_meanBrightness 37 = .ok (.i2d, 1) := by decide +kernel
theorem dX6_meanBrightness_38 : decode cX6_meanBrightness 38 = .ok (.iload_n 1, 1) := by decide +kernel
theorem dX6_meanBrightness_39 : decode cX6_meanBrightness 39 = .ok (.i2d, 1) := by decide +kernel
theorem dX6_meanBrightness_40 : decode cX6_meanBrightness 40 = .ok (.ddiv, 1) := by decide +kernel
theorem dX6_meanBrightness_41 : decode cX6_meanBrightness 41 = .ok (.dreturn, 1) := by decide +kernel
abbrev mX6_meanBrightness : KM := (RX6, cX6_meanBrightness, 2, (some .double), { frames := 5, cells := 0, slots := 0, locals := 115 }, 0, 0)
def fX6_meanBrightness (σ : Sto) : Option (UInt64 × Sto) :=
  (fX3_look 7 25 σ).bind fun r1 =>
  (fX3_countSeen 7 r1).bind fun r4 =>
  if r4 = 0 then
    some (FP.dconst0, r1)
  else
    (fX3_sumOfBrightness 7 25 0 r1).bind fun r7 =>
    if r4 = 0 then none else
    some (FP.ddiv (FP.i2d r7) (FP.i2d r4), r1)
set_option maxHeartbeats 4000000 in
set_option maxRecDepth 100000 in
theorem tX6_meanBrightness (l : Launch) (hst : l.stackTraces = false) (σ : Sto) (r : (UInt64 × Sto)) (h : fX6_meanBrightness σ = some r) : CT ksh l mX6_meanBrightness yX6_meanBrightness [.ref 0] σ (0, .double r.1, r.2) := by
  refine kct [(0, .ref 0)] hst (by decide +kernel) rfl rfl (Nat.le_of_ble_eq_true rfl) ?_
  rw [fX6_meanBrightness] at h
  refine kv_aload_n (pc := 0) 0 dX6_meanBrightness_0 rfl rfl ?_
  refine kv_getR (pc := 1) (q2 := 7) dX6_meanBrightness_1 ks_0 rfl (i := 9) (by decide) rfl fl_X6_44 rfl rfl ?_
  refine kv_aload_n (pc := 4) 0 dX6_meanBrightness_4 rfl rfl ?_
  refine kv_getR (pc := 5) (q2 := 25) dX6_meanBrightness_5 ks_0 rfl (i := 0) (by decide) rfl fl_X6_12 rfl rfl ?_
  refine kv_cV (pc := 8) [.ref 25] (fun r1 => (0, .int 0, r1)) (fun r1 => []) (fun r1 => r1) 11 0 0 h (fun r1 g2 => tX3_look ksh kwf_ksh l hst 7 ks_7 25 ks_25 σ r1 g2) dX6_meanBrightness_8 rfl ks_7 rfl yw_X3_look lk_X6_206 (by decide) (Nat.le_of_ble_eq_true rfl) (by decide) (fun _ => rfl) (fun _ => rfl) ⟨rfl, rfl, rfl⟩ (fun _ _ h0 => absurd rfl h0) (fun r1 g2 z3 h => ?_)
  refine kv_aload_n (pc := 11) 0 dX6_meanBrightness_11 rfl rfl ?_
  refine kv_getR (pc := 12) (q2 := 7) dX6_meanBrightness_12 ks_0 rfl (i := 9) (by decide) rfl fl_X6_44 rfl rfl ?_
  refine kv_cV (pc := 15) [] (fun r4 => (0, .int r4, r1)) (fun r4 => (.int r4 :: [])) (fun r4 => r1) 18 0 0 h (fun r4 g5 => tX3_countSeen ksh kwf_ksh l hst 7 ks_7 r1 r4 g5) dX6_meanBrightness_15 rfl ks_7 rfl yw_X3_countSeen lk_X6_311 (by decide) (Nat.le_of_ble_eq_true rfl) (by decide) (fun _ => rfl) (fun _ => rfl) ⟨rfl, rfl, rfl⟩ (fun _ _ h0 => absurd rfl h0) (fun r4 g5 z6 h => ?_)
  refine kv_istore_n (pc := 18) [(1, .int r4), (0, .ref 0)] dX6_meanBrightness_18 rfl (by decide) rfl ?_
  refine kv_iload_n (pc := 19) 0 dX6_meanBrightness_19 rfl rfl ?_
  refine kv_if_ne (pc := 20) (tgt := 25) dX6_meanBrightness_20 (by decide) h (fun h => ?_) (fun h => ?_)
  · refine kv_aload_n (pc := 25) 1 dX6_meanBrightness_25 rfl rfl ?_
    refine kv_getR (pc := 26) (q2 := 7) dX6_meanBrightness_26 ks_0 rfl (i := 9) (by decide) rfl fl_X6_44 rfl rfl ?_
    refine kv_aload_n (pc := 29) 1 dX6_meanBrightness_29 rfl rfl ?_
    refine kv_getR (pc := 30) (q2 := 25) dX6_meanBrightness_30 ks_0 rfl (i := 0) (by decide) rfl fl_X6_12 rfl rfl ?_
    refine kv_iconst (pc := 33) (v := 0) dX6_meanBrightness_33 (by decide) ?_
    refine kv_cV (pc := 34) [.ref 25, .int 0] (fun r7 => (0, .int r7, r1)) (fun r7 => (.int r7 :: [])) (fun r7 => r1) 37 0 0 h (fun r7 g8 => tX3_sumOfBrightness ksh kwf_ksh l hst 7 ks_7 25 ks_25 0 r1 r7 g8) dX6_meanBrightness_34 rfl ks_7 rfl yw_X3_sumOfBrightness lk_X6_229 (by decide) (Nat.le_of_ble_eq_true rfl) (by decide) (fun _ => rfl) (fun _ => rfl) ⟨rfl, rfl, rfl⟩ (fun _ _ h0 => absurd rfl h0) (fun r7 g8 z9 h => ?_)
    refine kv_i2d (pc := 37) dX6_meanBrightness_37 ?_
    refine kv_iload_n (pc := 38) 0 dX6_meanBrightness_38 rfl rfl ?_
    refine kv_i2d (pc := 39) dX6_meanBrightness_39 ?_
    obtain ⟨c10, h⟩ := knz h
    refine kv_ddiv (pc := 40) dX6_meanBrightness_40 (kf64 c10) ?_
    exact kv_dret (pc := 41) dX6_meanBrightness_41 rfl (by cases h; rfl) (by decide) (by decide)
  · refine kv_dconst0 (pc := 23) dX6_meanBrightness_23 ?_
    exact kv_dret (pc := 24) dX6_meanBrightness_24 rfl (by cases h; rfl) (by decide) (by decide)
theorem dX6_filled_0 : decode cX6_filled 0 = .ok (.aload_n 0, 1) := by decide +kernel
theorem dX6_filled_1 : decode cX6_filled 1 = .ok (.getfield 12, 3) := by decide +kernel
theorem dX6_filled_4 : decode cX6_filled 4 = .ok (.getfield 104, 3) := by decide +kernel
theorem dX6_filled_7 : decode cX6_filled 7 = .ok (.invokevirtual 129, 3) := by decide +kernel
theorem dX6_filled_10 : decode cX6_filled 10 = .ok (.istore_n 1, 1) := by decide +kernel
theorem dX6_filled_11 : decode cX6_filled 11 = .ok (.iload_n 1, 1) := by decide +kernel
theorem dX6_filled_12 : decode cX6_filled 12 = .ok (.ifCond .ne 5, 3) := by decide +kernel
theorem dX6_filled_15 : decode cX6_filled 15 = .ok (.fconst 0, 1) := by decide +kernel
theorem dX6_filled_16 : decode cX6_filled 16 = .ok (.freturn, 1) := by decide +kernel
theorem dX6_filled_17 : decode cX6_filled 17 = .ok (.aload_n 0, 1) := by decide +kernel
theorem dX6_filled_18 : decode cX6_filled 18 = .ok (.getfield 12, 3) := by decide +kernel
theorem dX6_filled_21 : decode cX6_filled 21 = .ok (.invokevirtual 125, 3) := by decide +kernel
theorem dX6_filled_24 : decode cX6_filled 24 = .ok (.i2f, 1) := by decide +kernel
theorem dX6_filled_25 : decode cX6_filled 25 = .ok (.iload_n 1, 1) := by decide +kernel
theorem dX6_filled_26 : decode cX6_filled 26 = .ok (.i2f, 1) := by decide +kernel
theorem dX6_filled_27 : decode cX6_filled 27 = .ok (.fdiv, 1) := by decide +kernel
theorem dX6_filled_28 : decode cX6_filled 28 = .ok (.freturn, 1) := by decide +kernel
abbrev mX6_filled : KM := (RX6, cX6_filled, 2, (some .float), { frames := 3, cells := 0, slots := 0, locals := 64 }, 0, 0)
def fX6_filled (σ : Sto) : Option UInt32 :=
  (fX1_boxCells 26 σ).bind fun r1 =>
  if r1 = 0 then
    some FP.fconst0
  else
    (fX5_chipsInBox 25 σ).bind fun r4 =>
    if r1 = 0 then none else
    some (FP.fdiv (FP.i2f r4) (FP.i2f r1))
set_option maxHeartbeats 4000000 in
set_option maxRecDepth 100000 in
theorem tX6_filled (l : Launch) (hst : l.stackTraces = false) (σ : Sto) (r : UInt32) (h : fX6_filled σ = some r) : CT ksh l mX6_filled yX6_filled [.ref 0] σ (0, .float r, σ) := by
  refine kct [(0, .ref 0)] hst (by decide +kernel) rfl rfl (Nat.le_of_ble_eq_true rfl) ?_
  rw [fX6_filled] at h
  refine kv_aload_n (pc := 0) 0 dX6_filled_0 rfl rfl ?_
  refine kv_getR (pc := 1) (q2 := 25) dX6_filled_1 ks_0 rfl (i := 0) (by decide) rfl fl_X6_12 rfl rfl ?_
  refine kv_getR (pc := 4) (q2 := 26) dX6_filled_4 ks_25 rfl (i := 0) (by decide) rfl fl_X6_104 rfl rfl ?_
  refine kv_cV (pc := 7) [] (fun r1 => (0, .int r1, σ)) (fun r1 => (.int r1 :: [])) (fun r1 => σ) 10 0 0 h (fun r1 g2 => tX1_boxCells ksh kwf_ksh l hst 26 ks_26 σ r1 g2) dX6_filled_7 rfl ks_26 rfl yw_X1_boxCells lk_X6_129 (by decide) (Nat.le_of_ble_eq_true rfl) (by decide) (fun _ => rfl) (fun _ => rfl) ⟨rfl, rfl, rfl⟩ (fun _ _ h0 => absurd rfl h0) (fun r1 g2 z3 h => ?_)
  refine kv_istore_n (pc := 10) [(1, .int r1), (0, .ref 0)] dX6_filled_10 rfl (by decide) rfl ?_
  refine kv_iload_n (pc := 11) 0 dX6_filled_11 rfl rfl ?_
  refine kv_if_ne (pc := 12) (tgt := 17) dX6_filled_12 (by decide) h (fun h => ?_) (fun h => ?_)
  · refine kv_aload_n (pc := 17) 1 dX6_filled_17 rfl rfl ?_
    refine kv_getR (pc := 18) (q2 := 25) dX6_filled_18 ks_0 rfl (i := 0) (by decide) rfl fl_X6_12 rfl rfl ?_
    refine kv_cV (pc := 21) [] (fun r4 => (0, .int r4, σ)) (fun r4 => (.int r4 :: [])) (fun r4 => σ) 24 0 0 h (fun r4 g5 => tX5_chipsInBox ksh kwf_ksh l hst 25 ks_25 σ r4 g5) dX6_filled_21 rfl ks_25 rfl yw_X5_chipsInBox lk_X6_125 (by decide) (Nat.le_of_ble_eq_true rfl) (by decide) (fun _ => rfl) (fun _ => rfl) ⟨rfl, rfl, rfl⟩ (fun _ _ h0 => absurd rfl h0) (fun r4 g5 z6 h => ?_)
    refine kv_i2f (pc := 24) dX6_filled_24 ?_
    refine kv_iload_n (pc := 25) 0 dX6_filled_25 rfl rfl ?_
    refine kv_i2f (pc := 26) dX6_filled_26 ?_
    obtain ⟨c7, h⟩ := knz h
    refine kv_fdiv (pc := 27) dX6_filled_27 (kf32 c7) ?_
    exact kv_fret (pc := 28) dX6_filled_28 rfl (by cases h; rfl) (by decide) (by decide)
  · refine kv_fconst0 (pc := 15) dX6_filled_15 ?_
    exact kv_fret (pc := 16) dX6_filled_16 rfl (by cases h; rfl) (by decide) (by decide)
theorem dX7_meanBrightness_0 : decode cX7_meanBrightness 0 = .ok (.aload_n 0, 1) := by decide +kernel
theorem dX7_meanBrightness_1 : decode cX7_meanBrightness 1 = .ok (.iconst 0, 1) := by decide +kernel
theorem dX7_meanBrightness_2 : decode cX7_meanBrightness 2 = .ok (.putfield 79, 3) := by decide +kernel
theorem dX7_meanBrightness_5 : decode cX7_meanBrightness 5 = .ok (.aload_n 0, 1) := by decide +kernel
theorem dX7_meanBrightness_6 : decode cX7_meanBrightness 6 = .ok (.invokevirtual 352, 3) := by decide +kernel
theorem dX7_meanBrightness_9 : decode cX7_meanBrightness 9 = .ok (.istore_n 1, 1) := by decide +kernel
theorem dX7_meanBrightness_10 : decode cX7_meanBrightness 10 = .ok (.iconst 0, 1) := by decide +kernel
theorem dX7_meanBrightness_11 : decode cX7_meanBrightness 11 = .ok (.istore_n 2, 1) := by decide +kernel
theorem dX7_meanBrightness_12 : decode cX7_meanBrightness 12 = .ok (.iconst 0, 1) := by decide +kernel
theorem dX7_meanBrightness_13 : decode cX7_meanBrightness 13 = .ok (.istore_n 3, 1) := by decide +kernel
theorem dX7_meanBrightness_14 : decode cX7_meanBrightness 14 = .ok (.iload_n 3, 1) := by decide +kernel
theorem dX7_meanBrightness_15 : decode cX7_meanBrightness 15 = .ok (.sipush 169, 3) := by decide +kernel
theorem dX7_meanBrightness_18 : decode cX7_meanBrightness 18 = .ok (.if_icmp .ge 17, 3) := by decide +kernel
theorem dX7_meanBrightness_21 : decode cX7_meanBrightness 21 = .ok (.iload_n 2, 1) := by decide +kernel
theorem dX7_meanBrightness_22 : decode cX7_meanBrightness 22 = .ok (.aload_n 0, 1) := by decide +kernel
theorem dX7_meanBrightness_23 : decode cX7_meanBrightness 23 = .ok (.iload_n 3, 1) := by decide +kernel
theorem dX7_meanBrightness_24 : decode cX7_meanBrightness 24 = .ok (.invokevirtual 365, 3) := by decide +kernel
theorem dX7_meanBrightness_27 : decode cX7_meanBrightness 27 = .ok (.iadd, 1) := by decide +kernel
theorem dX7_meanBrightness_28 : decode cX7_meanBrightness 28 = .ok (.istore_n 2, 1) := by decide +kernel
theorem dX7_meanBrightness_29 : decode cX7_meanBrightness 29 = .ok (.iinc 3 1, 3) := by decide +kernel
theorem dX7_meanBrightness_32 : decode cX7_meanBrightness 32 = .ok (.goto (-18), 3) := by decide +kernel
theorem dX7_meanBrightness_35 : decode cX7_meanBrightness 35 = .ok (.iload_n 2, 1) := by decide +kernel
theorem dX7_meanBrightness_36 : decode cX7_meanBrightness 36 = .ok (.i2d, 1) := by decide +kernel
theorem dX7_meanBrightness_37 : decode cX7_meanBrightness 37 = .ok (.iload_n 1, 1) := by decide +kernel
theorem dX7_meanBrightness_38 : decode cX7_meanBrightness 38 = .ok (.i2d, 1) := by decide +kernel
theorem dX7_meanBrightness_39 : decode cX7_meanBrightness 39 = .ok (.ddiv, 1) := by decide +kernel
theorem dX7_meanBrightness_40 : decode cX7_meanBrightness 40 = .ok (.dreturn, 1) := by decide +kernel
abbrev mX7_meanBrightness : KM := (RX7, cX7_meanBrightness, 4, (some .double), { frames := 6, cells := 0, slots := 0, locals := 133 }, 0, 0)
def fX7_meanBrightness_L14 : Nat → Int32 → Int32 → Int32 → Sto → Option (UInt64 × Sto)
  | 0, _, _, _, _ => none
  | fu + 1, v1, v2, v3, σ =>
    if 169 ≤ v3 then
      if v1 = 0 then none else
      some (FP.ddiv (FP.i2d v2) (FP.i2d v1), σ)
    else
      (fX7_brightnessOf v3 σ).bind fun r6 =>
      fX7_meanBrightness_L14 fu v1 (v2 + r6) (v3 + 1) σ
def fX7_meanBrightness (σ : Sto) : Option (UInt64 × Sto) :=
  klet (su σ 133 7 0) fun σ1 =>
  (fX7_seenMany σ1).bind fun r2 =>
  fX7_meanBrightness_L14 kFU r2.1 0 0 r2.2
set_option maxHeartbeats 4000000 in
set_option maxRecDepth 100000 in
theorem wX7_meanBrightness_L14 (l : Launch) (hst : l.stackTraces = false) : ∀ (fu : Nat), ∀ (v1 : Int32), ∀ (v2 : Int32), ∀ (v3 : Int32), ∀ (σ : Sto), ∀ (r : (UInt64 × Sto)), fX7_meanBrightness_L14 fu v1 v2 v3 σ = some r → VV ksh l mX7_meanBrightness 0 0 14 [(0, .ref 133), (1, .int v1), (2, .int v2), (3, .int v3)] [] σ (0, .double r.1, r.2) := by
  intro fu
  induction fu with
  | zero => intro v1 v2 v3 σ r h; rw [fX7_meanBrightness_L14] at h; cases h
  | succ fu ih =>
    intro v1 v2 v3 σ r h
    rw [fX7_meanBrightness_L14] at h
    refine kv_iload_n (pc := 14) 3 dX7_meanBrightness_14 rfl rfl ?_
    refine kv_sipush (pc := 15) (v := 169) dX7_meanBrightness_15 (by decide) ?_
    refine kv_icmp_ge (pc := 18) (tgt := 35) dX7_meanBrightness_18 (by decide) h (fun h => ?_) (fun h => ?_)
    · refine kv_iload_n (pc := 35) 2 dX7_meanBrightness_35 rfl rfl ?_
      refine kv_i2d (pc := 36) dX7_meanBrightness_36 ?_
      refine kv_iload_n (pc := 37) 1 dX7_meanBrightness_37 rfl rfl ?_
      refine kv_i2d (pc := 38) dX7_meanBrightness_38 ?_
      obtain ⟨c5, h⟩ := knz h
      refine kv_ddiv (pc := 39) dX7_meanBrightness_39 (kf64 c5) ?_
      exact kv_dret (pc := 40) dX7_meanBrightness_40 rfl (by cases h; rfl) (by decide) (by decide)
    · refine kv_iload_n (pc := 21) 2 dX7_meanBrightness_21 rfl rfl ?_
      refine kv_aload_n (pc := 22) 0 dX7_meanBrightness_22 rfl rfl ?_
      refine kv_iload_n (pc := 23) 3 dX7_meanBrightness_23 rfl rfl ?_
      refine kv_cV (pc := 24) [.int v3] (fun r6 => (0, .int r6, σ)) (fun r6 => (.int r6 :: [.int v2])) (fun r6 => σ) 27 0 0 h (fun r6 g7 => tX7_brightnessOf  l hst v3 σ r6 g7) dX7_meanBrightness_24 rfl ks_133 rfl yw_X7_brightnessOf lk_X7_365 (by decide) (Nat.le_of_ble_eq_true rfl) (by decide) (fun _ => rfl) (fun _ => rfl) ⟨rfl, rfl, rfl⟩ (fun _ _ h0 => absurd rfl h0) (fun r6 g7 z8 h => ?_)
      refine kv_iadd (pc := 27) dX7_meanBrightness_27 ?_
      refine kv_istore_n (pc := 28) [(2, .int (v2 + r6)), (0, .ref 133), (1, .int v1), (3, .int v3)] dX7_meanBrightness_28 rfl (by decide) rfl ?_
      refine kv_iinc (pc := 29) (v := v3 + 1) 3 [(3, .int (v3 + 1)), (2, .int (v2 + r6)), (0, .ref 133), (1, .int v1)] dX7_meanBrightness_29 rfl rfl (by decide) rfl ?_
      refine kv_goto (pc := 32) (tgt := 14) dX7_meanBrightness_32 (by decide) ?_
      refine kv_sub (pc := 14) [(0, .ref 133), (1, .int v1), (2, .int (v2 + r6)), (3, .int (v3 + 1))] [2, 3, 1, 0] rfl ?_
      exact ih v1 (v2 + r6) (v3 + 1) σ r h
set_option maxHeartbeats 4000000 in
set_option maxRecDepth 100000 in
theorem tX7_meanBrightness (l : Launch) (hst : l.stackTraces = false) (σ : Sto) (r : (UInt64 × Sto)) (h : fX7_meanBrightness σ = some r) : CT ksh l mX7_meanBrightness yX7_meanBrightness [.ref 133] σ (0, .double r.1, r.2) := by
  refine kct [(0, .ref 133)] hst (by decide +kernel) rfl rfl (Nat.le_of_ble_eq_true rfl) ?_
  rw [fX7_meanBrightness] at h
  refine kv_aload_n (pc := 0) 0 dX7_meanBrightness_0 rfl rfl ?_
  refine kv_iconst (pc := 1) (v := 0) dX7_meanBrightness_1 (by decide) ?_
  refine kv_put (pc := 2) tyX7 tyX7_ok nmX7 dX7_meanBrightness_2 ks_133 rfl (i := 7) (by decide) rfl fl_X7_79 rfl rfl rfl rfl rfl ?_
  refine kv_let h (fun σ1 h => ?_)
  refine kv_aload_n (pc := 5) 0 dX7_meanBrightness_5 rfl rfl ?_
  refine kv_cV (pc := 6) [] (fun r2 => (0, .int r2.1, r2.2)) (fun r2 => (.int r2.1 :: [])) (fun r2 => r2.2) 9 0 0 h (fun r2 g3 => tX7_seenMany  l hst  σ1 r2 g3) dX7_meanBrightness_6 rfl ks_133 rfl yw_X7_seenMany lk_X7_352 (by decide) (Nat.le_of_ble_eq_true rfl) (by decide) (fun _ => rfl) (fun _ => rfl) ⟨rfl, rfl, rfl⟩ (fun _ _ h0 => absurd rfl h0) (fun r2 g3 z4 h => ?_)
  refine kv_istore_n (pc := 9) [(1, .int r2.1), (0, .ref 133)] dX7_meanBrightness_9 rfl (by decide) rfl ?_
  refine kv_iconst (pc := 10) (v := 0) dX7_meanBrightness_10 (by decide) ?_
  refine kv_istore_n (pc := 11) [(2, .int 0), (1, .int r2.1), (0, .ref 133)] dX7_meanBrightness_11 rfl (by decide) rfl ?_
  refine kv_iconst (pc := 12) (v := 0) dX7_meanBrightness_12 (by decide) ?_
  refine kv_istore_n (pc := 13) [(3, .int 0), (2, .int 0), (1, .int r2.1), (0, .ref 133)] dX7_meanBrightness_13 rfl (by decide) rfl ?_
  refine kv_sub (pc := 14) [(0, .ref 133), (1, .int r2.1), (2, .int 0), (3, .int 0)] [3, 2, 1, 0] rfl ?_
  exact wX7_meanBrightness_L14 l hst kFU r2.1 0 0 r2.2 r h
theorem dX7_filled_0 : decode cX7_filled 0 = .ok (.aload_n 0, 1) := by decide +kernel
theorem dX7_filled_1 : decode cX7_filled 1 = .ok (.iconst 0, 1) := by decide +kernel
theorem dX7_filled_2 : decode cX7_filled 2 = .ok (.putfield 79, 3) := by decide +kernel
theorem dX7_filled_5 : decode cX7_filled 5 = .ok (.aload_n 0, 1) := by decide +kernel
theorem dX7_filled_6 : decode cX7_filled 6 = .ok (.invokevirtual 343, 3) := by decide +kernel
theorem dX7_filled_9 : decode cX7_filled 9 = .ok (.i2f, 1) := by decide +kernel
theorem dX7_filled_10 : decode cX7_filled 10 = .ok (.aload_n 0, 1) := by decide +kernel
theorem dX7_filled_11 : decode cX7_filled 11 = .ok (.invokevirtual 346, 3) := by decide +kernel
theorem dX7_filled_14 : decode cX7_filled 14 = .ok (.i2f, 1) := by decide +kernel
theorem dX7_filled_15 : decode cX7_filled 15 = .ok (.fdiv, 1) := by decide +kernel
theorem dX7_filled_16 : decode cX7_filled 16 = .ok (.freturn, 1) := by decide +kernel
abbrev mX7_filled : KM := (RX7, cX7_filled, 1, (some .float), { frames := 5, cells := 0, slots := 0, locals := 110 }, 0, 0)
def fX7_filled (σ : Sto) : Option (UInt32 × Sto) :=
  klet (su σ 133 7 0) fun σ1 =>
  (fX7_insideMany σ1).bind fun r2 =>
  (fX7_boxMany σ1).bind fun r5 =>
  if r5 = 0 then none else
  some (FP.fdiv (FP.i2f r2) (FP.i2f r5), σ1)
set_option maxHeartbeats 4000000 in
set_option maxRecDepth 100000 in
theorem tX7_filled (l : Launch) (hst : l.stackTraces = false) (σ : Sto) (r : (UInt32 × Sto)) (h : fX7_filled σ = some r) : CT ksh l mX7_filled yX7_filled [.ref 133] σ (0, .float r.1, r.2) := by
  refine kct [(0, .ref 133)] hst (by decide +kernel) rfl rfl (Nat.le_of_ble_eq_true rfl) ?_
  rw [fX7_filled] at h
  refine kv_aload_n (pc := 0) 0 dX7_filled_0 rfl rfl ?_
  refine kv_iconst (pc := 1) (v := 0) dX7_filled_1 (by decide) ?_
  refine kv_put (pc := 2) tyX7 tyX7_ok nmX7 dX7_filled_2 ks_133 rfl (i := 7) (by decide) rfl fl_X7_79 rfl rfl rfl rfl rfl ?_
  refine kv_let h (fun σ1 h => ?_)
  refine kv_aload_n (pc := 5) 0 dX7_filled_5 rfl rfl ?_
  refine kv_cV (pc := 6) [] (fun r2 => (0, .int r2, σ1)) (fun r2 => (.int r2 :: [])) (fun r2 => σ1) 9 0 0 h (fun r2 g3 => tX7_insideMany  l hst  σ1 r2 g3) dX7_filled_6 rfl ks_133 rfl yw_X7_insideMany lk_X7_343 (by decide) (Nat.le_of_ble_eq_true rfl) (by decide) (fun _ => rfl) (fun _ => rfl) ⟨rfl, rfl, rfl⟩ (fun _ _ h0 => absurd rfl h0) (fun r2 g3 z4 h => ?_)
  refine kv_i2f (pc := 9) dX7_filled_9 ?_
  refine kv_aload_n (pc := 10) 0 dX7_filled_10 rfl rfl ?_
  refine kv_cV (pc := 11) [] (fun r5 => (0, .int r5, σ1)) (fun r5 => (.int r5 :: [.float (FP.i2f r2)])) (fun r5 => σ1) 14 0 0 h (fun r5 g6 => tX7_boxMany  l hst  σ1 r5 g6) dX7_filled_11 rfl ks_133 rfl yw_X7_boxMany lk_X7_346 (by decide) (Nat.le_of_ble_eq_true rfl) (by decide) (fun _ => rfl) (fun _ => rfl) ⟨rfl, rfl, rfl⟩ (fun _ _ h0 => absurd rfl h0) (fun r5 g6 z7 h => ?_)
  refine kv_i2f (pc := 14) dX7_filled_14 ?_
  obtain ⟨c8, h⟩ := knz h
  refine kv_fdiv (pc := 15) dX7_filled_15 (kf32 c8) ?_
  exact kv_fret (pc := 16) dX7_filled_16 rfl (by cases h; rfl) (by decide) (by decide)
