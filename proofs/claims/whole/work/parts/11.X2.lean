theorem dX2_addByte_0 : decode cX2_addByte 0 = .ok (.aload_n 0, 1) := by decide +kernel
theorem dX2_addByte_1 : decode cX2_addByte 1 = .ok (.getfield 15, 3) := by decide +kernel
theorem dX2_addByte_4 : decode cX2_addByte 4 = .ok (.ifCond .lt 35, 3) := by decide +kernel
theorem dX2_addByte_7 : decode cX2_addByte 7 = .ok (.aload_n 0, 1) := by decide +kernel
theorem dX2_addByte_8 : decode cX2_addByte 8 = .ok (.getfield 15, 3) := by decide +kernel
theorem dX2_addByte_11 : decode cX2_addByte 11 = .ok (.aload_n 0, 1) := by decide +kernel
theorem dX2_addByte_12 : decode cX2_addByte 12 = .ok (.getfield 9, 3) := by decide +kernel
theorem dX2_addByte_15 : decode cX2_addByte 15 = .ok (.arraylength, 1) := by decide +kernel
theorem dX2_addByte_16 : decode cX2_addByte 16 = .ok (.if_icmp .ge 23, 3) := by decide +kernel
theorem dX2_addByte_19 : decode cX2_addByte 19 = .ok (.aload_n 0, 1) := by decide +kernel
theorem dX2_addByte_20 : decode cX2_addByte 20 = .ok (.getfield 9, 3) := by decide +kernel
theorem dX2_addByte_23 : decode cX2_addByte 23 = .ok (.aload_n 0, 1) := by decide +kernel
theorem dX2_addByte_24 : decode cX2_addByte 24 = .ok (.getfield 15, 3) := by decide +kernel
theorem dX2_addByte_27 : decode cX2_addByte 27 = .ok (.iload_n 1, 1) := by decide +kernel
theorem dX2_addByte_28 : decode cX2_addByte 28 = .ok (.iastore, 1) := by decide +kernel
theorem dX2_addByte_29 : decode cX2_addByte 29 = .ok (.aload_n 0, 1) := by decide +kernel
theorem dX2_addByte_30 : decode cX2_addByte 30 = .ok (.dup, 1) := by decide +kernel
theorem dX2_addByte_31 : decode cX2_addByte 31 = .ok (.getfield 15, 3) := by decide +kernel
theorem dX2_addByte_34 : decode cX2_addByte 34 = .ok (.iconst 1, 1) := by decide +kernel
theorem dX2_addByte_35 : decode cX2_addByte 35 = .ok (.iadd, 1) := by decide +kernel
theorem dX2_addByte_36 : decode cX2_addByte 36 = .ok (.putfield 15, 3) := by decide +kernel
theorem dX2_addByte_39 : decode cX2_addByte 39 = .ok (.return_, 1) := by decide +kernel
abbrev mX2_addByte : KM := (RX2, cX2_addByte, 2, none, { frames := 0, cells := 0, slots := 0, locals := 0 }, 0, 0)
def fX2_addByte (q0 : Nat) (a1 : Int32) (σ : Sto) : Option Sto :=
  if (σ q0 1) < 0 then
    some σ
  else
    if 225 ≤ (σ q0 1) then
      some σ
    else
      if kin (σ q0 1) 225 = true then
        klet (su σ (q0 + 1) (σ q0 1).toNatClampNeg a1) fun σ1 =>
        klet (su σ1 q0 1 ((σ1 q0 1) + 1)) fun σ2 =>
        some σ2
      else none
set_option maxHeartbeats 4000000 in
set_option maxRecDepth 100000 in
theorem tX2_addByte (sh : KSh) (hw : KWf sh) (l : Launch) (hst : l.stackTraces = false) (q0 : Nat) (h0 : sh q0 = .inl 2) (a1 : Int32) (σ : Sto) (r : Sto) (h : fX2_addByte q0 a1 σ = some r) : CT sh l mX2_addByte yX2_addByte [.ref q0, .int a1] σ (0, .int 0, r) := by
  refine kct [(0, .ref q0), (1, .int a1)] hst (by decide +kernel) rfl rfl (Nat.le_of_ble_eq_true rfl) ?_
  rw [fX2_addByte] at h
  refine kv_aload_n (pc := 0) 0 dX2_addByte_0 rfl rfl ?_
  refine kv_getI (pc := 1) dX2_addByte_1 h0 rfl (i := 1) (by decide) rfl fl_X2_15 rfl ?_
  refine kv_if_lt (pc := 4) (tgt := 39) dX2_addByte_4 (by decide) h (fun h => ?_) (fun h => ?_)
  · exact kv_vret (pc := 39) (v := .int 0) dX2_addByte_39 rfl (by cases h; rfl) (by decide) (by decide)
  · refine kv_aload_n (pc := 7) 0 dX2_addByte_7 rfl rfl ?_
    refine kv_getI (pc := 8) dX2_addByte_8 h0 rfl (i := 1) (by decide) rfl fl_X2_15 rfl ?_
    refine kv_aload_n (pc := 11) 0 dX2_addByte_11 rfl rfl ?_
    refine kv_getR (pc := 12) (q2 := q0 + 1) dX2_addByte_12 h0 rfl (i := 0) (by decide) rfl fl_X2_9 rfl rfl ?_
    refine kv_alen (pc := 15) (v := 225) dX2_addByte_15 (show sh (q0 + 1) = _ from kso_2_1 hw h0) (by decide) (by decide) ?_
    refine kv_icmp_ge (pc := 16) (tgt := 39) dX2_addByte_16 (by decide) h (fun h => ?_) (fun h => ?_)
    · exact kv_vret (pc := 39) (v := .int 0) dX2_addByte_39 rfl (by cases h; rfl) (by decide) (by decide)
    · refine kv_aload_n (pc := 19) 0 dX2_addByte_19 rfl rfl ?_
      refine kv_getR (pc := 20) (q2 := q0 + 1) dX2_addByte_20 h0 rfl (i := 0) (by decide) rfl fl_X2_9 rfl rfl ?_
      refine kv_aload_n (pc := 23) 0 dX2_addByte_23 rfl rfl ?_
      refine kv_getI (pc := 24) dX2_addByte_24 h0 rfl (i := 1) (by decide) rfl fl_X2_15 rfl ?_
      refine kv_iload_n (pc := 27) 1 dX2_addByte_27 rfl rfl ?_
      refine kv_iast (pc := 28) dX2_addByte_28 (show sh (q0 + 1) = _ from kso_2_1 hw h0) h (fun h => ?_)
      refine kv_let h (fun σ1 h => ?_)
      refine kv_aload_n (pc := 29) 0 dX2_addByte_29 rfl rfl ?_
      refine kv_dup (pc := 30) dX2_addByte_30 rfl ?_
      refine kv_getI (pc := 31) dX2_addByte_31 h0 rfl (i := 1) (by decide) rfl fl_X2_15 rfl ?_
      refine kv_iconst (pc := 34) (v := 1) dX2_addByte_34 (by decide) ?_
      refine kv_iadd (pc := 35) dX2_addByte_35 ?_
      refine kv_put (pc := 36) tyX2 tyX2_ok nmX2 dX2_addByte_36 h0 rfl (i := 1) (by decide) rfl fl_X2_15 rfl rfl rfl rfl rfl ?_
      refine kv_let h (fun σ2 h => ?_)
      exact kv_vret (pc := 39) (v := .int 0) dX2_addByte_39 rfl (by cases h; rfl) (by decide) (by decide)
theorem yw_X2_addByte : KMV yX2_addByte mX2_addByte RX2 1 := ⟨⟨rfl, by decide +kernel, by decide +kernel, by decide +kernel⟩, ⟨rfl, rfl⟩, kg_in 890 (by decide +kernel) (by decide +kernel), kg_in 34 (by decide +kernel) (by decide +kernel), kg_in 129 (by decide +kernel) (by decide +kernel), kg_in 891 (by decide +kernel) (by decide +kernel)⟩
theorem dX2_show_0 : decode cX2_show 0 = .ok (.aload_n 0, 1) := by decide +kernel
theorem dX2_show_1 : decode cX2_show 1 = .ok (.iconst 0, 1) := by decide +kernel
theorem dX2_show_2 : decode cX2_show 2 = .ok (.putfield 15, 3) := by decide +kernel
theorem dX2_show_5 : decode cX2_show 5 = .ok (.aload_n 2, 1) := by decide +kernel
theorem dX2_show_6 : decode cX2_show 6 = .ok (.getfield 19, 3) := by decide +kernel
theorem dX2_show_9 : decode cX2_show 9 = .ok (.istore_n 3, 1) := by decide +kernel
theorem dX2_show_10 : decode cX2_show 10 = .ok (.iload_n 3, 1) := by decide +kernel
theorem dX2_show_11 : decode cX2_show 11 = .ok (.aload_n 2, 1) := by decide +kernel
theorem dX2_show_12 : decode cX2_show 12 = .ok (.getfield 19, 3) := by decide +kernel
theorem dX2_show_15 : decode cX2_show 15 = .ok (.ineg, 1) := by decide +kernel
theorem dX2_show_16 : decode cX2_show 16 = .ok (.if_icmp .lt 70, 3) := by decide +kernel
theorem dX2_show_19 : decode cX2_show 19 = .ok (.aload_n 2, 1) := by decide +kernel
theorem dX2_show_20 : decode cX2_show 20 = .ok (.getfield 19, 3) := by decide +kernel
theorem dX2_show_23 : decode cX2_show 23 = .ok (.ineg, 1) := by decide +kernel
theorem dX2_show_24 : decode cX2_show 24 = .ok (.istore 4, 2) := by decide +kernel
theorem dX2_show_26 : decode cX2_show 26 = .ok (.iload 4, 2) := by decide +kernel
theorem dX2_show_28 : decode cX2_show 28 = .ok (.aload_n 2, 1) := by decide +kernel
theorem dX2_show_29 : decode cX2_show 29 = .ok (.getfield 19, 3) := by decide +kernel
theorem dX2_show_32 : decode cX2_show 32 = .ok (.if_icmp .gt 42, 3) := by decide +kernel
theorem dX2_show_35 : decode cX2_show 35 = .ok (.aload_n 2, 1) := by decide +kernel
theorem dX2_show_36 : decode cX2_show 36 = .ok (.iload 4, 2) := by decide +kernel
theorem dX2_show_38 : decode cX2_show 38 = .ok (.iload_n 3, 1) := by decide +kernel
theorem dX2_show_39 : decode cX2_show 39 = .ok (.invokevirtual 24, 3) := by decide +kernel
theorem dX2_show_42 : decode cX2_show 42 = .ok (.istore 5, 2) := by decide +kernel
theorem dX2_show_44 : decode cX2_show 44 = .ok (.aload_n 0, 1) := by decide +kernel
theorem dX2_show_45 : decode cX2_show 45 = .ok (.iload 5, 2) := by decide +kernel
theorem dX2_show_47 : decode cX2_show 47 = .ok (.iconst (-1), 1) := by decide +kernel
theorem dX2_show_48 : decode cX2_show 48 = .ok (.if_icmp .ne 8, 3) := by decide +kernel
theorem dX2_show_51 : decode cX2_show 51 = .ok (.bipush 32, 2) := by decide +kernel
theorem dX2_show_53 : decode cX2_show 53 = .ok (.goto 12, 3) := by decide +kernel
theorem dX2_show_56 : decode cX2_show 56 = .ok (.bipush 48, 2) := by decide +kernel
theorem dX2_show_58 : decode cX2_show 58 = .ok (.aload_n 1, 1) := by decide +kernel
theorem dX2_show_59 : decode cX2_show 59 = .ok (.iload 5, 2) := by decide +kernel
theorem dX2_show_61 : decode cX2_show 61 = .ok (.invokevirtual 28, 3) := by decide +kernel
theorem dX2_show_64 : decode cX2_show 64 = .ok (.iadd, 1) := by decide +kernel
theorem dX2_show_65 : decode cX2_show 65 = .ok (.invokevirtual 34, 3) := by decide +kernel
theorem dX2_show_68 : decode cX2_show 68 = .ok (.iinc 4 1, 3) := by decide +kernel
theorem dX2_show_71 : decode cX2_show 71 = .ok (.goto (-45), 3) := by decide +kernel
theorem dX2_show_74 : decode cX2_show 74 = .ok (.aload_n 0, 1) := by decide +kernel
theorem dX2_show_75 : decode cX2_show 75 = .ok (.bipush 10, 2) := by decide +kernel
theorem dX2_show_77 : decode cX2_show 77 = .ok (.invokevirtual 34, 3) := by decide +kernel
theorem dX2_show_80 : decode cX2_show 80 = .ok (.iinc 3 (-1), 3) := by decide +kernel
theorem dX2_show_83 : decode cX2_show 83 = .ok (.goto (-73), 3) := by decide +kernel
theorem dX2_show_86 : decode cX2_show 86 = .ok (.return_, 1) := by decide +kernel
abbrev mX2_show : KM := (RX2, cX2_show, 6, none, { frames := 2, cells := 0, slots := 0, locals := 44 }, 0, 0)
def fX2_show_L26 (q0 : Nat) (q1 : Nat) (q2 : Nat) (K10 : Int32 → Sto → Option Sto) : Nat → Int32 → Int32 → Sto → Option Sto
  | 0, _, _, _ => none
  | fu + 1, v3, v4, σ =>
    if (σ q2 1) < v4 then
      (fX2_addByte q0 10 σ).bind fun r2 =>
      K10 (v3 + (-1)) r2
    else
      (fX1_pictureCell q2 v4 v3 σ).bind fun r5 =>
      if r5 = (-1) then
        (fX2_addByte q0 32 σ).bind fun r14 =>
        fX2_show_L26 q0 q1 q2 K10 fu v3 (v4 + 1) r14
      else
        (fX3_colourOf q1 r5 σ).bind fun r8 =>
        (fX2_addByte q0 (48 + r8) σ).bind fun r11 =>
        fX2_show_L26 q0 q1 q2 K10 fu v3 (v4 + 1) r11
def fX2_show_L10 (q0 : Nat) (q1 : Nat) (q2 : Nat) : Nat → Int32 → Sto → Option Sto
  | 0, _, _ => none
  | fu + 1, v3, σ =>
    if v3 < (-(σ q2 1)) then
      some σ
    else
      fX2_show_L26 q0 q1 q2 (fX2_show_L10 q0 q1 q2 fu) kFU v3 (-(σ q2 1)) σ
def fX2_show (q0 : Nat) (q1 : Nat) (q2 : Nat) (σ : Sto) : Option Sto :=
  klet (su σ q0 1 0) fun σ1 =>
  fX2_show_L10 q0 q1 q2 kFU (σ1 q2 1) σ1
set_option maxHeartbeats 4000000 in
set_option maxRecDepth 100000 in
theorem wX2_show_L26 (sh : KSh) (hw : KWf sh) (l : Launch) (hst : l.stackTraces = false) (q0 : Nat) (h0 : sh q0 = .inl 2) (q1 : Nat) (h1 : sh q1 = .inl 3) (q2 : Nat) (h2 : sh q2 = .inl 1) (K10 : Int32 → Sto → Option Sto) (hK10 : ∀ (v3 : Int32), ∀ (σ : Sto), ∀ (r : Sto), K10 v3 σ = some r → VV sh l mX2_show 0 0 10 [(0, .ref q0), (1, .ref q1), (2, .ref q2), (3, .int v3)] [] σ (0, .int 0, r)) : ∀ (fu : Nat), ∀ (v3 : Int32), ∀ (v4 : Int32), ∀ (σ : Sto), ∀ (r : Sto), fX2_show_L26 q0 q1 q2 K10 fu v3 v4 σ = some r → VV sh l mX2_show 0 0 26 [(0, .ref q0), (1, .ref q1), (2, .ref q2), (3, .int v3), (4, .int v4)] [] σ (0, .int 0, r) := by
  intro fu
  induction fu with
  | zero => intro v3 v4 σ r h; rw [fX2_show_L26] at h; cases h
  | succ fu ih =>
    intro v3 v4 σ r h
    rw [fX2_show_L26] at h
    refine kv_iload (pc := 26) 4 dX2_show_26 rfl ?_
    refine kv_aload_n (pc := 28) 2 dX2_show_28 rfl rfl ?_
    refine kv_getI (pc := 29) dX2_show_29 h2 rfl (i := 1) (by decide) rfl fl_X2_19 rfl ?_
    refine kv_icmp_gt (pc := 32) (tgt := 74) dX2_show_32 (by decide) h (fun h => ?_) (fun h => ?_)
    · refine kv_aload_n (pc := 74) 0 dX2_show_74 rfl rfl ?_
      refine kv_bipush (pc := 75) (v := 10) dX2_show_75 (by decide) ?_
      refine kv_cV (pc := 77) [.int 10] (fun r2 => (0, .int 0, r2)) (fun r2 => []) (fun r2 => r2) 80 0 0 h (fun r2 g3 => tX2_addByte sh hw l hst q0 h0 10 σ r2 g3) dX2_show_77 rfl h0 rfl yw_X2_addByte lk_X2_34 (by decide) (Nat.le_of_ble_eq_true rfl) (by decide) (fun _ => rfl) (fun _ => rfl) ⟨rfl, rfl, rfl⟩ (fun _ _ h0 => absurd rfl h0) (fun r2 g3 z4 h => ?_)
      refine kv_iinc (pc := 80) (v := v3 + (-1)) 3 [(3, .int (v3 + (-1))), (0, .ref q0), (1, .ref q1), (2, .ref q2), (4, .int v4)] dX2_show_80 rfl rfl (by decide) rfl ?_
      refine kv_goto (pc := 83) (tgt := 10) dX2_show_83 (by decide) ?_
      refine kv_sub (pc := 10) [(0, .ref q0), (1, .ref q1), (2, .ref q2), (3, .int (v3 + (-1)))] [1, 2, 3, 0] rfl ?_
      exact hK10 (v3 + (-1)) r2 r h
    · refine kv_aload_n (pc := 35) 2 dX2_show_35 rfl rfl ?_
      refine kv_iload (pc := 36) 4 dX2_show_36 rfl ?_
      refine kv_iload_n (pc := 38) 3 dX2_show_38 rfl rfl ?_
      refine kv_cV (pc := 39) [.int v4, .int v3] (fun r5 => (0, .int r5, σ)) (fun r5 => (.int r5 :: [])) (fun r5 => σ) 42 0 0 h (fun r5 g6 => tX1_pictureCell sh hw l hst q2 h2 v4 v3 σ r5 g6) dX2_show_39 rfl h2 rfl yw_X1_pictureCell lk_X2_24 (by decide) (Nat.le_of_ble_eq_true rfl) (by decide) (fun _ => rfl) (fun _ => rfl) ⟨rfl, rfl, rfl⟩ (fun _ _ h0 => absurd rfl h0) (fun r5 g6 z7 h => ?_)
      refine kv_istore (pc := 42) [(5, .int r5), (0, .ref q0), (1, .ref q1), (2, .ref q2), (3, .int v3), (4, .int v4)] dX2_show_42 (by decide) rfl ?_
      refine kv_aload_n (pc := 44) 1 dX2_show_44 rfl rfl ?_
      refine kv_iload (pc := 45) 0 dX2_show_45 rfl ?_
      refine kv_iconst (pc := 47) (v := (-1)) dX2_show_47 (by decide) ?_
      refine kv_icmp_ne (pc := 48) (tgt := 56) dX2_show_48 (by decide) h (fun h => ?_) (fun h => ?_)
      · refine kv_bipush (pc := 56) (v := 48) dX2_show_56 (by decide) ?_
        refine kv_aload_n (pc := 58) 2 dX2_show_58 rfl rfl ?_
        refine kv_iload (pc := 59) 0 dX2_show_59 rfl ?_
        refine kv_cV (pc := 61) [.int r5] (fun r8 => (0, .int r8, σ)) (fun r8 => (.int r8 :: [.int 48, .ref q0])) (fun r8 => σ) 64 0 0 h (fun r8 g9 => tX3_colourOf sh hw l hst q1 h1 r5 σ r8 g9) dX2_show_61 rfl h1 rfl yw_X3_colourOf lk_X2_28 (by decide) (Nat.le_of_ble_eq_true rfl) (by decide) (fun _ => rfl) (fun _ => rfl) ⟨rfl, rfl, rfl⟩ (fun _ _ h0 => absurd rfl h0) (fun r8 g9 z10 h => ?_)
        refine kv_iadd (pc := 64) dX2_show_64 ?_
        refine kv_cV (pc := 65) [.int (48 + r8)] (fun r11 => (0, .int 0, r11)) (fun r11 => []) (fun r11 => r11) 68 0 0 h (fun r11 g12 => tX2_addByte sh hw l hst q0 h0 (48 + r8) σ r11 g12) dX2_show_65 rfl h0 rfl yw_X2_addByte lk_X2_34 (by decide) (Nat.le_of_ble_eq_true rfl) (by decide) (fun _ => rfl) (fun _ => rfl) ⟨rfl, rfl, rfl⟩ (fun _ _ h0 => absurd rfl h0) (fun r11 g12 z13 h => ?_)
        refine kv_iinc (pc := 68) (v := v4 + 1) 5 [(4, .int (v4 + 1)), (5, .int r5), (0, .ref q0), (1, .ref q1), (2, .ref q2), (3, .int v3)] dX2_show_68 rfl rfl (by decide) rfl ?_
        refine kv_goto (pc := 71) (tgt := 26) dX2_show_71 (by decide) ?_
        refine kv_sub (pc := 26) [(0, .ref q0), (1, .ref q1), (2, .ref q2), (3, .int v3), (4, .int (v4 + 1))] [2, 3, 4, 5, 0] rfl ?_
        exact ih v3 (v4 + 1) r11 r h
      · refine kv_bipush (pc := 51) (v := 32) dX2_show_51 (by decide) ?_
        refine kv_goto (pc := 53) (tgt := 65) dX2_show_53 (by decide) ?_
        refine kv_cV (pc := 65) [.int 32] (fun r14 => (0, .int 0, r14)) (fun r14 => []) (fun r14 => r14) 68 0 0 h (fun r14 g15 => tX2_addByte sh hw l hst q0 h0 32 σ r14 g15) dX2_show_65 rfl h0 rfl yw_X2_addByte lk_X2_34 (by decide) (Nat.le_of_ble_eq_true rfl) (by decide) (fun _ => rfl) (fun _ => rfl) ⟨rfl, rfl, rfl⟩ (fun _ _ h0 => absurd rfl h0) (fun r14 g15 z16 h => ?_)
        refine kv_iinc (pc := 68) (v := v4 + 1) 5 [(4, .int (v4 + 1)), (5, .int r5), (0, .ref q0), (1, .ref q1), (2, .ref q2), (3, .int v3)] dX2_show_68 rfl rfl (by decide) rfl ?_
        refine kv_goto (pc := 71) (tgt := 26) dX2_show_71 (by decide) ?_
        refine kv_sub (pc := 26) [(0, .ref q0), (1, .ref q1), (2, .ref q2), (3, .int v3), (4, .int (v4 + 1))] [2, 3, 4, 5, 0] rfl ?_
        exact ih v3 (v4 + 1) r14 r h
set_option maxHeartbeats 4000000 in
set_option maxRecDepth 100000 in
theorem wX2_show_L10 (sh : KSh) (hw : KWf sh) (l : Launch) (hst : l.stackTraces = false) (q0 : Nat) (h0 : sh q0 = .inl 2) (q1 : Nat) (h1 : sh q1 = .inl 3) (q2 : Nat) (h2 : sh q2 = .inl 1) : ∀ (fu : Nat), ∀ (v3 : Int32), ∀ (σ : Sto), ∀ (r : Sto), fX2_show_L10 q0 q1 q2 fu v3 σ = some r → VV sh l mX2_show 0 0 10 [(0, .ref q0), (1, .ref q1), (2, .ref q2), (3, .int v3)] [] σ (0, .int 0, r) := by
  intro fu
  induction fu with
  | zero => intro v3 σ r h; rw [fX2_show_L10] at h; cases h
  | succ fu ih =>
    intro v3 σ r h
    rw [fX2_show_L10] at h
    refine kv_iload_n (pc := 10) 3 dX2_show_10 rfl rfl ?_
    refine kv_aload_n (pc := 11) 2 dX2_show_11 rfl rfl ?_
    refine kv_getI (pc := 12) dX2_show_12 h2 rfl (i := 1) (by decide) rfl fl_X2_19 rfl ?_
    refine kv_ineg (pc := 15) dX2_show_15 ?_
    refine kv_icmp_lt (pc := 16) (tgt := 86) dX2_show_16 (by decide) h (fun h => ?_) (fun h => ?_)
    · exact kv_vret (pc := 86) (v := .int 0) dX2_show_86 rfl (by cases h; rfl) (by decide) (by decide)
    · refine kv_aload_n (pc := 19) 2 dX2_show_19 rfl rfl ?_
      refine kv_getI (pc := 20) dX2_show_20 h2 rfl (i := 1) (by decide) rfl fl_X2_19 rfl ?_
      refine kv_ineg (pc := 23) dX2_show_23 ?_
      refine kv_istore (pc := 24) [(4, .int (-(σ q2 1))), (0, .ref q0), (1, .ref q1), (2, .ref q2), (3, .int v3)] dX2_show_24 (by decide) rfl ?_
      refine kv_sub (pc := 26) [(0, .ref q0), (1, .ref q1), (2, .ref q2), (3, .int v3), (4, .int (-(σ q2 1)))] [1, 2, 3, 4, 0] rfl ?_
      exact wX2_show_L26 sh hw l hst q0 h0 q1 h1 q2 h2 (fX2_show_L10 q0 q1 q2 fu) ih kFU v3 (-(σ q2 1)) σ r h
set_option maxHeartbeats 4000000 in
set_option maxRecDepth 100000 in
theorem tX2_show (sh : KSh) (hw : KWf sh) (l : Launch) (hst : l.stackTraces = false) (q0 : Nat) (h0 : sh q0 = .inl 2) (q1 : Nat) (h1 : sh q1 = .inl 3) (q2 : Nat) (h2 : sh q2 = .inl 1) (σ : Sto) (r : Sto) (h : fX2_show q0 q1 q2 σ = some r) : CT sh l mX2_show yX2_show [.ref q0, .ref q1, .ref q2] σ (0, .int 0, r) := by
  refine kct [(0, .ref q0), (1, .ref q1), (2, .ref q2)] hst (by decide +kernel) rfl rfl (Nat.le_of_ble_eq_true rfl) ?_
  rw [fX2_show] at h
  refine kv_aload_n (pc := 0) 0 dX2_show_0 rfl rfl ?_
  refine kv_iconst (pc := 1) (v := 0) dX2_show_1 (by decide) ?_
  refine kv_put (pc := 2) tyX2 tyX2_ok nmX2 dX2_show_2 h0 rfl (i := 1) (by decide) rfl fl_X2_15 rfl rfl rfl rfl rfl ?_
  refine kv_let h (fun σ1 h => ?_)
  refine kv_aload_n (pc := 5) 2 dX2_show_5 rfl rfl ?_
  refine kv_getI (pc := 6) dX2_show_6 h2 rfl (i := 1) (by decide) rfl fl_X2_19 rfl ?_
  refine kv_istore_n (pc := 9) [(3, .int (σ1 q2 1)), (0, .ref q0), (1, .ref q1), (2, .ref q2)] dX2_show_9 rfl (by decide) rfl ?_
  refine kv_sub (pc := 10) [(0, .ref q0), (1, .ref q1), (2, .ref q2), (3, .int (σ1 q2 1))] [1, 2, 3, 0] rfl ?_
  exact wX2_show_L10 sh hw l hst q0 h0 q1 h1 q2 h2 kFU (σ1 q2 1) σ1 r h
theorem yw_X2_show : KMV yX2_show mX2_show RX2 2 := ⟨⟨rfl, by decide +kernel, by decide +kernel, by decide +kernel⟩, ⟨rfl, rfl⟩, kg_in 883 (by decide +kernel) (by decide +kernel), kg_in 884 (by decide +kernel) (by decide +kernel), kg_in 129 (by decide +kernel) (by decide +kernel), kg_in 885 (by decide +kernel) (by decide +kernel)⟩
theorem dX2_byteAt_0 : decode cX2_byteAt 0 = .ok (.iload_n 1, 1) := by decide +kernel
theorem dX2_byteAt_1 : decode cX2_byteAt 1 = .ok (.ifCond .lt 29, 3) := by decide +kernel
theorem dX2_byteAt_4 : decode cX2_byteAt 4 = .ok (.iload_n 1, 1) := by decide +kernel
theorem dX2_byteAt_5 : decode cX2_byteAt 5 = .ok (.aload_n 0, 1) := by decide +kernel
theorem dX2_byteAt_6 : decode cX2_byteAt 6 = .ok (.getfield 15, 3) := by decide +kernel
theorem dX2_byteAt_9 : decode cX2_byteAt 9 = .ok (.if_icmp .ge 21, 3) := by decide +kernel
theorem dX2_byteAt_12 : decode cX2_byteAt 12 = .ok (.iload_n 1, 1) := by decide +kernel
theorem dX2_byteAt_13 : decode cX2_byteAt 13 = .ok (.aload_n 0, 1) := by decide +kernel
theorem dX2_byteAt_14 : decode cX2_byteAt 14 = .ok (.getfield 9, 3) := by decide +kernel
theorem dX2_byteAt_17 : decode cX2_byteAt 17 = .ok (.arraylength, 1) := by decide +kernel
theorem dX2_byteAt_18 : decode cX2_byteAt 18 = .ok (.if_icmp .ge 12, 3) := by decide +kernel
theorem dX2_byteAt_21 : decode cX2_byteAt 21 = .ok (.aload_n 0, 1) := by decide +kernel
theorem dX2_byteAt_22 : decode cX2_byteAt 22 = .ok (.getfield 9, 3) := by decide +kernel
theorem dX2_byteAt_25 : decode cX2_byteAt 25 = .ok (.iload_n 1, 1) := by decide +kernel
theorem dX2_byteAt_26 : decode cX2_byteAt 26 = .ok (.iaload, 1) := by decide +kernel
theorem dX2_byteAt_27 : decode cX2_byteAt 27 = .ok (.goto 4, 3) := by decide +kernel
theorem dX2_byteAt_30 : decode cX2_byteAt 30 = .ok (.iconst (-1), 1) := by decide +kernel
theorem dX2_byteAt_31 : decode cX2_byteAt 31 = .ok (.ireturn, 1) := by decide +kernel
abbrev mX2_byteAt : KM := (RX2, cX2_byteAt, 2, (some .int), { frames := 0, cells := 0, slots := 0, locals := 0 }, 0, 0)
def fX2_byteAt (q0 : Nat) (a1 : Int32) (σ : Sto) : Option Int32 :=
  if a1 < 0 then
    some (-1)
  else
    if (σ q0 1) ≤ a1 then
      some (-1)
    else
      if 225 ≤ a1 then
        some (-1)
      else
        if kin a1 225 = true then
          some (σ (q0 + 1) a1.toNatClampNeg)
        else none
set_option maxHeartbeats 4000000 in
set_option maxRecDepth 100000 in
theorem tX2_byteAt (sh : KSh) (hw : KWf sh) (l : Launch) (hst : l.stackTraces = false) (q0 : Nat) (h0 : sh q0 = .inl 2) (a1 : Int32) (σ : Sto) (r : Int32) (h : fX2_byteAt q0 a1 σ = some r) : CT sh l mX2_byteAt yX2_byteAt [.ref q0, .int a1] σ (0, .int r, σ) := by
  refine kct [(0, .ref q0), (1, .int a1)] hst (by decide +kernel) rfl rfl (Nat.le_of_ble_eq_true rfl) ?_
  rw [fX2_byteAt] at h
  refine kv_iload_n (pc := 0) 1 dX2_byteAt_0 rfl rfl ?_
  refine kv_if_lt (pc := 1) (tgt := 30) dX2_byteAt_1 (by decide) h (fun h => ?_) (fun h => ?_)
  · refine kv_iconst (pc := 30) (v := (-1)) dX2_byteAt_30 (by decide) ?_
    exact kv_iret (pc := 31) dX2_byteAt_31 rfl (by cases h; rfl) (by decide) (by decide)
  · refine kv_iload_n (pc := 4) 1 dX2_byteAt_4 rfl rfl ?_
    refine kv_aload_n (pc := 5) 0 dX2_byteAt_5 rfl rfl ?_
    refine kv_getI (pc := 6) dX2_byteAt_6 h0 rfl (i := 1) (by decide) rfl fl_X2_15 rfl ?_
    refine kv_icmp_ge (pc := 9) (tgt := 30) dX2_byteAt_9 (by decide) h (fun h => ?_) (fun h => ?_)
    · refine kv_iconst (pc := 30) (v := (-1)) dX2_byteAt_30 (by decide) ?_
      exact kv_iret (pc := 31) dX2_byteAt_31 rfl (by cases h; rfl) (by decide) (by decide)
    · refine kv_iload_n (pc := 12) 1 dX2_byteAt_12 rfl rfl ?_
      refine kv_aload_n (pc := 13) 0 dX2_byteAt_13 rfl rfl ?_
      refine kv_getR (pc := 14) (q2 := q0 + 1) dX2_byteAt_14 h0 rfl (i := 0) (by decide) rfl fl_X2_9 rfl rfl ?_
      refine kv_alen (pc := 17) (v := 225) dX2_byteAt_17 (show sh (q0 + 1) = _ from kso_2_1 hw h0) (by decide) (by decide) ?_
      refine kv_icmp_ge (pc := 18) (tgt := 30) dX2_byteAt_18 (by decide) h (fun h => ?_) (fun h => ?_)
      · refine kv_iconst (pc := 30) (v := (-1)) dX2_byteAt_30 (by decide) ?_
        exact kv_iret (pc := 31) dX2_byteAt_31 rfl (by cases h; rfl) (by decide) (by decide)
      · refine kv_aload_n (pc := 21) 0 dX2_byteAt_21 rfl rfl ?_
        refine kv_getR (pc := 22) (q2 := q0 + 1) dX2_byteAt_22 h0 rfl (i := 0) (by decide) rfl fl_X2_9 rfl rfl ?_
        refine kv_iload_n (pc := 25) 1 dX2_byteAt_25 rfl rfl ?_
        refine kv_iald (pc := 26) dX2_byteAt_26 (show sh (q0 + 1) = _ from kso_2_1 hw h0) h (fun h => ?_)
        refine kv_goto (pc := 27) (tgt := 31) dX2_byteAt_27 (by decide) ?_
        exact kv_iret (pc := 31) dX2_byteAt_31 rfl (by cases h; rfl) (by decide) (by decide)
theorem yw_X2_byteAt : KMV yX2_byteAt mX2_byteAt RX2 1 := ⟨⟨rfl, by decide +kernel, by decide +kernel, by decide +kernel⟩, ⟨rfl, rfl⟩, kg_in 897 (by decide +kernel) (by decide +kernel), kg_in 898 (by decide +kernel) (by decide +kernel), kg_in 129 (by decide +kernel) (by decide +kernel), kg_in 899 (by decide +kernel) (by decide +kernel)⟩
