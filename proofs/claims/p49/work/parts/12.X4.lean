theorem dX4_hasRoom_0 : decode cX4_hasRoom 0 = .ok (.aload_n 0, 1) := by decide +kernel
theorem dX4_hasRoom_1 : decode cX4_hasRoom 1 = .ok (.getfield 19, 3) := by decide +kernel
theorem dX4_hasRoom_4 : decode cX4_hasRoom 4 = .ok (.iload_n 1, 1) := by decide +kernel
theorem dX4_hasRoom_5 : decode cX4_hasRoom 5 = .ok (.iadd, 1) := by decide +kernel
theorem dX4_hasRoom_6 : decode cX4_hasRoom 6 = .ok (.sipush 600, 3) := by decide +kernel
theorem dX4_hasRoom_9 : decode cX4_hasRoom 9 = .ok (.if_icmp .gt 7, 3) := by decide +kernel
theorem dX4_hasRoom_12 : decode cX4_hasRoom 12 = .ok (.iconst 1, 1) := by decide +kernel
theorem dX4_hasRoom_13 : decode cX4_hasRoom 13 = .ok (.goto 4, 3) := by decide +kernel
theorem dX4_hasRoom_16 : decode cX4_hasRoom 16 = .ok (.iconst 0, 1) := by decide +kernel
theorem dX4_hasRoom_17 : decode cX4_hasRoom 17 = .ok (.ireturn, 1) := by decide +kernel
abbrev mX4_hasRoom : KM := (RX4, cX4_hasRoom, 2, (some .boolean), { frames := 0, cells := 0, slots := 0, locals := 0 }, 0, 0)
def fX4_hasRoom (q0 : Nat) (a1 : Int32) (σ : Sto) : Bool :=
  if 600 < ((σ q0 1) + a1) then
    false
  else
    true
set_option maxHeartbeats 4000000 in
set_option maxRecDepth 100000 in
theorem tX4_hasRoom (sh : KSh) (hw : KWf sh) (l : Launch) (hst : l.stackTraces = false) (q0 : Nat) (h0 : sh q0 = .inl 4) (a1 : Int32) (σ : Sto) : CT sh l mX4_hasRoom yX4_hasRoom [.ref q0, .int a1] σ (0, .int (kb (fX4_hasRoom q0 a1 σ)), σ) := by
  refine kct [(0, .ref q0), (1, .int a1)] hst (by decide +kernel) rfl rfl (Nat.le_of_ble_eq_true rfl) ?_
  generalize h : fX4_hasRoom q0 a1 σ = r
  rw [fX4_hasRoom] at h
  refine kv_aload_n (pc := 0) 0 dX4_hasRoom_0 rfl rfl ?_
  refine kv_getI (pc := 1) dX4_hasRoom_1 h0 rfl (i := 1) (by decide) rfl fl_X4_19 rfl ?_
  refine kv_iload_n (pc := 4) 1 dX4_hasRoom_4 rfl rfl ?_
  refine kv_iadd (pc := 5) dX4_hasRoom_5 ?_
  refine kv_sipush (pc := 6) (v := 600) dX4_hasRoom_6 (by decide) ?_
  refine kv_icmp_gt (pc := 9) (tgt := 16) dX4_hasRoom_9 (by decide) h (fun h => ?_) (fun h => ?_)
  · refine kv_iconst (pc := 16) (v := 0) dX4_hasRoom_16 (by decide) ?_
    exact kv_zret (pc := 17) dX4_hasRoom_17 rfl rfl (by subst h; rfl) (by decide) (by decide)
  · refine kv_iconst (pc := 12) (v := 1) dX4_hasRoom_12 (by decide) ?_
    refine kv_goto (pc := 13) (tgt := 17) dX4_hasRoom_13 (by decide) ?_
    exact kv_zret (pc := 17) dX4_hasRoom_17 rfl rfl (by subst h; rfl) (by decide) (by decide)
theorem yw_X4_hasRoom : KMV yX4_hasRoom mX4_hasRoom RX4 1 := ⟨⟨rfl, by decide +kernel, by decide +kernel, by decide +kernel⟩, ⟨rfl, rfl⟩, kg_in 846 (by decide +kernel) (by decide +kernel), kg_in 847 (by decide +kernel) (by decide +kernel), kg_in 52 (by decide +kernel) (by decide +kernel), kg_in 848 (by decide +kernel) (by decide +kernel)⟩
theorem dX4_addByte_0 : decode cX4_addByte 0 = .ok (.aload_n 0, 1) := by decide +kernel
theorem dX4_addByte_1 : decode cX4_addByte 1 = .ok (.getfield 19, 3) := by decide +kernel
theorem dX4_addByte_4 : decode cX4_addByte 4 = .ok (.ifCond .lt 37, 3) := by decide +kernel
theorem dX4_addByte_7 : decode cX4_addByte 7 = .ok (.aload_n 0, 1) := by decide +kernel
theorem dX4_addByte_8 : decode cX4_addByte 8 = .ok (.getfield 19, 3) := by decide +kernel
theorem dX4_addByte_11 : decode cX4_addByte 11 = .ok (.sipush 600, 3) := by decide +kernel
theorem dX4_addByte_14 : decode cX4_addByte 14 = .ok (.if_icmp .ge 27, 3) := by decide +kernel
theorem dX4_addByte_17 : decode cX4_addByte 17 = .ok (.aload_n 0, 1) := by decide +kernel
theorem dX4_addByte_18 : decode cX4_addByte 18 = .ok (.getfield 11, 3) := by decide +kernel
theorem dX4_addByte_21 : decode cX4_addByte 21 = .ok (.aload_n 0, 1) := by decide +kernel
theorem dX4_addByte_22 : decode cX4_addByte 22 = .ok (.getfield 19, 3) := by decide +kernel
theorem dX4_addByte_25 : decode cX4_addByte 25 = .ok (.iload_n 1, 1) := by decide +kernel
theorem dX4_addByte_26 : decode cX4_addByte 26 = .ok (.sipush 255, 3) := by decide +kernel
theorem dX4_addByte_29 : decode cX4_addByte 29 = .ok (.iand, 1) := by decide +kernel
theorem dX4_addByte_30 : decode cX4_addByte 30 = .ok (.iastore, 1) := by decide +kernel
theorem dX4_addByte_31 : decode cX4_addByte 31 = .ok (.aload_n 0, 1) := by decide +kernel
theorem dX4_addByte_32 : decode cX4_addByte 32 = .ok (.dup, 1) := by decide +kernel
theorem dX4_addByte_33 : decode cX4_addByte 33 = .ok (.getfield 19, 3) := by decide +kernel
theorem dX4_addByte_36 : decode cX4_addByte 36 = .ok (.iconst 1, 1) := by decide +kernel
theorem dX4_addByte_37 : decode cX4_addByte 37 = .ok (.iadd, 1) := by decide +kernel
theorem dX4_addByte_38 : decode cX4_addByte 38 = .ok (.putfield 19, 3) := by decide +kernel
theorem dX4_addByte_41 : decode cX4_addByte 41 = .ok (.return_, 1) := by decide +kernel
abbrev mX4_addByte : KM := (RX4, cX4_addByte, 2, none, { frames := 0, cells := 0, slots := 0, locals := 0 }, 0, 0)
def fX4_addByte (q0 : Nat) (a1 : Int32) (σ : Sto) : Option Sto :=
  if (σ q0 1) < 0 then
    some σ
  else
    if 600 ≤ (σ q0 1) then
      some σ
    else
      if kin (σ q0 1) 600 = true then
        klet (su σ (q0 + 1) (σ q0 1).toNatClampNeg (a1 &&& 255)) fun σ1 =>
        klet (su σ1 q0 1 ((σ1 q0 1) + 1)) fun σ2 =>
        some σ2
      else none
set_option maxHeartbeats 4000000 in
set_option maxRecDepth 100000 in
theorem tX4_addByte (sh : KSh) (hw : KWf sh) (l : Launch) (hst : l.stackTraces = false) (q0 : Nat) (h0 : sh q0 = .inl 4) (a1 : Int32) (σ : Sto) (r : Sto) (h : fX4_addByte q0 a1 σ = some r) : CT sh l mX4_addByte yX4_addByte [.ref q0, .int a1] σ (0, .int 0, r) := by
  refine kct [(0, .ref q0), (1, .int a1)] hst (by decide +kernel) rfl rfl (Nat.le_of_ble_eq_true rfl) ?_
  rw [fX4_addByte] at h
  refine kv_aload_n (pc := 0) 0 dX4_addByte_0 rfl rfl ?_
  refine kv_getI (pc := 1) dX4_addByte_1 h0 rfl (i := 1) (by decide) rfl fl_X4_19 rfl ?_
  refine kv_if_lt (pc := 4) (tgt := 41) dX4_addByte_4 (by decide) h (fun h => ?_) (fun h => ?_)
  · exact kv_vret (pc := 41) (v := .int 0) dX4_addByte_41 rfl (by cases h; rfl) (by decide) (by decide)
  · refine kv_aload_n (pc := 7) 0 dX4_addByte_7 rfl rfl ?_
    refine kv_getI (pc := 8) dX4_addByte_8 h0 rfl (i := 1) (by decide) rfl fl_X4_19 rfl ?_
    refine kv_sipush (pc := 11) (v := 600) dX4_addByte_11 (by decide) ?_
    refine kv_icmp_ge (pc := 14) (tgt := 41) dX4_addByte_14 (by decide) h (fun h => ?_) (fun h => ?_)
    · exact kv_vret (pc := 41) (v := .int 0) dX4_addByte_41 rfl (by cases h; rfl) (by decide) (by decide)
    · refine kv_aload_n (pc := 17) 0 dX4_addByte_17 rfl rfl ?_
      refine kv_getR (pc := 18) (q2 := q0 + 1) dX4_addByte_18 h0 rfl (i := 0) (by decide) rfl fl_X4_11 rfl rfl ?_
      refine kv_aload_n (pc := 21) 0 dX4_addByte_21 rfl rfl ?_
      refine kv_getI (pc := 22) dX4_addByte_22 h0 rfl (i := 1) (by decide) rfl fl_X4_19 rfl ?_
      refine kv_iload_n (pc := 25) 1 dX4_addByte_25 rfl rfl ?_
      refine kv_sipush (pc := 26) (v := 255) dX4_addByte_26 (by decide) ?_
      refine kv_iand (pc := 29) dX4_addByte_29 ?_
      refine kv_iast (pc := 30) dX4_addByte_30 (show sh (q0 + 1) = _ from kso_4_1 hw h0) h (fun h => ?_)
      refine kv_let h (fun σ1 h => ?_)
      refine kv_aload_n (pc := 31) 0 dX4_addByte_31 rfl rfl ?_
      refine kv_dup (pc := 32) dX4_addByte_32 rfl ?_
      refine kv_getI (pc := 33) dX4_addByte_33 h0 rfl (i := 1) (by decide) rfl fl_X4_19 rfl ?_
      refine kv_iconst (pc := 36) (v := 1) dX4_addByte_36 (by decide) ?_
      refine kv_iadd (pc := 37) dX4_addByte_37 ?_
      refine kv_put (pc := 38) tyX4 tyX4_ok nmX4 dX4_addByte_38 h0 rfl (i := 1) (by decide) rfl fl_X4_19 rfl rfl rfl rfl rfl ?_
      refine kv_let h (fun σ2 h => ?_)
      exact kv_vret (pc := 41) (v := .int 0) dX4_addByte_41 rfl (by cases h; rfl) (by decide) (by decide)
theorem yw_X4_addByte : KMV yX4_addByte mX4_addByte RX4 1 := ⟨⟨rfl, by decide +kernel, by decide +kernel, by decide +kernel⟩, ⟨rfl, rfl⟩, kg_in 865 (by decide +kernel) (by decide +kernel), kg_in 866 (by decide +kernel) (by decide +kernel), kg_in 52 (by decide +kernel) (by decide +kernel), kg_in 867 (by decide +kernel) (by decide +kernel)⟩
theorem dX4_byteAt_0 : decode cX4_byteAt 0 = .ok (.iload_n 1, 1) := by decide +kernel
theorem dX4_byteAt_1 : decode cX4_byteAt 1 = .ok (.ifCond .lt 27, 3) := by decide +kernel
theorem dX4_byteAt_4 : decode cX4_byteAt 4 = .ok (.iload_n 1, 1) := by decide +kernel
theorem dX4_byteAt_5 : decode cX4_byteAt 5 = .ok (.aload_n 0, 1) := by decide +kernel
theorem dX4_byteAt_6 : decode cX4_byteAt 6 = .ok (.getfield 19, 3) := by decide +kernel
theorem dX4_byteAt_9 : decode cX4_byteAt 9 = .ok (.if_icmp .ge 19, 3) := by decide +kernel
theorem dX4_byteAt_12 : decode cX4_byteAt 12 = .ok (.iload_n 1, 1) := by decide +kernel
theorem dX4_byteAt_13 : decode cX4_byteAt 13 = .ok (.sipush 600, 3) := by decide +kernel
theorem dX4_byteAt_16 : decode cX4_byteAt 16 = .ok (.if_icmp .ge 12, 3) := by decide +kernel
theorem dX4_byteAt_19 : decode cX4_byteAt 19 = .ok (.aload_n 0, 1) := by decide +kernel
theorem dX4_byteAt_20 : decode cX4_byteAt 20 = .ok (.getfield 11, 3) := by decide +kernel
theorem dX4_byteAt_23 : decode cX4_byteAt 23 = .ok (.iload_n 1, 1) := by decide +kernel
theorem dX4_byteAt_24 : decode cX4_byteAt 24 = .ok (.iaload, 1) := by decide +kernel
theorem dX4_byteAt_25 : decode cX4_byteAt 25 = .ok (.goto 4, 3) := by decide +kernel
theorem dX4_byteAt_28 : decode cX4_byteAt 28 = .ok (.iconst (-1), 1) := by decide +kernel
theorem dX4_byteAt_29 : decode cX4_byteAt 29 = .ok (.ireturn, 1) := by decide +kernel
abbrev mX4_byteAt : KM := (RX4, cX4_byteAt, 2, (some .int), { frames := 0, cells := 0, slots := 0, locals := 0 }, 0, 0)
def fX4_byteAt (q0 : Nat) (a1 : Int32) (σ : Sto) : Option Int32 :=
  if a1 < 0 then
    some (-1)
  else
    if (σ q0 1) ≤ a1 then
      some (-1)
    else
      if 600 ≤ a1 then
        some (-1)
      else
        if kin a1 600 = true then
          some (σ (q0 + 1) a1.toNatClampNeg)
        else none
set_option maxHeartbeats 4000000 in
set_option maxRecDepth 100000 in
theorem tX4_byteAt (sh : KSh) (hw : KWf sh) (l : Launch) (hst : l.stackTraces = false) (q0 : Nat) (h0 : sh q0 = .inl 4) (a1 : Int32) (σ : Sto) (r : Int32) (h : fX4_byteAt q0 a1 σ = some r) : CT sh l mX4_byteAt yX4_byteAt [.ref q0, .int a1] σ (0, .int r, σ) := by
  refine kct [(0, .ref q0), (1, .int a1)] hst (by decide +kernel) rfl rfl (Nat.le_of_ble_eq_true rfl) ?_
  rw [fX4_byteAt] at h
  refine kv_iload_n (pc := 0) 1 dX4_byteAt_0 rfl rfl ?_
  refine kv_if_lt (pc := 1) (tgt := 28) dX4_byteAt_1 (by decide) h (fun h => ?_) (fun h => ?_)
  · refine kv_iconst (pc := 28) (v := (-1)) dX4_byteAt_28 (by decide) ?_
    exact kv_iret (pc := 29) dX4_byteAt_29 rfl (by cases h; rfl) (by decide) (by decide)
  · refine kv_iload_n (pc := 4) 1 dX4_byteAt_4 rfl rfl ?_
    refine kv_aload_n (pc := 5) 0 dX4_byteAt_5 rfl rfl ?_
    refine kv_getI (pc := 6) dX4_byteAt_6 h0 rfl (i := 1) (by decide) rfl fl_X4_19 rfl ?_
    refine kv_icmp_ge (pc := 9) (tgt := 28) dX4_byteAt_9 (by decide) h (fun h => ?_) (fun h => ?_)
    · refine kv_iconst (pc := 28) (v := (-1)) dX4_byteAt_28 (by decide) ?_
      exact kv_iret (pc := 29) dX4_byteAt_29 rfl (by cases h; rfl) (by decide) (by decide)
    · refine kv_iload_n (pc := 12) 1 dX4_byteAt_12 rfl rfl ?_
      refine kv_sipush (pc := 13) (v := 600) dX4_byteAt_13 (by decide) ?_
      refine kv_icmp_ge (pc := 16) (tgt := 28) dX4_byteAt_16 (by decide) h (fun h => ?_) (fun h => ?_)
      · refine kv_iconst (pc := 28) (v := (-1)) dX4_byteAt_28 (by decide) ?_
        exact kv_iret (pc := 29) dX4_byteAt_29 rfl (by cases h; rfl) (by decide) (by decide)
      · refine kv_aload_n (pc := 19) 0 dX4_byteAt_19 rfl rfl ?_
        refine kv_getR (pc := 20) (q2 := q0 + 1) dX4_byteAt_20 h0 rfl (i := 0) (by decide) rfl fl_X4_11 rfl rfl ?_
        refine kv_iload_n (pc := 23) 1 dX4_byteAt_23 rfl rfl ?_
        refine kv_iald (pc := 24) dX4_byteAt_24 (show sh (q0 + 1) = _ from kso_4_1 hw h0) h (fun h => ?_)
        refine kv_goto (pc := 25) (tgt := 29) dX4_byteAt_25 (by decide) ?_
        exact kv_iret (pc := 29) dX4_byteAt_29 rfl (by cases h; rfl) (by decide) (by decide)
theorem yw_X4_byteAt : KMV yX4_byteAt mX4_byteAt RX4 1 := ⟨⟨rfl, by decide +kernel, by decide +kernel, by decide +kernel⟩, ⟨rfl, rfl⟩, kg_in 350 (by decide +kernel) (by decide +kernel), kg_in 5 (by decide +kernel) (by decide +kernel), kg_in 52 (by decide +kernel) (by decide +kernel), kg_in 351 (by decide +kernel) (by decide +kernel)⟩
theorem dX4_isBlank_0 : decode cX4_isBlank 0 = .ok (.iload_n 0, 1) := by decide +kernel
theorem dX4_isBlank_1 : decode cX4_isBlank 1 = .ok (.bipush 32, 2) := by decide +kernel
theorem dX4_isBlank_3 : decode cX4_isBlank 3 = .ok (.if_icmp .eq 9, 3) := by decide +kernel
theorem dX4_isBlank_6 : decode cX4_isBlank 6 = .ok (.iload_n 0, 1) := by decide +kernel
theorem dX4_isBlank_7 : decode cX4_isBlank 7 = .ok (.bipush 10, 2) := by decide +kernel
theorem dX4_isBlank_9 : decode cX4_isBlank 9 = .ok (.if_icmp .ne 7, 3) := by decide +kernel
theorem dX4_isBlank_12 : decode cX4_isBlank 12 = .ok (.iconst 1, 1) := by decide +kernel
theorem dX4_isBlank_13 : decode cX4_isBlank 13 = .ok (.goto 4, 3) := by decide +kernel
theorem dX4_isBlank_16 : decode cX4_isBlank 16 = .ok (.iconst 0, 1) := by decide +kernel
theorem dX4_isBlank_17 : decode cX4_isBlank 17 = .ok (.ireturn, 1) := by decide +kernel
abbrev mX4_isBlank : KM := (RX4, cX4_isBlank, 1, (some .boolean), { frames := 0, cells := 0, slots := 0, locals := 0 }, 0, 0)
def fX4_isBlank (a0 : Int32) : Bool :=
  if a0 = 32 then
    true
  else
    if a0 = 10 then
      true
    else
      false
set_option maxHeartbeats 4000000 in
set_option maxRecDepth 100000 in
theorem tX4_isBlank (sh : KSh) (hw : KWf sh) (l : Launch) (hst : l.stackTraces = false) (a0 : Int32) (σ : Sto) : CT sh l mX4_isBlank yX4_isBlank [.int a0] σ (0, .int (kb (fX4_isBlank a0)), σ) := by
  refine kct [(0, .int a0)] hst (by decide +kernel) rfl rfl (Nat.le_of_ble_eq_true rfl) ?_
  generalize h : fX4_isBlank a0 = r
  rw [fX4_isBlank] at h
  refine kv_iload_n (pc := 0) 0 dX4_isBlank_0 rfl rfl ?_
  refine kv_bipush (pc := 1) (v := 32) dX4_isBlank_1 (by decide) ?_
  refine kv_icmp_eq (pc := 3) (tgt := 12) dX4_isBlank_3 (by decide) h (fun h => ?_) (fun h => ?_)
  · refine kv_iconst (pc := 12) (v := 1) dX4_isBlank_12 (by decide) ?_
    refine kv_goto (pc := 13) (tgt := 17) dX4_isBlank_13 (by decide) ?_
    exact kv_zret (pc := 17) dX4_isBlank_17 rfl rfl (by subst h; rfl) (by decide) (by decide)
  · refine kv_iload_n (pc := 6) 0 dX4_isBlank_6 rfl rfl ?_
    refine kv_bipush (pc := 7) (v := 10) dX4_isBlank_7 (by decide) ?_
    refine kv_icmp_ne (pc := 9) (tgt := 16) dX4_isBlank_9 (by decide) h (fun h => ?_) (fun h => ?_)
    · refine kv_iconst (pc := 16) (v := 0) dX4_isBlank_16 (by decide) ?_
      exact kv_zret (pc := 17) dX4_isBlank_17 rfl rfl (by subst h; rfl) (by decide) (by decide)
    · refine kv_iconst (pc := 12) (v := 1) dX4_isBlank_12 (by decide) ?_
      refine kv_goto (pc := 13) (tgt := 17) dX4_isBlank_13 (by decide) ?_
      exact kv_zret (pc := 17) dX4_isBlank_17 rfl rfl (by subst h; rfl) (by decide) (by decide)
theorem yw_X4_isBlank : KMS yX4_isBlank mX4_isBlank 1 := ⟨⟨by decide +kernel, by decide +kernel, by decide +kernel⟩, ⟨rfl, rfl⟩, kg_in 353 (by decide +kernel) (by decide +kernel), kg_in 52 (by decide +kernel) (by decide +kernel), kg_in 354 (by decide +kernel) (by decide +kernel)⟩
theorem dX4_tokenOf_0 : decode cX4_tokenOf 0 = .ok (.iload_n 0, 1) := by decide +kernel
theorem dX4_tokenOf_1 : decode cX4_tokenOf 1 = .ok (.iconst (-1), 1) := by decide +kernel
theorem dX4_tokenOf_2 : decode cX4_tokenOf 2 = .ok (.if_icmp .ne 5, 3) := by decide +kernel
theorem dX4_tokenOf_5 : decode cX4_tokenOf 5 = .ok (.iconst 0, 1) := by decide +kernel
theorem dX4_tokenOf_6 : decode cX4_tokenOf 6 = .ok (.ireturn, 1) := by decide +kernel
theorem dX4_tokenOf_7 : decode cX4_tokenOf 7 = .ok (.iload_n 0, 1) := by decide +kernel
theorem dX4_tokenOf_8 : decode cX4_tokenOf 8 = .ok (.bipush 97, 2) := by decide +kernel
theorem dX4_tokenOf_10 : decode cX4_tokenOf 10 = .ok (.if_icmp .lt 11, 3) := by decide +kernel
theorem dX4_tokenOf_13 : decode cX4_tokenOf 13 = .ok (.iload_n 0, 1) := by decide +kernel
theorem dX4_tokenOf_14 : decode cX4_tokenOf 14 = .ok (.bipush 122, 2) := by decide +kernel
theorem dX4_tokenOf_16 : decode cX4_tokenOf 16 = .ok (.if_icmp .gt 5, 3) := by decide +kernel
theorem dX4_tokenOf_19 : decode cX4_tokenOf 19 = .ok (.iconst 1, 1) := by decide +kernel
theorem dX4_tokenOf_20 : decode cX4_tokenOf 20 = .ok (.ireturn, 1) := by decide +kernel
theorem dX4_tokenOf_21 : decode cX4_tokenOf 21 = .ok (.iload_n 0, 1) := by decide +kernel
theorem dX4_tokenOf_22 : decode cX4_tokenOf 22 = .ok (.bipush 48, 2) := by decide +kernel
theorem dX4_tokenOf_24 : decode cX4_tokenOf 24 = .ok (.if_icmp .lt 11, 3) := by decide +kernel
theorem dX4_tokenOf_27 : decode cX4_tokenOf 27 = .ok (.iload_n 0, 1) := by decide +kernel
theorem dX4_tokenOf_28 : decode cX4_tokenOf 28 = .ok (.bipush 57, 2) := by decide +kernel
theorem dX4_tokenOf_30 : decode cX4_tokenOf 30 = .ok (.if_icmp .gt 5, 3) := by decide +kernel
theorem dX4_tokenOf_33 : decode cX4_tokenOf 33 = .ok (.iconst 2, 1) := by decide +kernel
theorem dX4_tokenOf_34 : decode cX4_tokenOf 34 = .ok (.ireturn, 1) := by decide +kernel
theorem dX4_tokenOf_35 : decode cX4_tokenOf 35 = .ok (.iload_n 0, 1) := by decide +kernel
theorem dX4_tokenOf_36 : decode cX4_tokenOf 36 = .ok (.bipush 45, 2) := by decide +kernel
theorem dX4_tokenOf_38 : decode cX4_tokenOf 38 = .ok (.if_icmp .ne 5, 3) := by decide +kernel
theorem dX4_tokenOf_41 : decode cX4_tokenOf 41 = .ok (.iconst 3, 1) := by decide +kernel
theorem dX4_tokenOf_42 : decode cX4_tokenOf 42 = .ok (.ireturn, 1) := by decide +kernel
theorem dX4_tokenOf_43 : decode cX4_tokenOf 43 = .ok (.iload_n 0, 1) := by decide +kernel
theorem dX4_tokenOf_44 : decode cX4_tokenOf 44 = .ok (.bipush 59, 2) := by decide +kernel
theorem dX4_tokenOf_46 : decode cX4_tokenOf 46 = .ok (.if_icmp .ne 7, 3) := by decide +kernel
theorem dX4_tokenOf_49 : decode cX4_tokenOf 49 = .ok (.iconst 4, 1) := by decide +kernel
theorem dX4_tokenOf_50 : decode cX4_tokenOf 50 = .ok (.goto 4, 3) := by decide +kernel
theorem dX4_tokenOf_53 : decode cX4_tokenOf 53 = .ok (.iconst 5, 1) := by decide +kernel
theorem dX4_tokenOf_54 : decode cX4_tokenOf 54 = .ok (.ireturn, 1) := by decide +kernel
abbrev mX4_tokenOf : KM := (RX4, cX4_tokenOf, 1, (some .int), { frames := 0, cells := 0, slots := 0, locals := 0 }, 0, 0)
def fX4_tokenOf_L35 (a0 : Int32) : Int32 :=
  if a0 = 45 then
    3
  else
    if a0 = 59 then
      4
    else
      5
def fX4_tokenOf_L21 (a0 : Int32) : Int32 :=
  if a0 < 48 then
    fX4_tokenOf_L35 a0 
  else
    if 57 < a0 then
      fX4_tokenOf_L35 a0 
    else
      2
def fX4_tokenOf (a0 : Int32) : Int32 :=
  if a0 = (-1) then
    0
  else
    if a0 < 97 then
      fX4_tokenOf_L21 a0 
    else
      if 122 < a0 then
        fX4_tokenOf_L21 a0 
      else
        1
set_option maxHeartbeats 4000000 in
set_option maxRecDepth 100000 in
theorem wX4_tokenOf_L35 (sh : KSh) (hw : KWf sh) (l : Launch) (hst : l.stackTraces = false) (a0 : Int32) : ∀ (σ : Sto), ∀ (r : Int32), fX4_tokenOf_L35 a0 = r → VV sh l mX4_tokenOf 0 0 35 [(0, .int a0)] [] σ (0, .int r, σ) := by
  intro σ r h
  rw [fX4_tokenOf_L35] at h
  refine kv_iload_n (pc := 35) 0 dX4_tokenOf_35 rfl rfl ?_
  refine kv_bipush (pc := 36) (v := 45) dX4_tokenOf_36 (by decide) ?_
  refine kv_icmp_ne (pc := 38) (tgt := 43) dX4_tokenOf_38 (by decide) h (fun h => ?_) (fun h => ?_)
  · refine kv_iload_n (pc := 43) 0 dX4_tokenOf_43 rfl rfl ?_
    refine kv_bipush (pc := 44) (v := 59) dX4_tokenOf_44 (by decide) ?_
    refine kv_icmp_ne (pc := 46) (tgt := 53) dX4_tokenOf_46 (by decide) h (fun h => ?_) (fun h => ?_)
    · refine kv_iconst (pc := 53) (v := 5) dX4_tokenOf_53 (by decide) ?_
      exact kv_iret (pc := 54) dX4_tokenOf_54 rfl (by subst h; rfl) (by decide) (by decide)
    · refine kv_iconst (pc := 49) (v := 4) dX4_tokenOf_49 (by decide) ?_
      refine kv_goto (pc := 50) (tgt := 54) dX4_tokenOf_50 (by decide) ?_
      exact kv_iret (pc := 54) dX4_tokenOf_54 rfl (by subst h; rfl) (by decide) (by decide)
  · refine kv_iconst (pc := 41) (v := 3) dX4_tokenOf_41 (by decide) ?_
    exact kv_iret (pc := 42) dX4_tokenOf_42 rfl (by subst h; rfl) (by decide) (by decide)
set_option maxHeartbeats 4000000 in
set_option maxRecDepth 100000 in
theorem wX4_tokenOf_L21 (sh : KSh) (hw : KWf sh) (l : Launch) (hst : l.stackTraces = false) (a0 : Int32) : ∀ (σ : Sto), ∀ (r : Int32), fX4_tokenOf_L21 a0 = r → VV sh l mX4_tokenOf 0 0 21 [(0, .int a0)] [] σ (0, .int r, σ) := by
  intro σ r h
  rw [fX4_tokenOf_L21] at h
  refine kv_iload_n (pc := 21) 0 dX4_tokenOf_21 rfl rfl ?_
  refine kv_bipush (pc := 22) (v := 48) dX4_tokenOf_22 (by decide) ?_
  refine kv_icmp_lt (pc := 24) (tgt := 35) dX4_tokenOf_24 (by decide) h (fun h => ?_) (fun h => ?_)
  · refine kv_sub (pc := 35) [(0, .int a0)] [0] rfl ?_
    exact wX4_tokenOf_L35 sh hw l hst a0 σ r h
  · refine kv_iload_n (pc := 27) 0 dX4_tokenOf_27 rfl rfl ?_
    refine kv_bipush (pc := 28) (v := 57) dX4_tokenOf_28 (by decide) ?_
    refine kv_icmp_gt (pc := 30) (tgt := 35) dX4_tokenOf_30 (by decide) h (fun h => ?_) (fun h => ?_)
    · refine kv_sub (pc := 35) [(0, .int a0)] [0] rfl ?_
      exact wX4_tokenOf_L35 sh hw l hst a0 σ r h
    · refine kv_iconst (pc := 33) (v := 2) dX4_tokenOf_33 (by decide) ?_
      exact kv_iret (pc := 34) dX4_tokenOf_34 rfl (by subst h; rfl) (by decide) (by decide)
set_option maxHeartbeats 4000000 in
set_option maxRecDepth 100000 in
theorem tX4_tokenOf (sh : KSh) (hw : KWf sh) (l : Launch) (hst : l.stackTraces = false) (a0 : Int32) (σ : Sto) : CT sh l mX4_tokenOf yX4_tokenOf [.int a0] σ (0, .int (fX4_tokenOf a0), σ) := by
  refine kct [(0, .int a0)] hst (by decide +kernel) rfl rfl (Nat.le_of_ble_eq_true rfl) ?_
  generalize h : fX4_tokenOf a0 = r
  rw [fX4_tokenOf] at h
  refine kv_iload_n (pc := 0) 0 dX4_tokenOf_0 rfl rfl ?_
  refine kv_iconst (pc := 1) (v := (-1)) dX4_tokenOf_1 (by decide) ?_
  refine kv_icmp_ne (pc := 2) (tgt := 7) dX4_tokenOf_2 (by decide) h (fun h => ?_) (fun h => ?_)
  · refine kv_iload_n (pc := 7) 0 dX4_tokenOf_7 rfl rfl ?_
    refine kv_bipush (pc := 8) (v := 97) dX4_tokenOf_8 (by decide) ?_
    refine kv_icmp_lt (pc := 10) (tgt := 21) dX4_tokenOf_10 (by decide) h (fun h => ?_) (fun h => ?_)
    · refine kv_sub (pc := 21) [(0, .int a0)] [0] rfl ?_
      exact wX4_tokenOf_L21 sh hw l hst a0 σ r h
    · refine kv_iload_n (pc := 13) 0 dX4_tokenOf_13 rfl rfl ?_
      refine kv_bipush (pc := 14) (v := 122) dX4_tokenOf_14 (by decide) ?_
      refine kv_icmp_gt (pc := 16) (tgt := 21) dX4_tokenOf_16 (by decide) h (fun h => ?_) (fun h => ?_)
      · refine kv_sub (pc := 21) [(0, .int a0)] [0] rfl ?_
        exact wX4_tokenOf_L21 sh hw l hst a0 σ r h
      · refine kv_iconst (pc := 19) (v := 1) dX4_tokenOf_19 (by decide) ?_
        exact kv_iret (pc := 20) dX4_tokenOf_20 rfl (by subst h; rfl) (by decide) (by decide)
  · refine kv_iconst (pc := 5) (v := 0) dX4_tokenOf_5 (by decide) ?_
    exact kv_iret (pc := 6) dX4_tokenOf_6 rfl (by subst h; rfl) (by decide) (by decide)
theorem yw_X4_tokenOf : KMS yX4_tokenOf mX4_tokenOf 1 := ⟨⟨by decide +kernel, by decide +kernel, by decide +kernel⟩, ⟨rfl, rfl⟩, kg_in 356 (by decide +kernel) (by decide +kernel), kg_in 52 (by decide +kernel) (by decide +kernel), kg_in 357 (by decide +kernel) (by decide +kernel)⟩
theorem dX4_isRun_0 : decode cX4_isRun 0 = .ok (.iload_n 0, 1) := by decide +kernel
theorem dX4_isRun_1 : decode cX4_isRun 1 = .ok (.iconst 1, 1) := by decide +kernel
theorem dX4_isRun_2 : decode cX4_isRun 2 = .ok (.if_icmp .eq 8, 3) := by decide +kernel
theorem dX4_isRun_5 : decode cX4_isRun 5 = .ok (.iload_n 0, 1) := by decide +kernel
theorem dX4_isRun_6 : decode cX4_isRun 6 = .ok (.iconst 2, 1) := by decide +kernel
theorem dX4_isRun_7 : decode cX4_isRun 7 = .ok (.if_icmp .ne 7, 3) := by decide +kernel
theorem dX4_isRun_10 : decode cX4_isRun 10 = .ok (.iconst 1, 1) := by decide +kernel
theorem dX4_isRun_11 : decode cX4_isRun 11 = .ok (.goto 4, 3) := by decide +kernel
theorem dX4_isRun_14 : decode cX4_isRun 14 = .ok (.iconst 0, 1) := by decide +kernel
theorem dX4_isRun_15 : decode cX4_isRun 15 = .ok (.ireturn, 1) := by decide +kernel
abbrev mX4_isRun : KM := (RX4, cX4_isRun, 1, (some .boolean), { frames := 0, cells := 0, slots := 0, locals := 0 }, 0, 0)
def fX4_isRun (a0 : Int32) : Bool :=
  if a0 = 1 then
    true
  else
    if a0 = 2 then
      true
    else
      false
set_option maxHeartbeats 4000000 in
set_option maxRecDepth 100000 in
theorem tX4_isRun (sh : KSh) (hw : KWf sh) (l : Launch) (hst : l.stackTraces = false) (a0 : Int32) (σ : Sto) : CT sh l mX4_isRun yX4_isRun [.int a0] σ (0, .int (kb (fX4_isRun a0)), σ) := by
  refine kct [(0, .int a0)] hst (by decide +kernel) rfl rfl (Nat.le_of_ble_eq_true rfl) ?_
  generalize h : fX4_isRun a0 = r
  rw [fX4_isRun] at h
  refine kv_iload_n (pc := 0) 0 dX4_isRun_0 rfl rfl ?_
  refine kv_iconst (pc := 1) (v := 1) dX4_isRun_1 (by decide) ?_
  refine kv_icmp_eq (pc := 2) (tgt := 10) dX4_isRun_2 (by decide) h (fun h => ?_) (fun h => ?_)
  · refine kv_iconst (pc := 10) (v := 1) dX4_isRun_10 (by decide) ?_
    refine kv_goto (pc := 11) (tgt := 15) dX4_isRun_11 (by decide) ?_
    exact kv_zret (pc := 15) dX4_isRun_15 rfl rfl (by subst h; rfl) (by decide) (by decide)
  · refine kv_iload_n (pc := 5) 0 dX4_isRun_5 rfl rfl ?_
    refine kv_iconst (pc := 6) (v := 2) dX4_isRun_6 (by decide) ?_
    refine kv_icmp_ne (pc := 7) (tgt := 14) dX4_isRun_7 (by decide) h (fun h => ?_) (fun h => ?_)
    · refine kv_iconst (pc := 14) (v := 0) dX4_isRun_14 (by decide) ?_
      exact kv_zret (pc := 15) dX4_isRun_15 rfl rfl (by subst h; rfl) (by decide) (by decide)
    · refine kv_iconst (pc := 10) (v := 1) dX4_isRun_10 (by decide) ?_
      refine kv_goto (pc := 11) (tgt := 15) dX4_isRun_11 (by decide) ?_
      exact kv_zret (pc := 15) dX4_isRun_15 rfl rfl (by subst h; rfl) (by decide) (by decide)
theorem yw_X4_isRun : KMS yX4_isRun mX4_isRun 1 := ⟨⟨by decide +kernel, by decide +kernel, by decide +kernel⟩, ⟨rfl, rfl⟩, kg_in 359 (by decide +kernel) (by decide +kernel), kg_in 52 (by decide +kernel) (by decide +kernel), kg_in 360 (by decide +kernel) (by decide +kernel)⟩
theorem dX4_readNumber_0 : decode cX4_readNumber 0 = .ok (.aload_n 0, 1) := by decide +kernel
theorem dX4_readNumber_1 : decode cX4_readNumber 1 = .ok (.iconst 0, 1) := by decide +kernel
theorem dX4_readNumber_2 : decode cX4_readNumber 2 = .ok (.putfield 51, 3) := by decide +kernel
theorem dX4_readNumber_5 : decode cX4_readNumber 5 = .ok (.aload_n 0, 1) := by decide +kernel
theorem dX4_readNumber_6 : decode cX4_readNumber 6 = .ok (.getfield 148, 3) := by decide +kernel
theorem dX4_readNumber_9 : decode cX4_readNumber 9 = .ok (.istore_n 1, 1) := by decide +kernel
theorem dX4_readNumber_10 : decode cX4_readNumber 10 = .ok (.iload_n 1, 1) := by decide +kernel
theorem dX4_readNumber_11 : decode cX4_readNumber 11 = .ok (.aload_n 0, 1) := by decide +kernel
theorem dX4_readNumber_12 : decode cX4_readNumber 12 = .ok (.getfield 25, 3) := by decide +kernel
theorem dX4_readNumber_15 : decode cX4_readNumber 15 = .ok (.if_icmp .ge 35, 3) := by decide +kernel
theorem dX4_readNumber_18 : decode cX4_readNumber 18 = .ok (.aload_n 0, 1) := by decide +kernel
theorem dX4_readNumber_19 : decode cX4_readNumber 19 = .ok (.aload_n 0, 1) := by decide +kernel
theorem dX4_readNumber_20 : decode cX4_readNumber 20 = .ok (.getfield 51, 3) := by decide +kernel
theorem dX4_readNumber_23 : decode cX4_readNumber 23 = .ok (.bipush 10, 2) := by decide +kernel
theorem dX4_readNumber_25 : decode cX4_readNumber 25 = .ok (.imul, 1) := by decide +kernel
theorem dX4_readNumber_26 : decode cX4_readNumber 26 = .ok (.aload_n 0, 1) := by decide +kernel
theorem dX4_readNumber_27 : decode cX4_readNumber 27 = .ok (.iload_n 1, 1) := by decide +kernel
theorem dX4_readNumber_28 : decode cX4_readNumber 28 = .ok (.invokevirtual 155, 3) := by decide +kernel
theorem dX4_readNumber_31 : decode cX4_readNumber 31 = .ok (.iadd, 1) := by decide +kernel
theorem dX4_readNumber_32 : decode cX4_readNumber 32 = .ok (.bipush 48, 2) := by decide +kernel
theorem dX4_readNumber_34 : decode cX4_readNumber 34 = .ok (.isub, 1) := by decide +kernel
theorem dX4_readNumber_35 : decode cX4_readNumber 35 = .ok (.sipush 1000, 3) := by decide +kernel
theorem dX4_readNumber_38 : decode cX4_readNumber 38 = .ok (.invokestatic 174, 3) := by decide +kernel
theorem dX4_readNumber_41 : decode cX4_readNumber 41 = .ok (.putfield 51, 3) := by decide +kernel
theorem dX4_readNumber_44 : decode cX4_readNumber 44 = .ok (.iinc 1 1, 3) := by decide +kernel
theorem dX4_readNumber_47 : decode cX4_readNumber 47 = .ok (.goto (-37), 3) := by decide +kernel
theorem dX4_readNumber_50 : decode cX4_readNumber 50 = .ok (.return_, 1) := by decide +kernel
abbrev mX4_readNumber : KM := (RX4, cX4_readNumber, 2, none, { frames := 1, cells := 0, slots := 0, locals := 21 }, 0, 0)
def fX4_readNumber_L10 (q0 : Nat) : Nat → Int32 → Sto → Option Sto
  | 0, _, _ => none
  | fu + 1, v1, σ =>
    if (σ q0 6) ≤ v1 then
      some σ
    else
      (fX4_byteAt q0 v1 σ).bind fun r2 =>
      klet (su σ q0 7 (if 1000 < ((((σ q0 7) * 10) + r2) - 48) then 1000 else ((((σ q0 7) * 10) + r2) - 48))) fun σ5 =>
      fX4_readNumber_L10 q0 fu (v1 + 1) σ5
def fX4_readNumber (q0 : Nat) (σ : Sto) : Option Sto :=
  klet (su σ q0 7 0) fun σ1 =>
  fX4_readNumber_L10 q0 kFU (σ1 q0 5) σ1
set_option maxHeartbeats 4000000 in
set_option maxRecDepth 100000 in
theorem wX4_readNumber_L10 (sh : KSh) (hw : KWf sh) (l : Launch) (hst : l.stackTraces = false) (q0 : Nat) (h0 : sh q0 = .inl 4) : ∀ (fu : Nat), ∀ (v1 : Int32), ∀ (σ : Sto), ∀ (r : Sto), fX4_readNumber_L10 q0 fu v1 σ = some r → VV sh l mX4_readNumber 0 0 10 [(0, .ref q0), (1, .int v1)] [] σ (0, .int 0, r) := by
  intro fu
  induction fu with
  | zero => intro v1 σ r h; rw [fX4_readNumber_L10] at h; cases h
  | succ fu ih =>
    intro v1 σ r h
    rw [fX4_readNumber_L10] at h
    refine kv_iload_n (pc := 10) 1 dX4_readNumber_10 rfl rfl ?_
    refine kv_aload_n (pc := 11) 0 dX4_readNumber_11 rfl rfl ?_
    refine kv_getI (pc := 12) dX4_readNumber_12 h0 rfl (i := 6) (by decide) rfl fl_X4_25 rfl ?_
    refine kv_icmp_ge (pc := 15) (tgt := 50) dX4_readNumber_15 (by decide) h (fun h => ?_) (fun h => ?_)
    · exact kv_vret (pc := 50) (v := .int 0) dX4_readNumber_50 rfl (by cases h; rfl) (by decide) (by decide)
    · refine kv_aload_n (pc := 18) 0 dX4_readNumber_18 rfl rfl ?_
      refine kv_aload_n (pc := 19) 0 dX4_readNumber_19 rfl rfl ?_
      refine kv_getI (pc := 20) dX4_readNumber_20 h0 rfl (i := 7) (by decide) rfl fl_X4_51 rfl ?_
      refine kv_bipush (pc := 23) (v := 10) dX4_readNumber_23 (by decide) ?_
      refine kv_imul (pc := 25) dX4_readNumber_25 ?_
      refine kv_aload_n (pc := 26) 0 dX4_readNumber_26 rfl rfl ?_
      refine kv_iload_n (pc := 27) 1 dX4_readNumber_27 rfl rfl ?_
      refine kv_cV (pc := 28) [.int v1] (fun r2 => (0, .int r2, σ)) (fun r2 => (.int r2 :: [.int ((σ q0 7) * 10), .ref q0])) (fun r2 => σ) 31 0 0 h (fun r2 g3 => tX4_byteAt sh hw l hst q0 h0 v1 σ r2 g3) dX4_readNumber_28 rfl h0 rfl yw_X4_byteAt lk_X4_155 (by decide) (Nat.le_of_ble_eq_true rfl) (by decide) (fun _ => rfl) (fun _ => rfl) ⟨rfl, rfl, rfl⟩ (fun _ _ h0 => absurd rfl h0) (fun r2 g3 z4 h => ?_)
      refine kv_iadd (pc := 31) dX4_readNumber_31 ?_
      refine kv_bipush (pc := 32) (v := 48) dX4_readNumber_32 (by decide) ?_
      refine kv_isub (pc := 34) dX4_readNumber_34 ?_
      refine kv_sipush (pc := 35) (v := 1000) dX4_readNumber_35 (by decide) ?_
      refine kv_min (pc := 38) dX4_readNumber_38 lk_X4_174 kw_min (by decide) (Nat.le_of_ble_eq_true rfl) (by decide) (by decide) ?_
      refine kv_put (pc := 41) tyX4 tyX4_ok nmX4 dX4_readNumber_41 h0 rfl (i := 7) (by decide) rfl fl_X4_51 rfl rfl rfl rfl rfl ?_
      refine kv_let h (fun σ5 h => ?_)
      refine kv_iinc (pc := 44) (v := v1 + 1) 1 [(1, .int (v1 + 1)), (0, .ref q0)] dX4_readNumber_44 rfl rfl (by decide) rfl ?_
      refine kv_goto (pc := 47) (tgt := 10) dX4_readNumber_47 (by decide) ?_
      refine kv_sub (pc := 10) [(0, .ref q0), (1, .int (v1 + 1))] [1, 0] rfl ?_
      exact ih (v1 + 1) σ5 r h
set_option maxHeartbeats 4000000 in
set_option maxRecDepth 100000 in
theorem tX4_readNumber (sh : KSh) (hw : KWf sh) (l : Launch) (hst : l.stackTraces = false) (q0 : Nat) (h0 : sh q0 = .inl 4) (σ : Sto) (r : Sto) (h : fX4_readNumber q0 σ = some r) : CT sh l mX4_readNumber yX4_readNumber [.ref q0] σ (0, .int 0, r) := by
  refine kct [(0, .ref q0)] hst (by decide +kernel) rfl rfl (Nat.le_of_ble_eq_true rfl) ?_
  rw [fX4_readNumber] at h
  refine kv_aload_n (pc := 0) 0 dX4_readNumber_0 rfl rfl ?_
  refine kv_iconst (pc := 1) (v := 0) dX4_readNumber_1 (by decide) ?_
  refine kv_put (pc := 2) tyX4 tyX4_ok nmX4 dX4_readNumber_2 h0 rfl (i := 7) (by decide) rfl fl_X4_51 rfl rfl rfl rfl rfl ?_
  refine kv_let h (fun σ1 h => ?_)
  refine kv_aload_n (pc := 5) 0 dX4_readNumber_5 rfl rfl ?_
  refine kv_getI (pc := 6) dX4_readNumber_6 h0 rfl (i := 5) (by decide) rfl fl_X4_148 rfl ?_
  refine kv_istore_n (pc := 9) [(1, .int (σ1 q0 5)), (0, .ref q0)] dX4_readNumber_9 rfl (by decide) rfl ?_
  refine kv_sub (pc := 10) [(0, .ref q0), (1, .int (σ1 q0 5))] [1, 0] rfl ?_
  exact wX4_readNumber_L10 sh hw l hst q0 h0 kFU (σ1 q0 5) σ1 r h
theorem yw_X4_readNumber : KMV yX4_readNumber mX4_readNumber RX4 0 := ⟨⟨rfl, by decide +kernel, by decide +kernel, by decide +kernel⟩, ⟨rfl, rfl⟩, kg_in 363 (by decide +kernel) (by decide +kernel), kg_in 6 (by decide +kernel) (by decide +kernel), kg_in 52 (by decide +kernel) (by decide +kernel), kg_in 364 (by decide +kernel) (by decide +kernel)⟩
theorem dX4_nextToken_0 : decode cX4_nextToken 0 = .ok (.aload_n 0, 1) := by decide +kernel
theorem dX4_nextToken_1 : decode cX4_nextToken 1 = .ok (.getfield 25, 3) := by decide +kernel
theorem dX4_nextToken_4 : decode cX4_nextToken 4 = .ok (.istore_n 1, 1) := by decide +kernel
theorem dX4_nextToken_5 : decode cX4_nextToken 5 = .ok (.iload_n 1, 1) := by decide +kernel
theorem dX4_nextToken_6 : decode cX4_nextToken 6 = .ok (.aload_n 0, 1) := by decide +kernel
theorem dX4_nextToken_7 : decode cX4_nextToken 7 = .ok (.getfield 19, 3) := by decide +kernel
theorem dX4_nextToken_10 : decode cX4_nextToken 10 = .ok (.if_icmp .ge 20, 3) := by decide +kernel
theorem dX4_nextToken_13 : decode cX4_nextToken 13 = .ok (.aload_n 0, 1) := by decide +kernel
theorem dX4_nextToken_14 : decode cX4_nextToken 14 = .ok (.iload_n 1, 1) := by decide +kernel
theorem dX4_nextToken_15 : decode cX4_nextToken 15 = .ok (.invokevirtual 155, 3) := by decide +kernel
theorem dX4_nextToken_18 : decode cX4_nextToken 18 = .ok (.invokestatic 162, 3) := by decide +kernel
theorem dX4_nextToken_21 : decode cX4_nextToken 21 = .ok (.ifCond .eq 9, 3) := by decide +kernel
theorem dX4_nextToken_24 : decode cX4_nextToken 24 = .ok (.iinc 1 1, 3) := by decide +kernel
theorem dX4_nextToken_27 : decode cX4_nextToken 27 = .ok (.goto (-22), 3) := by decide +kernel
theorem dX4_nextToken_30 : decode cX4_nextToken 30 = .ok (.aload_n 0, 1) := by decide +kernel
theorem dX4_nextToken_31 : decode cX4_nextToken 31 = .ok (.iload_n 1, 1) := by decide +kernel
theorem dX4_nextToken_32 : decode cX4_nextToken 32 = .ok (.putfield 148, 3) := by decide +kernel
theorem dX4_nextToken_35 : decode cX4_nextToken 35 = .ok (.aload_n 0, 1) := by decide +kernel
theorem dX4_nextToken_36 : decode cX4_nextToken 36 = .ok (.aload_n 0, 1) := by decide +kernel
theorem dX4_nextToken_37 : decode cX4_nextToken 37 = .ok (.iload_n 1, 1) := by decide +kernel
theorem dX4_nextToken_38 : decode cX4_nextToken 38 = .ok (.invokevirtual 155, 3) := by decide +kernel
theorem dX4_nextToken_41 : decode cX4_nextToken 41 = .ok (.invokestatic 165, 3) := by decide +kernel
theorem dX4_nextToken_44 : decode cX4_nextToken 44 = .ok (.putfield 35, 3) := by decide +kernel
theorem dX4_nextToken_47 : decode cX4_nextToken 47 = .ok (.iload_n 1, 1) := by decide +kernel
theorem dX4_nextToken_48 : decode cX4_nextToken 48 = .ok (.aload_n 0, 1) := by decide +kernel
theorem dX4_nextToken_49 : decode cX4_nextToken 49 = .ok (.getfield 19, 3) := by decide +kernel
theorem dX4_nextToken_52 : decode cX4_nextToken 52 = .ok (.if_icmp .ge 6, 3) := by decide +kernel
theorem dX4_nextToken_55 : decode cX4_nextToken 55 = .ok (.iinc 1 1, 3) := by decide +kernel
theorem dX4_nextToken_58 : decode cX4_nextToken 58 = .ok (.iload_n 1, 1) := by decide +kernel
theorem dX4_nextToken_59 : decode cX4_nextToken 59 = .ok (.aload_n 0, 1) := by decide +kernel
theorem dX4_nextToken_60 : decode cX4_nextToken 60 = .ok (.getfield 19, 3) := by decide +kernel
theorem dX4_nextToken_63 : decode cX4_nextToken 63 = .ok (.if_icmp .ge 34, 3) := by decide +kernel
theorem dX4_nextToken_66 : decode cX4_nextToken 66 = .ok (.aload_n 0, 1) := by decide +kernel
theorem dX4_nextToken_67 : decode cX4_nextToken 67 = .ok (.getfield 35, 3) := by decide +kernel
theorem dX4_nextToken_70 : decode cX4_nextToken 70 = .ok (.invokestatic 168, 3) := by decide +kernel
theorem dX4_nextToken_73 : decode cX4_nextToken 73 = .ok (.ifCond .eq 24, 3) := by decide +kernel
theorem dX4_nextToken_76 : decode cX4_nextToken 76 = .ok (.aload_n 0, 1) := by decide +kernel
theorem dX4_nextToken_77 : decode cX4_nextToken 77 = .ok (.iload_n 1, 1) := by decide +kernel
theorem dX4_nextToken_78 : decode cX4_nextToken 78 = .ok (.invokevirtual 155, 3) := by decide +kernel
theorem dX4_nextToken_81 : decode cX4_nextToken 81 = .ok (.invokestatic 165, 3) := by decide +kernel
theorem dX4_nextToken_84 : decode cX4_nextToken 84 = .ok (.aload_n 0, 1) := by decide +kernel
theorem dX4_nextToken_85 : decode cX4_nextToken 85 = .ok (.getfield 35, 3) := by decide +kernel
theorem dX4_nextToken_88 : decode cX4_nextToken 88 = .ok (.if_icmp .ne 9, 3) := by decide +kernel
theorem dX4_nextToken_91 : decode cX4_nextToken 91 = .ok (.iinc 1 1, 3) := by decide +kernel
theorem dX4_nextToken_94 : decode cX4_nextToken 94 = .ok (.goto (-36), 3) := by decide +kernel
theorem dX4_nextToken_97 : decode cX4_nextToken 97 = .ok (.aload_n 0, 1) := by decide +kernel
theorem dX4_nextToken_98 : decode cX4_nextToken 98 = .ok (.iload_n 1, 1) := by decide +kernel
theorem dX4_nextToken_99 : decode cX4_nextToken 99 = .ok (.putfield 25, 3) := by decide +kernel
theorem dX4_nextToken_102 : decode cX4_nextToken 102 = .ok (.aload_n 0, 1) := by decide +kernel
theorem dX4_nextToken_103 : decode cX4_nextToken 103 = .ok (.getfield 35, 3) := by decide +kernel
theorem dX4_nextToken_106 : decode cX4_nextToken 106 = .ok (.iconst 2, 1) := by decide +kernel
theorem dX4_nextToken_107 : decode cX4_nextToken 107 = .ok (.if_icmp .ne 7, 3) := by decide +kernel
theorem dX4_nextToken_110 : decode cX4_nextToken 110 = .ok (.aload_n 0, 1) := by decide +kernel
theorem dX4_nextToken_111 : decode cX4_nextToken 111 = .ok (.invokevirtual 171, 3) := by decide +kernel
theorem dX4_nextToken_114 : decode cX4_nextToken 114 = .ok (.return_, 1) := by decide +kernel
abbrev mX4_nextToken : KM := (RX4, cX4_nextToken, 2, none, { frames := 2, cells := 0, slots := 0, locals := 42 }, 0, 0)
def fX4_nextToken_L97 (q0 : Nat) (v1 : Int32) (σ : Sto) : Option Sto :=
  klet (su σ q0 6 v1) fun σ6 =>
  if (σ6 q0 4) = 2 then
    (fX4_readNumber q0 σ6).bind fun r7 =>
    some r7
  else
    some σ6
def fX4_nextToken_L58 (q0 : Nat) : Nat → Int32 → Sto → Option Sto
  | 0, _, _ => none
  | fu + 1, v1, σ =>
    if (σ q0 1) ≤ v1 then
      fX4_nextToken_L97 q0 v1 σ
    else
      if (fX4_isRun (σ q0 4)) = true then
        (fX4_byteAt q0 v1 σ).bind fun r10 =>
        if (fX4_tokenOf r10) = (σ q0 4) then
          fX4_nextToken_L58 q0 fu (v1 + 1) σ
        else
          fX4_nextToken_L97 q0 v1 σ
      else
        fX4_nextToken_L97 q0 v1 σ
def fX4_nextToken_L30 (q0 : Nat) (v1 : Int32) (σ : Sto) : Option Sto :=
  klet (su σ q0 5 v1) fun σ1 =>
  (fX4_byteAt q0 v1 σ1).bind fun r2 =>
  klet (su σ1 q0 4 (fX4_tokenOf r2)) fun σ5 =>
  if (σ5 q0 1) ≤ v1 then
    fX4_nextToken_L58 q0 kFU v1 σ5
  else
    fX4_nextToken_L58 q0 kFU (v1 + 1) σ5
def fX4_nextToken_L5 (q0 : Nat) : Nat → Int32 → Sto → Option Sto
  | 0, _, _ => none
  | fu + 1, v1, σ =>
    if (σ q0 1) ≤ v1 then
      fX4_nextToken_L30 q0 v1 σ
    else
      (fX4_byteAt q0 v1 σ).bind fun r13 =>
      if (fX4_isBlank r13) = true then
        fX4_nextToken_L5 q0 fu (v1 + 1) σ
      else
        fX4_nextToken_L30 q0 v1 σ
def fX4_nextToken (q0 : Nat) (σ : Sto) : Option Sto :=
  fX4_nextToken_L5 q0 kFU (σ q0 6) σ
set_option maxHeartbeats 4000000 in
set_option maxRecDepth 100000 in
theorem wX4_nextToken_L97 (sh : KSh) (hw : KWf sh) (l : Launch) (hst : l.stackTraces = false) (q0 : Nat) (h0 : sh q0 = .inl 4) : ∀ (v1 : Int32), ∀ (σ : Sto), ∀ (r : Sto), fX4_nextToken_L97 q0 v1 σ = some r → VV sh l mX4_nextToken 0 0 97 [(0, .ref q0), (1, .int v1)] [] σ (0, .int 0, r) := by
  intro v1 σ r h
  rw [fX4_nextToken_L97] at h
  refine kv_aload_n (pc := 97) 0 dX4_nextToken_97 rfl rfl ?_
  refine kv_iload_n (pc := 98) 1 dX4_nextToken_98 rfl rfl ?_
  refine kv_put (pc := 99) tyX4 tyX4_ok nmX4 dX4_nextToken_99 h0 rfl (i := 6) (by decide) rfl fl_X4_25 rfl rfl rfl rfl rfl ?_
  refine kv_let h (fun σ6 h => ?_)
  refine kv_aload_n (pc := 102) 0 dX4_nextToken_102 rfl rfl ?_
  refine kv_getI (pc := 103) dX4_nextToken_103 h0 rfl (i := 4) (by decide) rfl fl_X4_35 rfl ?_
  refine kv_iconst (pc := 106) (v := 2) dX4_nextToken_106 (by decide) ?_
  refine kv_icmp_ne (pc := 107) (tgt := 114) dX4_nextToken_107 (by decide) h (fun h => ?_) (fun h => ?_)
  · exact kv_vret (pc := 114) (v := .int 0) dX4_nextToken_114 rfl (by cases h; rfl) (by decide) (by decide)
  · refine kv_aload_n (pc := 110) 0 dX4_nextToken_110 rfl rfl ?_
    refine kv_cV (pc := 111) [] (fun r7 => (0, .int 0, r7)) (fun r7 => []) (fun r7 => r7) 114 0 0 h (fun r7 g8 => tX4_readNumber sh hw l hst q0 h0 σ6 r7 g8) dX4_nextToken_111 rfl h0 rfl yw_X4_readNumber lk_X4_171 (by decide) (Nat.le_of_ble_eq_true rfl) (by decide) (fun _ => rfl) (fun _ => rfl) ⟨rfl, rfl, rfl⟩ (fun _ _ h0 => absurd rfl h0) (fun r7 g8 z9 h => ?_)
    exact kv_vret (pc := 114) (v := .int 0) dX4_nextToken_114 rfl (by cases h; rfl) (by decide) (by decide)
set_option maxHeartbeats 4000000 in
set_option maxRecDepth 100000 in
theorem wX4_nextToken_L58 (sh : KSh) (hw : KWf sh) (l : Launch) (hst : l.stackTraces = false) (q0 : Nat) (h0 : sh q0 = .inl 4) : ∀ (fu : Nat), ∀ (v1 : Int32), ∀ (σ : Sto), ∀ (r : Sto), fX4_nextToken_L58 q0 fu v1 σ = some r → VV sh l mX4_nextToken 0 0 58 [(0, .ref q0), (1, .int v1)] [] σ (0, .int 0, r) := by
  intro fu
  induction fu with
  | zero => intro v1 σ r h; rw [fX4_nextToken_L58] at h; cases h
  | succ fu ih =>
    intro v1 σ r h
    rw [fX4_nextToken_L58] at h
    refine kv_iload_n (pc := 58) 1 dX4_nextToken_58 rfl rfl ?_
    refine kv_aload_n (pc := 59) 0 dX4_nextToken_59 rfl rfl ?_
    refine kv_getI (pc := 60) dX4_nextToken_60 h0 rfl (i := 1) (by decide) rfl fl_X4_19 rfl ?_
    refine kv_icmp_ge (pc := 63) (tgt := 97) dX4_nextToken_63 (by decide) h (fun h => ?_) (fun h => ?_)
    · refine kv_sub (pc := 97) [(0, .ref q0), (1, .int v1)] [0, 1] rfl ?_
      exact wX4_nextToken_L97 sh hw l hst q0 h0 v1 σ r h
    · refine kv_aload_n (pc := 66) 0 dX4_nextToken_66 rfl rfl ?_
      refine kv_getI (pc := 67) dX4_nextToken_67 h0 rfl (i := 4) (by decide) rfl fl_X4_35 rfl ?_
      refine kv_tS (pc := 70) (v := .int (kb (fX4_isRun (σ q0 4)))) [.int (σ q0 4)] (.int (kb (fX4_isRun (σ q0 4))) :: []) 73 0 0 (tX4_isRun sh hw l hst (σ q0 4) σ) dX4_nextToken_70 rfl yw_X4_isRun lk_X4_168 (by decide) (Nat.le_of_ble_eq_true rfl) (by decide) rfl ⟨rfl, rfl, rfl⟩ ?_
      refine kv_ifb_eq (pc := 73) (tgt := 97) dX4_nextToken_73 (by decide) h (fun h => ?_) (fun h => ?_)
      · refine kv_sub (pc := 97) [(0, .ref q0), (1, .int v1)] [0, 1] rfl ?_
        exact wX4_nextToken_L97 sh hw l hst q0 h0 v1 σ r h
      · refine kv_aload_n (pc := 76) 0 dX4_nextToken_76 rfl rfl ?_
        refine kv_iload_n (pc := 77) 1 dX4_nextToken_77 rfl rfl ?_
        refine kv_cV (pc := 78) [.int v1] (fun r10 => (0, .int r10, σ)) (fun r10 => (.int r10 :: [])) (fun r10 => σ) 81 0 0 h (fun r10 g11 => tX4_byteAt sh hw l hst q0 h0 v1 σ r10 g11) dX4_nextToken_78 rfl h0 rfl yw_X4_byteAt lk_X4_155 (by decide) (Nat.le_of_ble_eq_true rfl) (by decide) (fun _ => rfl) (fun _ => rfl) ⟨rfl, rfl, rfl⟩ (fun _ _ h0 => absurd rfl h0) (fun r10 g11 z12 h => ?_)
        refine kv_tS (pc := 81) (v := .int (fX4_tokenOf r10)) [.int r10] (.int (fX4_tokenOf r10) :: []) 84 0 0 (tX4_tokenOf sh hw l hst r10 σ) dX4_nextToken_81 rfl yw_X4_tokenOf lk_X4_165 (by decide) (Nat.le_of_ble_eq_true rfl) (by decide) rfl ⟨rfl, rfl, rfl⟩ ?_
        refine kv_aload_n (pc := 84) 0 dX4_nextToken_84 rfl rfl ?_
        refine kv_getI (pc := 85) dX4_nextToken_85 h0 rfl (i := 4) (by decide) rfl fl_X4_35 rfl ?_
        refine kv_icmp_ne (pc := 88) (tgt := 97) dX4_nextToken_88 (by decide) h (fun h => ?_) (fun h => ?_)
        · refine kv_sub (pc := 97) [(0, .ref q0), (1, .int v1)] [0, 1] rfl ?_
          exact wX4_nextToken_L97 sh hw l hst q0 h0 v1 σ r h
        · refine kv_iinc (pc := 91) (v := v1 + 1) 1 [(1, .int (v1 + 1)), (0, .ref q0)] dX4_nextToken_91 rfl rfl (by decide) rfl ?_
          refine kv_goto (pc := 94) (tgt := 58) dX4_nextToken_94 (by decide) ?_
          refine kv_sub (pc := 58) [(0, .ref q0), (1, .int (v1 + 1))] [1, 0] rfl ?_
          exact ih (v1 + 1) σ r h
set_option maxHeartbeats 4000000 in
set_option maxRecDepth 100000 in
theorem wX4_nextToken_L30 (sh : KSh) (hw : KWf sh) (l : Launch) (hst : l.stackTraces = false) (q0 : Nat) (h0 : sh q0 = .inl 4) : ∀ (v1 : Int32), ∀ (σ : Sto), ∀ (r : Sto), fX4_nextToken_L30 q0 v1 σ = some r → VV sh l mX4_nextToken 0 0 30 [(0, .ref q0), (1, .int v1)] [] σ (0, .int 0, r) := by
  intro v1 σ r h
  rw [fX4_nextToken_L30] at h
  refine kv_aload_n (pc := 30) 0 dX4_nextToken_30 rfl rfl ?_
  refine kv_iload_n (pc := 31) 1 dX4_nextToken_31 rfl rfl ?_
  refine kv_put (pc := 32) tyX4 tyX4_ok nmX4 dX4_nextToken_32 h0 rfl (i := 5) (by decide) rfl fl_X4_148 rfl rfl rfl rfl rfl ?_
  refine kv_let h (fun σ1 h => ?_)
  refine kv_aload_n (pc := 35) 0 dX4_nextToken_35 rfl rfl ?_
  refine kv_aload_n (pc := 36) 0 dX4_nextToken_36 rfl rfl ?_
  refine kv_iload_n (pc := 37) 1 dX4_nextToken_37 rfl rfl ?_
  refine kv_cV (pc := 38) [.int v1] (fun r2 => (0, .int r2, σ1)) (fun r2 => (.int r2 :: [.ref q0])) (fun r2 => σ1) 41 0 0 h (fun r2 g3 => tX4_byteAt sh hw l hst q0 h0 v1 σ1 r2 g3) dX4_nextToken_38 rfl h0 rfl yw_X4_byteAt lk_X4_155 (by decide) (Nat.le_of_ble_eq_true rfl) (by decide) (fun _ => rfl) (fun _ => rfl) ⟨rfl, rfl, rfl⟩ (fun _ _ h0 => absurd rfl h0) (fun r2 g3 z4 h => ?_)
  refine kv_tS (pc := 41) (v := .int (fX4_tokenOf r2)) [.int r2] (.int (fX4_tokenOf r2) :: [.ref q0]) 44 0 0 (tX4_tokenOf sh hw l hst r2 σ1) dX4_nextToken_41 rfl yw_X4_tokenOf lk_X4_165 (by decide) (Nat.le_of_ble_eq_true rfl) (by decide) rfl ⟨rfl, rfl, rfl⟩ ?_
  refine kv_put (pc := 44) tyX4 tyX4_ok nmX4 dX4_nextToken_44 h0 rfl (i := 4) (by decide) rfl fl_X4_35 rfl rfl rfl rfl rfl ?_
  refine kv_let h (fun σ5 h => ?_)
  refine kv_iload_n (pc := 47) 1 dX4_nextToken_47 rfl rfl ?_
  refine kv_aload_n (pc := 48) 0 dX4_nextToken_48 rfl rfl ?_
  refine kv_getI (pc := 49) dX4_nextToken_49 h0 rfl (i := 1) (by decide) rfl fl_X4_19 rfl ?_
  refine kv_icmp_ge (pc := 52) (tgt := 58) dX4_nextToken_52 (by decide) h (fun h => ?_) (fun h => ?_)
  · refine kv_sub (pc := 58) [(0, .ref q0), (1, .int v1)] [0, 1] rfl ?_
    exact wX4_nextToken_L58 sh hw l hst q0 h0 kFU v1 σ5 r h
  · refine kv_iinc (pc := 55) (v := v1 + 1) 1 [(1, .int (v1 + 1)), (0, .ref q0)] dX4_nextToken_55 rfl rfl (by decide) rfl ?_
    refine kv_sub (pc := 58) [(0, .ref q0), (1, .int (v1 + 1))] [1, 0] rfl ?_
    exact wX4_nextToken_L58 sh hw l hst q0 h0 kFU (v1 + 1) σ5 r h
set_option maxHeartbeats 4000000 in
set_option maxRecDepth 100000 in
theorem wX4_nextToken_L5 (sh : KSh) (hw : KWf sh) (l : Launch) (hst : l.stackTraces = false) (q0 : Nat) (h0 : sh q0 = .inl 4) : ∀ (fu : Nat), ∀ (v1 : Int32), ∀ (σ : Sto), ∀ (r : Sto), fX4_nextToken_L5 q0 fu v1 σ = some r → VV sh l mX4_nextToken 0 0 5 [(0, .ref q0), (1, .int v1)] [] σ (0, .int 0, r) := by
  intro fu
  induction fu with
  | zero => intro v1 σ r h; rw [fX4_nextToken_L5] at h; cases h
  | succ fu ih =>
    intro v1 σ r h
    rw [fX4_nextToken_L5] at h
    refine kv_iload_n (pc := 5) 1 dX4_nextToken_5 rfl rfl ?_
    refine kv_aload_n (pc := 6) 0 dX4_nextToken_6 rfl rfl ?_
    refine kv_getI (pc := 7) dX4_nextToken_7 h0 rfl (i := 1) (by decide) rfl fl_X4_19 rfl ?_
    refine kv_icmp_ge (pc := 10) (tgt := 30) dX4_nextToken_10 (by decide) h (fun h => ?_) (fun h => ?_)
    · refine kv_sub (pc := 30) [(0, .ref q0), (1, .int v1)] [0, 1] rfl ?_
      exact wX4_nextToken_L30 sh hw l hst q0 h0 v1 σ r h
    · refine kv_aload_n (pc := 13) 0 dX4_nextToken_13 rfl rfl ?_
      refine kv_iload_n (pc := 14) 1 dX4_nextToken_14 rfl rfl ?_
      refine kv_cV (pc := 15) [.int v1] (fun r13 => (0, .int r13, σ)) (fun r13 => (.int r13 :: [])) (fun r13 => σ) 18 0 0 h (fun r13 g14 => tX4_byteAt sh hw l hst q0 h0 v1 σ r13 g14) dX4_nextToken_15 rfl h0 rfl yw_X4_byteAt lk_X4_155 (by decide) (Nat.le_of_ble_eq_true rfl) (by decide) (fun _ => rfl) (fun _ => rfl) ⟨rfl, rfl, rfl⟩ (fun _ _ h0 => absurd rfl h0) (fun r13 g14 z15 h => ?_)
      refine kv_tS (pc := 18) (v := .int (kb (fX4_isBlank r13))) [.int r13] (.int (kb (fX4_isBlank r13)) :: []) 21 0 0 (tX4_isBlank sh hw l hst r13 σ) dX4_nextToken_18 rfl yw_X4_isBlank lk_X4_162 (by decide) (Nat.le_of_ble_eq_true rfl) (by decide) rfl ⟨rfl, rfl, rfl⟩ ?_
      refine kv_ifb_eq (pc := 21) (tgt := 30) dX4_nextToken_21 (by decide) h (fun h => ?_) (fun h => ?_)
      · refine kv_sub (pc := 30) [(0, .ref q0), (1, .int v1)] [0, 1] rfl ?_
        exact wX4_nextToken_L30 sh hw l hst q0 h0 v1 σ r h
      · refine kv_iinc (pc := 24) (v := v1 + 1) 1 [(1, .int (v1 + 1)), (0, .ref q0)] dX4_nextToken_24 rfl rfl (by decide) rfl ?_
        refine kv_goto (pc := 27) (tgt := 5) dX4_nextToken_27 (by decide) ?_
        refine kv_sub (pc := 5) [(0, .ref q0), (1, .int (v1 + 1))] [1, 0] rfl ?_
        exact ih (v1 + 1) σ r h
set_option maxHeartbeats 4000000 in
set_option maxRecDepth 100000 in
theorem tX4_nextToken (sh : KSh) (hw : KWf sh) (l : Launch) (hst : l.stackTraces = false) (q0 : Nat) (h0 : sh q0 = .inl 4) (σ : Sto) (r : Sto) (h : fX4_nextToken q0 σ = some r) : CT sh l mX4_nextToken yX4_nextToken [.ref q0] σ (0, .int 0, r) := by
  refine kct [(0, .ref q0)] hst (by decide +kernel) rfl rfl (Nat.le_of_ble_eq_true rfl) ?_
  rw [fX4_nextToken] at h
  refine kv_aload_n (pc := 0) 0 dX4_nextToken_0 rfl rfl ?_
  refine kv_getI (pc := 1) dX4_nextToken_1 h0 rfl (i := 6) (by decide) rfl fl_X4_25 rfl ?_
  refine kv_istore_n (pc := 4) [(1, .int (σ q0 6)), (0, .ref q0)] dX4_nextToken_4 rfl (by decide) rfl ?_
  refine kv_sub (pc := 5) [(0, .ref q0), (1, .int (σ q0 6))] [1, 0] rfl ?_
  exact wX4_nextToken_L5 sh hw l hst q0 h0 kFU (σ q0 6) σ r h
theorem yw_X4_nextToken : KMV yX4_nextToken mX4_nextToken RX4 0 := ⟨⟨rfl, by decide +kernel, by decide +kernel, by decide +kernel⟩, ⟨rfl, rfl⟩, kg_in 346 (by decide +kernel) (by decide +kernel), kg_in 4 (by decide +kernel) (by decide +kernel), kg_in 52 (by decide +kernel) (by decide +kernel), kg_in 347 (by decide +kernel) (by decide +kernel)⟩
theorem dX4_isWord_0 : decode cX4_isWord 0 = .ok (.aload_n 0, 1) := by decide +kernel
theorem dX4_isWord_1 : decode cX4_isWord 1 = .ok (.getfield 35, 3) := by decide +kernel
theorem dX4_isWord_4 : decode cX4_isWord 4 = .ok (.iconst 1, 1) := by decide +kernel
theorem dX4_isWord_5 : decode cX4_isWord 5 = .ok (.if_icmp .ne 19, 3) := by decide +kernel
theorem dX4_isWord_8 : decode cX4_isWord 8 = .ok (.aload_n 0, 1) := by decide +kernel
theorem dX4_isWord_9 : decode cX4_isWord 9 = .ok (.getfield 25, 3) := by decide +kernel
theorem dX4_isWord_12 : decode cX4_isWord 12 = .ok (.aload_n 0, 1) := by decide +kernel
theorem dX4_isWord_13 : decode cX4_isWord 13 = .ok (.getfield 148, 3) := by decide +kernel
theorem dX4_isWord_16 : decode cX4_isWord 16 = .ok (.isub, 1) := by decide +kernel
theorem dX4_isWord_17 : decode cX4_isWord 17 = .ok (.aload_n 1, 1) := by decide +kernel
theorem dX4_isWord_18 : decode cX4_isWord 18 = .ok (.invokevirtual 151, 3) := by decide +kernel
theorem dX4_isWord_21 : decode cX4_isWord 21 = .ok (.if_icmp .eq 5, 3) := by decide +kernel
theorem dX4_isWord_24 : decode cX4_isWord 24 = .ok (.iconst 0, 1) := by decide +kernel
theorem dX4_isWord_25 : decode cX4_isWord 25 = .ok (.ireturn, 1) := by decide +kernel
theorem dX4_isWord_26 : decode cX4_isWord 26 = .ok (.iconst 0, 1) := by decide +kernel
theorem dX4_isWord_27 : decode cX4_isWord 27 = .ok (.istore_n 2, 1) := by decide +kernel
theorem dX4_isWord_28 : decode cX4_isWord 28 = .ok (.iload_n 2, 1) := by decide +kernel
theorem dX4_isWord_29 : decode cX4_isWord 29 = .ok (.aload_n 1, 1) := by decide +kernel
theorem dX4_isWord_30 : decode cX4_isWord 30 = .ok (.invokevirtual 151, 3) := by decide +kernel
theorem dX4_isWord_33 : decode cX4_isWord 33 = .ok (.if_icmp .ge 29, 3) := by decide +kernel
theorem dX4_isWord_36 : decode cX4_isWord 36 = .ok (.aload_n 0, 1) := by decide +kernel
theorem dX4_isWord_37 : decode cX4_isWord 37 = .ok (.aload_n 0, 1) := by decide +kernel
theorem dX4_isWord_38 : decode cX4_isWord 38 = .ok (.getfield 148, 3) := by decide +kernel
theorem dX4_isWord_41 : decode cX4_isWord 41 = .ok (.iload_n 2, 1) := by decide +kernel
theorem dX4_isWord_42 : decode cX4_isWord 42 = .ok (.iadd, 1) := by decide +kernel
theorem dX4_isWord_43 : decode cX4_isWord 43 = .ok (.invokevirtual 155, 3) := by decide +kernel
theorem dX4_isWord_46 : decode cX4_isWord 46 = .ok (.aload_n 1, 1) := by decide +kernel
theorem dX4_isWord_47 : decode cX4_isWord 47 = .ok (.iload_n 2, 1) := by decide +kernel
theorem dX4_isWord_48 : decode cX4_isWord 48 = .ok (.invokevirtual 158, 3) := by decide +kernel
theorem dX4_isWord_51 : decode cX4_isWord 51 = .ok (.if_icmp .eq 5, 3) := by decide +kernel
theorem dX4_isWord_54 : decode cX4_isWord 54 = .ok (.iconst 0, 1) := by decide +kernel
theorem dX4_isWord_55 : decode cX4_isWord 55 = .ok (.ireturn, 1) := by decide +kernel
theorem dX4_isWord_56 : decode cX4_isWord 56 = .ok (.iinc 2 1, 3) := by decide +kernel
theorem dX4_isWord_59 : decode cX4_isWord 59 = .ok (.goto (-31), 3) := by decide +kernel
theorem dX4_isWord_62 : decode cX4_isWord 62 = .ok (.iconst 1, 1) := by decide +kernel
theorem dX4_isWord_63 : decode cX4_isWord 63 = .ok (.ireturn, 1) := by decide +kernel
abbrev mX4_isWord : KM := (RX4, cX4_isWord, 3, (some .boolean), { frames := 4, cells := 0, slots := 0, locals := 85 }, 0, 0)
def fX4_isWord_L28 (q0 : Nat) (t1 : Nat) : Nat → Int32 → Sto → Option Bool
  | 0, _, _ => none
  | fu + 1, v2, σ =>
    if (nI (ksby t1).length) ≤ v2 then
      some true
    else
      (fX4_byteAt q0 ((σ q0 5) + v2) σ).bind fun r1 =>
      if kin v2 (ksby t1).length = true then
        if r1 = (ksch t1 v2) then
          fX4_isWord_L28 q0 t1 fu (v2 + 1) σ
        else
          some false
      else none
def fX4_isWord (q0 : Nat) (t1 : Nat) (σ : Sto) : Option Bool :=
  if (σ q0 4) = 1 then
    if ((σ q0 6) - (σ q0 5)) = (nI (ksby t1).length) then
      fX4_isWord_L28 q0 t1 kFU 0 σ
    else
      some false
  else
    some false
set_option maxHeartbeats 4000000 in
set_option maxRecDepth 100000 in
theorem wX4_isWord_L28 (sh : KSh) (hw : KWf sh) (l : Launch) (hst : l.stackTraces = false) (q0 : Nat) (h0 : sh q0 = .inl 4) (t1 : Nat) (h1 : t1 < 9) : ∀ (fu : Nat), ∀ (v2 : Int32), ∀ (σ : Sto), ∀ (r : Bool), fX4_isWord_L28 q0 t1 fu v2 σ = some r → VV sh l mX4_isWord 0 0 28 [(0, .ref q0), (1, .ref (2000 + t1)), (2, .int v2)] [] σ (0, .int (kb r), σ) := by
  intro fu
  induction fu with
  | zero => intro v2 σ r h; rw [fX4_isWord_L28] at h; cases h
  | succ fu ih =>
    intro v2 σ r h
    rw [fX4_isWord_L28] at h
    refine kv_iload_n (pc := 28) 2 dX4_isWord_28 rfl rfl ?_
    refine kv_aload_n (pc := 29) 1 dX4_isWord_29 rfl rfl ?_
    refine kv_slen (pc := 30) hst 33 h1 dX4_isWord_30 lk_X4_151 (by decide) (Nat.le_of_ble_eq_true rfl) (by decide) rfl ?_
    refine kv_icmp_ge (pc := 33) (tgt := 62) dX4_isWord_33 (by decide) h (fun h => ?_) (fun h => ?_)
    · refine kv_iconst (pc := 62) (v := 1) dX4_isWord_62 (by decide) ?_
      exact kv_zret (pc := 63) dX4_isWord_63 rfl rfl (by cases h; rfl) (by decide) (by decide)
    · refine kv_aload_n (pc := 36) 0 dX4_isWord_36 rfl rfl ?_
      refine kv_aload_n (pc := 37) 0 dX4_isWord_37 rfl rfl ?_
      refine kv_getI (pc := 38) dX4_isWord_38 h0 rfl (i := 5) (by decide) rfl fl_X4_148 rfl ?_
      refine kv_iload_n (pc := 41) 2 dX4_isWord_41 rfl rfl ?_
      refine kv_iadd (pc := 42) dX4_isWord_42 ?_
      refine kv_cV (pc := 43) [.int ((σ q0 5) + v2)] (fun r1 => (0, .int r1, σ)) (fun r1 => (.int r1 :: [])) (fun r1 => σ) 46 0 0 h (fun r1 g2 => tX4_byteAt sh hw l hst q0 h0 ((σ q0 5) + v2) σ r1 g2) dX4_isWord_43 rfl h0 rfl yw_X4_byteAt lk_X4_155 (by decide) (Nat.le_of_ble_eq_true rfl) (by decide) (fun _ => rfl) (fun _ => rfl) ⟨rfl, rfl, rfl⟩ (fun _ _ h0 => absurd rfl h0) (fun r1 g2 z3 h => ?_)
      refine kv_aload_n (pc := 46) 1 dX4_isWord_46 rfl rfl ?_
      refine kv_iload_n (pc := 47) 2 dX4_isWord_47 rfl rfl ?_
      refine kv_schr (pc := 48) hst 51 h1 dX4_isWord_48 lk_X4_158 (by decide) (Nat.le_of_ble_eq_true rfl) (by decide) rfl h (fun h => ?_)
      refine kv_icmp_eq (pc := 51) (tgt := 56) dX4_isWord_51 (by decide) h (fun h => ?_) (fun h => ?_)
      · refine kv_iinc (pc := 56) (v := v2 + 1) 2 [(2, .int (v2 + 1)), (0, .ref q0), (1, .ref (2000 + t1))] dX4_isWord_56 rfl rfl (by decide) rfl ?_
        refine kv_goto (pc := 59) (tgt := 28) dX4_isWord_59 (by decide) ?_
        refine kv_sub (pc := 28) [(0, .ref q0), (1, .ref (2000 + t1)), (2, .int (v2 + 1))] [1, 2, 0] rfl ?_
        exact ih (v2 + 1) σ r h
      · refine kv_iconst (pc := 54) (v := 0) dX4_isWord_54 (by decide) ?_
        exact kv_zret (pc := 55) dX4_isWord_55 rfl rfl (by cases h; rfl) (by decide) (by decide)
set_option maxHeartbeats 4000000 in
set_option maxRecDepth 100000 in
theorem tX4_isWord (sh : KSh) (hw : KWf sh) (l : Launch) (hst : l.stackTraces = false) (q0 : Nat) (h0 : sh q0 = .inl 4) (t1 : Nat) (h1 : t1 < 9) (σ : Sto) (r : Bool) (h : fX4_isWord q0 t1 σ = some r) : CT sh l mX4_isWord yX4_isWord [.ref q0, .ref (2000 + t1)] σ (0, .int (kb r), σ) := by
  refine kct [(0, .ref q0), (1, .ref (2000 + t1))] hst (by decide +kernel) rfl rfl (Nat.le_of_ble_eq_true rfl) ?_
  rw [fX4_isWord] at h
  refine kv_aload_n (pc := 0) 0 dX4_isWord_0 rfl rfl ?_
  refine kv_getI (pc := 1) dX4_isWord_1 h0 rfl (i := 4) (by decide) rfl fl_X4_35 rfl ?_
  refine kv_iconst (pc := 4) (v := 1) dX4_isWord_4 (by decide) ?_
  refine kv_icmp_ne (pc := 5) (tgt := 24) dX4_isWord_5 (by decide) h (fun h => ?_) (fun h => ?_)
  · refine kv_iconst (pc := 24) (v := 0) dX4_isWord_24 (by decide) ?_
    exact kv_zret (pc := 25) dX4_isWord_25 rfl rfl (by cases h; rfl) (by decide) (by decide)
  · refine kv_aload_n (pc := 8) 0 dX4_isWord_8 rfl rfl ?_
    refine kv_getI (pc := 9) dX4_isWord_9 h0 rfl (i := 6) (by decide) rfl fl_X4_25 rfl ?_
    refine kv_aload_n (pc := 12) 0 dX4_isWord_12 rfl rfl ?_
    refine kv_getI (pc := 13) dX4_isWord_13 h0 rfl (i := 5) (by decide) rfl fl_X4_148 rfl ?_
    refine kv_isub (pc := 16) dX4_isWord_16 ?_
    refine kv_aload_n (pc := 17) 1 dX4_isWord_17 rfl rfl ?_
    refine kv_slen (pc := 18) hst 21 h1 dX4_isWord_18 lk_X4_151 (by decide) (Nat.le_of_ble_eq_true rfl) (by decide) rfl ?_
    refine kv_icmp_eq (pc := 21) (tgt := 26) dX4_isWord_21 (by decide) h (fun h => ?_) (fun h => ?_)
    · refine kv_iconst (pc := 26) (v := 0) dX4_isWord_26 (by decide) ?_
      refine kv_istore_n (pc := 27) [(2, .int 0), (0, .ref q0), (1, .ref (2000 + t1))] dX4_isWord_27 rfl (by decide) rfl ?_
      refine kv_sub (pc := 28) [(0, .ref q0), (1, .ref (2000 + t1)), (2, .int 0)] [1, 2, 0] rfl ?_
      exact wX4_isWord_L28 sh hw l hst q0 h0 t1 h1 kFU 0 σ r h
    · refine kv_iconst (pc := 24) (v := 0) dX4_isWord_24 (by decide) ?_
      exact kv_zret (pc := 25) dX4_isWord_25 rfl rfl (by cases h; rfl) (by decide) (by decide)
theorem yw_X4_isWord : KMV yX4_isWord mX4_isWord RX4 1 := ⟨⟨rfl, by decide +kernel, by decide +kernel, by decide +kernel⟩, ⟨rfl, rfl⟩, kg_in 370 (by decide +kernel) (by decide +kernel), kg_in 7 (by decide +kernel) (by decide +kernel), kg_in 52 (by decide +kernel) (by decide +kernel), kg_in 371 (by decide +kernel) (by decide +kernel)⟩
theorem dX4_isWrong_0 : decode cX4_isWrong 0 = .ok (.aload_n 0, 1) := by decide +kernel
theorem dX4_isWrong_1 : decode cX4_isWrong 1 = .ok (.iload_n 1, 1) := by decide +kernel
theorem dX4_isWrong_2 : decode cX4_isWrong 2 = .ok (.putfield 22, 3) := by decide +kernel
theorem dX4_isWrong_5 : decode cX4_isWrong 5 = .ok (.aload_n 0, 1) := by decide +kernel
theorem dX4_isWrong_6 : decode cX4_isWrong 6 = .ok (.aload_n 0, 1) := by decide +kernel
theorem dX4_isWrong_7 : decode cX4_isWrong 7 = .ok (.getfield 148, 3) := by decide +kernel
theorem dX4_isWrong_10 : decode cX4_isWrong 10 = .ok (.putfield 15, 3) := by decide +kernel
theorem dX4_isWrong_13 : decode cX4_isWrong 13 = .ok (.iconst 0, 1) := by decide +kernel
theorem dX4_isWrong_14 : decode cX4_isWrong 14 = .ok (.ireturn, 1) := by decide +kernel
abbrev mX4_isWrong : KM := (RX4, cX4_isWrong, 2, (some .boolean), { frames := 0, cells := 0, slots := 0, locals := 0 }, 0, 0)
def fX4_isWrong (q0 : Nat) (a1 : Int32) (σ : Sto) : (Bool × Sto) :=
  klet (su σ q0 2 a1) fun σ1 =>
  klet (su σ1 q0 3 (σ1 q0 5)) fun σ2 =>
  (false, σ2)
set_option maxHeartbeats 4000000 in
set_option maxRecDepth 100000 in
theorem tX4_isWrong (sh : KSh) (hw : KWf sh) (l : Launch) (hst : l.stackTraces = false) (q0 : Nat) (h0 : sh q0 = .inl 4) (a1 : Int32) (σ : Sto) : CT sh l mX4_isWrong yX4_isWrong [.ref q0, .int a1] σ (0, .int (kb (fX4_isWrong q0 a1 σ).1), (fX4_isWrong q0 a1 σ).2) := by
  refine kct [(0, .ref q0), (1, .int a1)] hst (by decide +kernel) rfl rfl (Nat.le_of_ble_eq_true rfl) ?_
  generalize h : fX4_isWrong q0 a1 σ = r
  rw [fX4_isWrong] at h
  refine kv_aload_n (pc := 0) 0 dX4_isWrong_0 rfl rfl ?_
  refine kv_iload_n (pc := 1) 1 dX4_isWrong_1 rfl rfl ?_
  refine kv_put (pc := 2) tyX4 tyX4_ok nmX4 dX4_isWrong_2 h0 rfl (i := 2) (by decide) rfl fl_X4_22 rfl rfl rfl rfl rfl ?_
  refine kv_let h (fun σ1 h => ?_)
  refine kv_aload_n (pc := 5) 0 dX4_isWrong_5 rfl rfl ?_
  refine kv_aload_n (pc := 6) 0 dX4_isWrong_6 rfl rfl ?_
  refine kv_getI (pc := 7) dX4_isWrong_7 h0 rfl (i := 5) (by decide) rfl fl_X4_148 rfl ?_
  refine kv_put (pc := 10) tyX4 tyX4_ok nmX4 dX4_isWrong_10 h0 rfl (i := 3) (by decide) rfl fl_X4_15 rfl rfl rfl rfl rfl ?_
  refine kv_let h (fun σ2 h => ?_)
  refine kv_iconst (pc := 13) (v := 0) dX4_isWrong_13 (by decide) ?_
  exact kv_zret (pc := 14) dX4_isWrong_14 rfl rfl (by subst h; rfl) (by decide) (by decide)
theorem yw_X4_isWrong : KMV yX4_isWrong mX4_isWrong RX4 1 := ⟨⟨rfl, by decide +kernel, by decide +kernel, by decide +kernel⟩, ⟨rfl, rfl⟩, kg_in 422 (by decide +kernel) (by decide +kernel), kg_in 8 (by decide +kernel) (by decide +kernel), kg_in 52 (by decide +kernel) (by decide +kernel), kg_in 423 (by decide +kernel) (by decide +kernel)⟩
theorem dX4_needWord_0 : decode cX4_needWord 0 = .ok (.aload_n 0, 1) := by decide +kernel
theorem dX4_needWord_1 : decode cX4_needWord 1 = .ok (.invokevirtual 32, 3) := by decide +kernel
theorem dX4_needWord_4 : decode cX4_needWord 4 = .ok (.aload_n 0, 1) := by decide +kernel
theorem dX4_needWord_5 : decode cX4_needWord 5 = .ok (.aload_n 1, 1) := by decide +kernel
theorem dX4_needWord_6 : decode cX4_needWord 6 = .ok (.invokevirtual 84, 3) := by decide +kernel
theorem dX4_needWord_9 : decode cX4_needWord 9 = .ok (.ifCond .ne 11, 3) := by decide +kernel
theorem dX4_needWord_12 : decode cX4_needWord 12 = .ok (.aload_n 0, 1) := by decide +kernel
theorem dX4_needWord_13 : decode cX4_needWord 13 = .ok (.iconst 1, 1) := by decide +kernel
theorem dX4_needWord_14 : decode cX4_needWord 14 = .ok (.invokevirtual 59, 3) := by decide +kernel
theorem dX4_needWord_17 : decode cX4_needWord 17 = .ok (.ifCond .eq 7, 3) := by decide +kernel
theorem dX4_needWord_20 : decode cX4_needWord 20 = .ok (.iconst 1, 1) := by decide +kernel
theorem dX4_needWord_21 : decode cX4_needWord 21 = .ok (.goto 4, 3) := by decide +kernel
theorem dX4_needWord_24 : decode cX4_needWord 24 = .ok (.iconst 0, 1) := by decide +kernel
theorem dX4_needWord_25 : decode cX4_needWord 25 = .ok (.ireturn, 1) := by decide +kernel
abbrev mX4_needWord : KM := (RX4, cX4_needWord, 2, (some .boolean), { frames := 5, cells := 0, slots := 0, locals := 107 }, 0, 0)
def fX4_needWord (q0 : Nat) (t1 : Nat) (σ : Sto) : Option (Bool × Sto) :=
  (fX4_nextToken q0 σ).bind fun r1 =>
  (fX4_isWord q0 t1 r1).bind fun r4 =>
  if r4 = true then
    some (true, r1)
  else
    (some (fX4_isWrong q0 1 r1)).bind fun r7 =>
    if r7.1 = true then
      some (true, r7.2)
    else
      some (false, r7.2)
set_option maxHeartbeats 4000000 in
set_option maxRecDepth 100000 in
theorem tX4_needWord (sh : KSh) (hw : KWf sh) (l : Launch) (hst : l.stackTraces = false) (q0 : Nat) (h0 : sh q0 = .inl 4) (t1 : Nat) (h1 : t1 < 9) (σ : Sto) (r : (Bool × Sto)) (h : fX4_needWord q0 t1 σ = some r) : CT sh l mX4_needWord yX4_needWord [.ref q0, .ref (2000 + t1)] σ (0, .int (kb r.1), r.2) := by
  refine kct [(0, .ref q0), (1, .ref (2000 + t1))] hst (by decide +kernel) rfl rfl (Nat.le_of_ble_eq_true rfl) ?_
  rw [fX4_needWord] at h
  refine kv_aload_n (pc := 0) 0 dX4_needWord_0 rfl rfl ?_
  refine kv_cV (pc := 1) [] (fun r1 => (0, .int 0, r1)) (fun r1 => []) (fun r1 => r1) 4 0 0 h (fun r1 g2 => tX4_nextToken sh hw l hst q0 h0 σ r1 g2) dX4_needWord_1 rfl h0 rfl yw_X4_nextToken lk_X4_32 (by decide) (Nat.le_of_ble_eq_true rfl) (by decide) (fun _ => rfl) (fun _ => rfl) ⟨rfl, rfl, rfl⟩ (fun _ _ h0 => absurd rfl h0) (fun r1 g2 z3 h => ?_)
  refine kv_aload_n (pc := 4) 0 dX4_needWord_4 rfl rfl ?_
  refine kv_aload_n (pc := 5) 1 dX4_needWord_5 rfl rfl ?_
  refine kv_cV (pc := 6) [.ref (2000 + t1)] (fun r4 => (0, .int (kb r4), r1)) (fun r4 => (.int (kb r4) :: [])) (fun r4 => r1) 9 0 0 h (fun r4 g5 => tX4_isWord sh hw l hst q0 h0 t1 h1 r1 r4 g5) dX4_needWord_6 rfl h0 rfl yw_X4_isWord lk_X4_84 (by decide) (Nat.le_of_ble_eq_true rfl) (by decide) (fun _ => rfl) (fun _ => rfl) ⟨rfl, rfl, rfl⟩ (fun _ _ h0 => absurd rfl h0) (fun r4 g5 z6 h => ?_)
  refine kv_ifb_ne (pc := 9) (tgt := 20) dX4_needWord_9 (by decide) h (fun h => ?_) (fun h => ?_)
  · refine kv_iconst (pc := 20) (v := 1) dX4_needWord_20 (by decide) ?_
    refine kv_goto (pc := 21) (tgt := 25) dX4_needWord_21 (by decide) ?_
    exact kv_zret (pc := 25) dX4_needWord_25 rfl rfl (by cases h; rfl) (by decide) (by decide)
  · refine kv_aload_n (pc := 12) 0 dX4_needWord_12 rfl rfl ?_
    refine kv_iconst (pc := 13) (v := 1) dX4_needWord_13 (by decide) ?_
    refine kv_cV (pc := 14) [.int 1] (fun r7 => (0, .int (kb r7.1), r7.2)) (fun r7 => (.int (kb r7.1) :: [])) (fun r7 => r7.2) 17 0 0 h (fun r7 g8 => by cases g8; exact tX4_isWrong sh hw l hst q0 h0 1 r1) dX4_needWord_14 rfl h0 rfl yw_X4_isWrong lk_X4_59 (by decide) (Nat.le_of_ble_eq_true rfl) (by decide) (fun _ => rfl) (fun _ => rfl) ⟨rfl, rfl, rfl⟩ (fun _ _ h0 => absurd rfl h0) (fun r7 g8 z9 h => ?_)
    refine kv_ifb_eq (pc := 17) (tgt := 24) dX4_needWord_17 (by decide) h (fun h => ?_) (fun h => ?_)
    · refine kv_iconst (pc := 24) (v := 0) dX4_needWord_24 (by decide) ?_
      exact kv_zret (pc := 25) dX4_needWord_25 rfl rfl (by cases h; rfl) (by decide) (by decide)
    · refine kv_iconst (pc := 20) (v := 1) dX4_needWord_20 (by decide) ?_
      refine kv_goto (pc := 21) (tgt := 25) dX4_needWord_21 (by decide) ?_
      exact kv_zret (pc := 25) dX4_needWord_25 rfl rfl (by cases h; rfl) (by decide) (by decide)
theorem yw_X4_needWord : KMV yX4_needWord mX4_needWord RX4 1 := ⟨⟨rfl, by decide +kernel, by decide +kernel, by decide +kernel⟩, ⟨rfl, rfl⟩, kg_in 342 (by decide +kernel) (by decide +kernel), kg_in 3 (by decide +kernel) (by decide +kernel), kg_in 52 (by decide +kernel) (by decide +kernel), kg_in 343 (by decide +kernel) (by decide +kernel)⟩
theorem dX4_needToken_0 : decode cX4_needToken 0 = .ok (.aload_n 0, 1) := by decide +kernel
theorem dX4_needToken_1 : decode cX4_needToken 1 = .ok (.invokevirtual 32, 3) := by decide +kernel
theorem dX4_needToken_4 : decode cX4_needToken 4 = .ok (.aload_n 0, 1) := by decide +kernel
theorem dX4_needToken_5 : decode cX4_needToken 5 = .ok (.getfield 35, 3) := by decide +kernel
theorem dX4_needToken_8 : decode cX4_needToken 8 = .ok (.iload_n 1, 1) := by decide +kernel
theorem dX4_needToken_9 : decode cX4_needToken 9 = .ok (.if_icmp .eq 11, 3) := by decide +kernel
theorem dX4_needToken_12 : decode cX4_needToken 12 = .ok (.aload_n 0, 1) := by decide +kernel
theorem dX4_needToken_13 : decode cX4_needToken 13 = .ok (.iconst 1, 1) := by decide +kernel
theorem dX4_needToken_14 : decode cX4_needToken 14 = .ok (.invokevirtual 59, 3) := by decide +kernel
theorem dX4_needToken_17 : decode cX4_needToken 17 = .ok (.ifCond .eq 7, 3) := by decide +kernel
theorem dX4_needToken_20 : decode cX4_needToken 20 = .ok (.iconst 1, 1) := by decide +kernel
theorem dX4_needToken_21 : decode cX4_needToken 21 = .ok (.goto 4, 3) := by decide +kernel
theorem dX4_needToken_24 : decode cX4_needToken 24 = .ok (.iconst 0, 1) := by decide +kernel
theorem dX4_needToken_25 : decode cX4_needToken 25 = .ok (.ireturn, 1) := by decide +kernel
abbrev mX4_needToken : KM := (RX4, cX4_needToken, 2, (some .boolean), { frames := 3, cells := 0, slots := 0, locals := 63 }, 0, 0)
def fX4_needToken (q0 : Nat) (a1 : Int32) (σ : Sto) : Option (Bool × Sto) :=
  (fX4_nextToken q0 σ).bind fun r1 =>
  if (r1 q0 4) = a1 then
    some (true, r1)
  else
    (some (fX4_isWrong q0 1 r1)).bind fun r4 =>
    if r4.1 = true then
      some (true, r4.2)
    else
      some (false, r4.2)
set_option maxHeartbeats 4000000 in
set_option maxRecDepth 100000 in
theorem tX4_needToken (sh : KSh) (hw : KWf sh) (l : Launch) (hst : l.stackTraces = false) (q0 : Nat) (h0 : sh q0 = .inl 4) (a1 : Int32) (σ : Sto) (r : (Bool × Sto)) (h : fX4_needToken q0 a1 σ = some r) : CT sh l mX4_needToken yX4_needToken [.ref q0, .int a1] σ (0, .int (kb r.1), r.2) := by
  refine kct [(0, .ref q0), (1, .int a1)] hst (by decide +kernel) rfl rfl (Nat.le_of_ble_eq_true rfl) ?_
  rw [fX4_needToken] at h
  refine kv_aload_n (pc := 0) 0 dX4_needToken_0 rfl rfl ?_
  refine kv_cV (pc := 1) [] (fun r1 => (0, .int 0, r1)) (fun r1 => []) (fun r1 => r1) 4 0 0 h (fun r1 g2 => tX4_nextToken sh hw l hst q0 h0 σ r1 g2) dX4_needToken_1 rfl h0 rfl yw_X4_nextToken lk_X4_32 (by decide) (Nat.le_of_ble_eq_true rfl) (by decide) (fun _ => rfl) (fun _ => rfl) ⟨rfl, rfl, rfl⟩ (fun _ _ h0 => absurd rfl h0) (fun r1 g2 z3 h => ?_)
  refine kv_aload_n (pc := 4) 0 dX4_needToken_4 rfl rfl ?_
  refine kv_getI (pc := 5) dX4_needToken_5 h0 rfl (i := 4) (by decide) rfl fl_X4_35 rfl ?_
  refine kv_iload_n (pc := 8) 1 dX4_needToken_8 rfl rfl ?_
  refine kv_icmp_eq (pc := 9) (tgt := 20) dX4_needToken_9 (by decide) h (fun h => ?_) (fun h => ?_)
  · refine kv_iconst (pc := 20) (v := 1) dX4_needToken_20 (by decide) ?_
    refine kv_goto (pc := 21) (tgt := 25) dX4_needToken_21 (by decide) ?_
    exact kv_zret (pc := 25) dX4_needToken_25 rfl rfl (by cases h; rfl) (by decide) (by decide)
  · refine kv_aload_n (pc := 12) 0 dX4_needToken_12 rfl rfl ?_
    refine kv_iconst (pc := 13) (v := 1) dX4_needToken_13 (by decide) ?_
    refine kv_cV (pc := 14) [.int 1] (fun r4 => (0, .int (kb r4.1), r4.2)) (fun r4 => (.int (kb r4.1) :: [])) (fun r4 => r4.2) 17 0 0 h (fun r4 g5 => by cases g5; exact tX4_isWrong sh hw l hst q0 h0 1 r1) dX4_needToken_14 rfl h0 rfl yw_X4_isWrong lk_X4_59 (by decide) (Nat.le_of_ble_eq_true rfl) (by decide) (fun _ => rfl) (fun _ => rfl) ⟨rfl, rfl, rfl⟩ (fun _ _ h0 => absurd rfl h0) (fun r4 g5 z6 h => ?_)
    refine kv_ifb_eq (pc := 17) (tgt := 24) dX4_needToken_17 (by decide) h (fun h => ?_) (fun h => ?_)
    · refine kv_iconst (pc := 24) (v := 0) dX4_needToken_24 (by decide) ?_
      exact kv_zret (pc := 25) dX4_needToken_25 rfl rfl (by cases h; rfl) (by decide) (by decide)
    · refine kv_iconst (pc := 20) (v := 1) dX4_needToken_20 (by decide) ?_
      refine kv_goto (pc := 21) (tgt := 25) dX4_needToken_21 (by decide) ?_
      exact kv_zret (pc := 25) dX4_needToken_25 rfl rfl (by cases h; rfl) (by decide) (by decide)
theorem yw_X4_needToken : KMV yX4_needToken mX4_needToken RX4 1 := ⟨⟨rfl, by decide +kernel, by decide +kernel, by decide +kernel⟩, ⟨rfl, rfl⟩, kg_in 426 (by decide +kernel) (by decide +kernel), kg_in 9 (by decide +kernel) (by decide +kernel), kg_in 52 (by decide +kernel) (by decide +kernel), kg_in 427 (by decide +kernel) (by decide +kernel)⟩
theorem dX4_needNumber_0 : decode cX4_needNumber 0 = .ok (.aload_n 0, 1) := by decide +kernel
theorem dX4_needNumber_1 : decode cX4_needNumber 1 = .ok (.invokevirtual 32, 3) := by decide +kernel
theorem dX4_needNumber_4 : decode cX4_needNumber 4 = .ok (.aload_n 0, 1) := by decide +kernel
theorem dX4_needNumber_5 : decode cX4_needNumber 5 = .ok (.getfield 35, 3) := by decide +kernel
theorem dX4_needNumber_8 : decode cX4_needNumber 8 = .ok (.iconst 2, 1) := by decide +kernel
theorem dX4_needNumber_9 : decode cX4_needNumber 9 = .ok (.if_icmp .eq 9, 3) := by decide +kernel
theorem dX4_needNumber_12 : decode cX4_needNumber 12 = .ok (.aload_n 0, 1) := by decide +kernel
theorem dX4_needNumber_13 : decode cX4_needNumber 13 = .ok (.iconst 1, 1) := by decide +kernel
theorem dX4_needNumber_14 : decode cX4_needNumber 14 = .ok (.invokevirtual 59, 3) := by decide +kernel
theorem dX4_needNumber_17 : decode cX4_needNumber 17 = .ok (.ireturn, 1) := by decide +kernel
theorem dX4_needNumber_18 : decode cX4_needNumber 18 = .ok (.aload_n 0, 1) := by decide +kernel
theorem dX4_needNumber_19 : decode cX4_needNumber 19 = .ok (.getfield 51, 3) := by decide +kernel
theorem dX4_needNumber_22 : decode cX4_needNumber 22 = .ok (.iload_n 1, 1) := by decide +kernel
theorem dX4_needNumber_23 : decode cX4_needNumber 23 = .ok (.if_icmp .lt 11, 3) := by decide +kernel
theorem dX4_needNumber_26 : decode cX4_needNumber 26 = .ok (.aload_n 0, 1) := by decide +kernel
theorem dX4_needNumber_27 : decode cX4_needNumber 27 = .ok (.getfield 51, 3) := by decide +kernel
theorem dX4_needNumber_30 : decode cX4_needNumber 30 = .ok (.iload_n 2, 1) := by decide +kernel
theorem dX4_needNumber_31 : decode cX4_needNumber 31 = .ok (.if_icmp .le 11, 3) := by decide +kernel
theorem dX4_needNumber_34 : decode cX4_needNumber 34 = .ok (.aload_n 0, 1) := by decide +kernel
theorem dX4_needNumber_35 : decode cX4_needNumber 35 = .ok (.iconst 2, 1) := by decide +kernel
theorem dX4_needNumber_36 : decode cX4_needNumber 36 = .ok (.invokevirtual 59, 3) := by decide +kernel
theorem dX4_needNumber_39 : decode cX4_needNumber 39 = .ok (.ifCond .eq 7, 3) := by decide +kernel
theorem dX4_needNumber_42 : decode cX4_needNumber 42 = .ok (.iconst 1, 1) := by decide +kernel
theorem dX4_needNumber_43 : decode cX4_needNumber 43 = .ok (.goto 4, 3) := by decide +kernel
theorem dX4_needNumber_46 : decode cX4_needNumber 46 = .ok (.iconst 0, 1) := by decide +kernel
theorem dX4_needNumber_47 : decode cX4_needNumber 47 = .ok (.ireturn, 1) := by decide +kernel
abbrev mX4_needNumber : KM := (RX4, cX4_needNumber, 3, (some .boolean), { frames := 3, cells := 0, slots := 0, locals := 63 }, 0, 0)
def fX4_needNumber_L34 (q0 : Nat) (a1 : Int32) (a2 : Int32) (σ : Sto) : Option (Bool × Sto) :=
  (some (fX4_isWrong q0 2 σ)).bind fun r4 =>
  if r4.1 = true then
    some (true, r4.2)
  else
    some (false, r4.2)
def fX4_needNumber (q0 : Nat) (a1 : Int32) (a2 : Int32) (σ : Sto) : Option (Bool × Sto) :=
  (fX4_nextToken q0 σ).bind fun r1 =>
  if (r1 q0 4) = 2 then
    if (r1 q0 7) < a1 then
      fX4_needNumber_L34 q0 a1 a2 r1
    else
      if (r1 q0 7) ≤ a2 then
        some (true, r1)
      else
        fX4_needNumber_L34 q0 a1 a2 r1
  else
    (some (fX4_isWrong q0 1 r1)).bind fun r7 =>
    some (r7.1, r7.2)
set_option maxHeartbeats 4000000 in
set_option maxRecDepth 100000 in
theorem wX4_needNumber_L34 (sh : KSh) (hw : KWf sh) (l : Launch) (hst : l.stackTraces = false) (q0 : Nat) (h0 : sh q0 = .inl 4) (a1 : Int32) (a2 : Int32) : ∀ (σ : Sto), ∀ (r : (Bool × Sto)), fX4_needNumber_L34 q0 a1 a2 σ = some r → VV sh l mX4_needNumber 0 0 34 [(0, .ref q0)] [] σ (0, .int (kb r.1), r.2) := by
  intro σ r h
  rw [fX4_needNumber_L34] at h
  refine kv_aload_n (pc := 34) 0 dX4_needNumber_34 rfl rfl ?_
  refine kv_iconst (pc := 35) (v := 2) dX4_needNumber_35 (by decide) ?_
  refine kv_cV (pc := 36) [.int 2] (fun r4 => (0, .int (kb r4.1), r4.2)) (fun r4 => (.int (kb r4.1) :: [])) (fun r4 => r4.2) 39 0 0 h (fun r4 g5 => by cases g5; exact tX4_isWrong sh hw l hst q0 h0 2 σ) dX4_needNumber_36 rfl h0 rfl yw_X4_isWrong lk_X4_59 (by decide) (Nat.le_of_ble_eq_true rfl) (by decide) (fun _ => rfl) (fun _ => rfl) ⟨rfl, rfl, rfl⟩ (fun _ _ h0 => absurd rfl h0) (fun r4 g5 z6 h => ?_)
  refine kv_ifb_eq (pc := 39) (tgt := 46) dX4_needNumber_39 (by decide) h (fun h => ?_) (fun h => ?_)
  · refine kv_iconst (pc := 46) (v := 0) dX4_needNumber_46 (by decide) ?_
    exact kv_zret (pc := 47) dX4_needNumber_47 rfl rfl (by cases h; rfl) (by decide) (by decide)
  · refine kv_iconst (pc := 42) (v := 1) dX4_needNumber_42 (by decide) ?_
    refine kv_goto (pc := 43) (tgt := 47) dX4_needNumber_43 (by decide) ?_
    exact kv_zret (pc := 47) dX4_needNumber_47 rfl rfl (by cases h; rfl) (by decide) (by decide)
set_option maxHeartbeats 4000000 in
set_option maxRecDepth 100000 in
theorem tX4_needNumber (sh : KSh) (hw : KWf sh) (l : Launch) (hst : l.stackTraces = false) (q0 : Nat) (h0 : sh q0 = .inl 4) (a1 : Int32) (a2 : Int32) (σ : Sto) (r : (Bool × Sto)) (h : fX4_needNumber q0 a1 a2 σ = some r) : CT sh l mX4_needNumber yX4_needNumber [.ref q0, .int a1, .int a2] σ (0, .int (kb r.1), r.2) := by
  refine kct [(0, .ref q0), (1, .int a1), (2, .int a2)] hst (by decide +kernel) rfl rfl (Nat.le_of_ble_eq_true rfl) ?_
  rw [fX4_needNumber] at h
  refine kv_aload_n (pc := 0) 0 dX4_needNumber_0 rfl rfl ?_
  refine kv_cV (pc := 1) [] (fun r1 => (0, .int 0, r1)) (fun r1 => []) (fun r1 => r1) 4 0 0 h (fun r1 g2 => tX4_nextToken sh hw l hst q0 h0 σ r1 g2) dX4_needNumber_1 rfl h0 rfl yw_X4_nextToken lk_X4_32 (by decide) (Nat.le_of_ble_eq_true rfl) (by decide) (fun _ => rfl) (fun _ => rfl) ⟨rfl, rfl, rfl⟩ (fun _ _ h0 => absurd rfl h0) (fun r1 g2 z3 h => ?_)
  refine kv_aload_n (pc := 4) 0 dX4_needNumber_4 rfl rfl ?_
  refine kv_getI (pc := 5) dX4_needNumber_5 h0 rfl (i := 4) (by decide) rfl fl_X4_35 rfl ?_
  refine kv_iconst (pc := 8) (v := 2) dX4_needNumber_8 (by decide) ?_
  refine kv_icmp_eq (pc := 9) (tgt := 18) dX4_needNumber_9 (by decide) h (fun h => ?_) (fun h => ?_)
  · refine kv_aload_n (pc := 18) 0 dX4_needNumber_18 rfl rfl ?_
    refine kv_getI (pc := 19) dX4_needNumber_19 h0 rfl (i := 7) (by decide) rfl fl_X4_51 rfl ?_
    refine kv_iload_n (pc := 22) 1 dX4_needNumber_22 rfl rfl ?_
    refine kv_icmp_lt (pc := 23) (tgt := 34) dX4_needNumber_23 (by decide) h (fun h => ?_) (fun h => ?_)
    · refine kv_sub (pc := 34) [(0, .ref q0)] [0] rfl ?_
      exact wX4_needNumber_L34 sh hw l hst q0 h0 a1 a2 r1 r h
    · refine kv_aload_n (pc := 26) 0 dX4_needNumber_26 rfl rfl ?_
      refine kv_getI (pc := 27) dX4_needNumber_27 h0 rfl (i := 7) (by decide) rfl fl_X4_51 rfl ?_
      refine kv_iload_n (pc := 30) 2 dX4_needNumber_30 rfl rfl ?_
      refine kv_icmp_le (pc := 31) (tgt := 42) dX4_needNumber_31 (by decide) h (fun h => ?_) (fun h => ?_)
      · refine kv_iconst (pc := 42) (v := 1) dX4_needNumber_42 (by decide) ?_
        refine kv_goto (pc := 43) (tgt := 47) dX4_needNumber_43 (by decide) ?_
        exact kv_zret (pc := 47) dX4_needNumber_47 rfl rfl (by cases h; rfl) (by decide) (by decide)
      · refine kv_sub (pc := 34) [(0, .ref q0)] [0] rfl ?_
        exact wX4_needNumber_L34 sh hw l hst q0 h0 a1 a2 r1 r h
  · refine kv_aload_n (pc := 12) 0 dX4_needNumber_12 rfl rfl ?_
    refine kv_iconst (pc := 13) (v := 1) dX4_needNumber_13 (by decide) ?_
    refine kv_cV (pc := 14) [.int 1] (fun r7 => (0, .int (kb r7.1), r7.2)) (fun r7 => (.int (kb r7.1) :: [])) (fun r7 => r7.2) 17 0 0 h (fun r7 g8 => by cases g8; exact tX4_isWrong sh hw l hst q0 h0 1 r1) dX4_needNumber_14 rfl h0 rfl yw_X4_isWrong lk_X4_59 (by decide) (Nat.le_of_ble_eq_true rfl) (by decide) (fun _ => rfl) (fun _ => rfl) ⟨rfl, rfl, rfl⟩ (fun _ _ h0 => absurd rfl h0) (fun r7 g8 z9 h => ?_)
    exact kv_zret (pc := 17) dX4_needNumber_17 rfl (kb_n _) (by cases h; rfl) (by decide) (by decide)
theorem yw_X4_needNumber : KMV yX4_needNumber mX4_needNumber RX4 2 := ⟨⟨rfl, by decide +kernel, by decide +kernel, by decide +kernel⟩, ⟨rfl, rfl⟩, kg_in 434 (by decide +kernel) (by decide +kernel), kg_in 10 (by decide +kernel) (by decide +kernel), kg_in 52 (by decide +kernel) (by decide +kernel), kg_in 435 (by decide +kernel) (by decide +kernel)⟩
theorem dX4_readHead_0 : decode cX4_readHead 0 = .ok (.aload_n 0, 1) := by decide +kernel
theorem dX4_readHead_1 : decode cX4_readHead 1 = .ok (.ldc 45, 2) := by decide +kernel
theorem dX4_readHead_3 : decode cX4_readHead 3 = .ok (.invokevirtual 47, 3) := by decide +kernel
theorem dX4_readHead_6 : decode cX4_readHead 6 = .ok (.ifCond .eq 11, 3) := by decide +kernel
theorem dX4_readHead_9 : decode cX4_readHead 9 = .ok (.aload_n 0, 1) := by decide +kernel
theorem dX4_readHead_10 : decode cX4_readHead 10 = .ok (.iconst 2, 1) := by decide +kernel
theorem dX4_readHead_11 : decode cX4_readHead 11 = .ok (.invokevirtual 41, 3) := by decide +kernel
theorem dX4_readHead_14 : decode cX4_readHead 14 = .ok (.ifCond .ne 5, 3) := by decide +kernel
theorem dX4_readHead_17 : decode cX4_readHead 17 = .ok (.iconst 0, 1) := by decide +kernel
theorem dX4_readHead_18 : decode cX4_readHead 18 = .ok (.ireturn, 1) := by decide +kernel
theorem dX4_readHead_19 : decode cX4_readHead 19 = .ok (.aload_n 0, 1) := by decide +kernel
theorem dX4_readHead_20 : decode cX4_readHead 20 = .ok (.getfield 51, 3) := by decide +kernel
theorem dX4_readHead_23 : decode cX4_readHead 23 = .ok (.invokestatic 54, 3) := by decide +kernel
theorem dX4_readHead_26 : decode cX4_readHead 26 = .ok (.ifCond .ne 9, 3) := by decide +kernel
theorem dX4_readHead_29 : decode cX4_readHead 29 = .ok (.aload_n 0, 1) := by decide +kernel
theorem dX4_readHead_30 : decode cX4_readHead 30 = .ok (.iconst 2, 1) := by decide +kernel
theorem dX4_readHead_31 : decode cX4_readHead 31 = .ok (.invokevirtual 59, 3) := by decide +kernel
theorem dX4_readHead_34 : decode cX4_readHead 34 = .ok (.ireturn, 1) := by decide +kernel
theorem dX4_readHead_35 : decode cX4_readHead 35 = .ok (.aload_n 0, 1) := by decide +kernel
theorem dX4_readHead_36 : decode cX4_readHead 36 = .ok (.getfield 51, 3) := by decide +kernel
theorem dX4_readHead_39 : decode cX4_readHead 39 = .ok (.istore_n 2, 1) := by decide +kernel
theorem dX4_readHead_40 : decode cX4_readHead 40 = .ok (.aload_n 0, 1) := by decide +kernel
theorem dX4_readHead_41 : decode cX4_readHead 41 = .ok (.ldc 62, 2) := by decide +kernel
theorem dX4_readHead_43 : decode cX4_readHead 43 = .ok (.invokevirtual 47, 3) := by decide +kernel
theorem dX4_readHead_46 : decode cX4_readHead 46 = .ok (.ifCond .eq 13, 3) := by decide +kernel
theorem dX4_readHead_49 : decode cX4_readHead 49 = .ok (.aload_n 0, 1) := by decide +kernel
theorem dX4_readHead_50 : decode cX4_readHead 50 = .ok (.iconst 1, 1) := by decide +kernel
theorem dX4_readHead_51 : decode cX4_readHead 51 = .ok (.bipush 6, 2) := by decide +kernel
theorem dX4_readHead_53 : decode cX4_readHead 53 = .ok (.invokevirtual 64, 3) := by decide +kernel
theorem dX4_readHead_56 : decode cX4_readHead 56 = .ok (.ifCond .ne 5, 3) := by decide +kernel
theorem dX4_readHead_59 : decode cX4_readHead 59 = .ok (.iconst 0, 1) := by decide +kernel
theorem dX4_readHead_60 : decode cX4_readHead 60 = .ok (.ireturn, 1) := by decide +kernel
theorem dX4_readHead_61 : decode cX4_readHead 61 = .ok (.aload_n 1, 1) := by decide +kernel
theorem dX4_readHead_62 : decode cX4_readHead 62 = .ok (.iload_n 2, 1) := by decide +kernel
theorem dX4_readHead_63 : decode cX4_readHead 63 = .ok (.aload_n 0, 1) := by decide +kernel
theorem dX4_readHead_64 : decode cX4_readHead 64 = .ok (.getfield 51, 3) := by decide +kernel
theorem dX4_readHead_67 : decode cX4_readHead 67 = .ok (.invokevirtual 68, 3) := by decide +kernel
theorem dX4_readHead_70 : decode cX4_readHead 70 = .ok (.aload_n 0, 1) := by decide +kernel
theorem dX4_readHead_71 : decode cX4_readHead 71 = .ok (.iconst 4, 1) := by decide +kernel
theorem dX4_readHead_72 : decode cX4_readHead 72 = .ok (.invokevirtual 41, 3) := by decide +kernel
theorem dX4_readHead_75 : decode cX4_readHead 75 = .ok (.ireturn, 1) := by decide +kernel
abbrev mX4_readHead : KM := (RX4, cX4_readHead, 3, (some .boolean), { frames := 6, cells := 0, slots := 0, locals := 128 }, 0, 0)
def fX4_readHead (q0 : Nat) (q1 : Nat) (σ : Sto) : Option (Bool × Sto) :=
  (fX4_needWord q0 0 σ).bind fun r1 =>
  if r1.1 = true then
    (fX4_needToken q0 2 r1.2).bind fun r4 =>
    if r4.1 = true then
      if (fX1_isAngle (r4.2 q0 7)) = true then
        (fX4_needWord q0 1 r4.2).bind fun r7 =>
        if r7.1 = true then
          (fX4_needNumber q0 1 6 r7.2).bind fun r10 =>
          if r10.1 = true then
            (fX5_begin q1 (r4.2 q0 7) (r10.2 q0 7) r10.2).bind fun r13 =>
            (fX4_needToken q0 4 r13).bind fun r16 =>
            some (r16.1, r16.2)
          else
            some (false, r10.2)
        else
          some (false, r7.2)
      else
        (some (fX4_isWrong q0 2 r4.2)).bind fun r19 =>
        some (r19.1, r19.2)
    else
      some (false, r4.2)
  else
    some (false, r1.2)
set_option maxHeartbeats 4000000 in
set_option maxRecDepth 100000 in
theorem tX4_readHead (sh : KSh) (hw : KWf sh) (l : Launch) (hst : l.stackTraces = false) (q0 : Nat) (h0 : sh q0 = .inl 4) (q1 : Nat) (h1 : sh q1 = .inl 5) (σ : Sto) (r : (Bool × Sto)) (h : fX4_readHead q0 q1 σ = some r) : CT sh l mX4_readHead yX4_readHead [.ref q0, .ref q1] σ (0, .int (kb r.1), r.2) := by
  refine kct [(0, .ref q0), (1, .ref q1)] hst (by decide +kernel) rfl rfl (Nat.le_of_ble_eq_true rfl) ?_
  rw [fX4_readHead] at h
  refine kv_aload_n (pc := 0) 0 dX4_readHead_0 rfl rfl ?_
  refine kv_ldcs (pc := 1) 0 (tx := "angle") rfl dX4_readHead_1 ?_
  refine kv_cV (pc := 3) [.ref (2000 + 0)] (fun r1 => (0, .int (kb r1.1), r1.2)) (fun r1 => (.int (kb r1.1) :: [])) (fun r1 => r1.2) 6 0 0 h (fun r1 g2 => tX4_needWord sh hw l hst q0 h0 0 (by decide) σ r1 g2) dX4_readHead_3 rfl h0 rfl yw_X4_needWord lk_X4_47 (by decide) (Nat.le_of_ble_eq_true rfl) (by decide) (fun _ => rfl) (fun _ => rfl) ⟨rfl, rfl, rfl⟩ (fun _ _ h0 => absurd rfl h0) (fun r1 g2 z3 h => ?_)
  refine kv_ifb_eq (pc := 6) (tgt := 17) dX4_readHead_6 (by decide) h (fun h => ?_) (fun h => ?_)
  · refine kv_iconst (pc := 17) (v := 0) dX4_readHead_17 (by decide) ?_
    exact kv_zret (pc := 18) dX4_readHead_18 rfl rfl (by cases h; rfl) (by decide) (by decide)
  · refine kv_aload_n (pc := 9) 0 dX4_readHead_9 rfl rfl ?_
    refine kv_iconst (pc := 10) (v := 2) dX4_readHead_10 (by decide) ?_
    refine kv_cV (pc := 11) [.int 2] (fun r4 => (0, .int (kb r4.1), r4.2)) (fun r4 => (.int (kb r4.1) :: [])) (fun r4 => r4.2) 14 0 0 h (fun r4 g5 => tX4_needToken sh hw l hst q0 h0 2 r1.2 r4 g5) dX4_readHead_11 rfl h0 rfl yw_X4_needToken lk_X4_41 (by decide) (Nat.le_of_ble_eq_true rfl) (by decide) (fun _ => rfl) (fun _ => rfl) ⟨rfl, rfl, rfl⟩ (fun _ _ h0 => absurd rfl h0) (fun r4 g5 z6 h => ?_)
    refine kv_ifb_ne (pc := 14) (tgt := 19) dX4_readHead_14 (by decide) h (fun h => ?_) (fun h => ?_)
    · refine kv_aload_n (pc := 19) 0 dX4_readHead_19 rfl rfl ?_
      refine kv_getI (pc := 20) dX4_readHead_20 h0 rfl (i := 7) (by decide) rfl fl_X4_51 rfl ?_
      refine kv_tS (pc := 23) (v := .int (kb (fX1_isAngle (r4.2 q0 7)))) [.int (r4.2 q0 7)] (.int (kb (fX1_isAngle (r4.2 q0 7))) :: []) 26 0 0 (tX1_isAngle sh hw l hst (r4.2 q0 7) r4.2) dX4_readHead_23 rfl yw_X1_isAngle lk_X4_54 (by decide) (Nat.le_of_ble_eq_true rfl) (by decide) rfl ⟨rfl, rfl, rfl⟩ ?_
      refine kv_ifb_ne (pc := 26) (tgt := 35) dX4_readHead_26 (by decide) h (fun h => ?_) (fun h => ?_)
      · refine kv_aload_n (pc := 35) 0 dX4_readHead_35 rfl rfl ?_
        refine kv_getI (pc := 36) dX4_readHead_36 h0 rfl (i := 7) (by decide) rfl fl_X4_51 rfl ?_
        refine kv_istore_n (pc := 39) [(2, .int (r4.2 q0 7)), (0, .ref q0), (1, .ref q1)] dX4_readHead_39 rfl (by decide) rfl ?_
        refine kv_aload_n (pc := 40) 1 dX4_readHead_40 rfl rfl ?_
        refine kv_ldcs (pc := 41) 1 (tx := "radius") rfl dX4_readHead_41 ?_
        refine kv_cV (pc := 43) [.ref (2000 + 1)] (fun r7 => (0, .int (kb r7.1), r7.2)) (fun r7 => (.int (kb r7.1) :: [])) (fun r7 => r7.2) 46 0 0 h (fun r7 g8 => tX4_needWord sh hw l hst q0 h0 1 (by decide) r4.2 r7 g8) dX4_readHead_43 rfl h0 rfl yw_X4_needWord lk_X4_47 (by decide) (Nat.le_of_ble_eq_true rfl) (by decide) (fun _ => rfl) (fun _ => rfl) ⟨rfl, rfl, rfl⟩ (fun _ _ h0 => absurd rfl h0) (fun r7 g8 z9 h => ?_)
        refine kv_ifb_eq (pc := 46) (tgt := 59) dX4_readHead_46 (by decide) h (fun h => ?_) (fun h => ?_)
        · refine kv_iconst (pc := 59) (v := 0) dX4_readHead_59 (by decide) ?_
          exact kv_zret (pc := 60) dX4_readHead_60 rfl rfl (by cases h; rfl) (by decide) (by decide)
        · refine kv_aload_n (pc := 49) 1 dX4_readHead_49 rfl rfl ?_
          refine kv_iconst (pc := 50) (v := 1) dX4_readHead_50 (by decide) ?_
          refine kv_bipush (pc := 51) (v := 6) dX4_readHead_51 (by decide) ?_
          refine kv_cV (pc := 53) [.int 1, .int 6] (fun r10 => (0, .int (kb r10.1), r10.2)) (fun r10 => (.int (kb r10.1) :: [])) (fun r10 => r10.2) 56 0 0 h (fun r10 g11 => tX4_needNumber sh hw l hst q0 h0 1 6 r7.2 r10 g11) dX4_readHead_53 rfl h0 rfl yw_X4_needNumber lk_X4_64 (by decide) (Nat.le_of_ble_eq_true rfl) (by decide) (fun _ => rfl) (fun _ => rfl) ⟨rfl, rfl, rfl⟩ (fun _ _ h0 => absurd rfl h0) (fun r10 g11 z12 h => ?_)
          refine kv_ifb_ne (pc := 56) (tgt := 61) dX4_readHead_56 (by decide) h (fun h => ?_) (fun h => ?_)
          · refine kv_aload_n (pc := 61) 2 dX4_readHead_61 rfl rfl ?_
            refine kv_iload_n (pc := 62) 0 dX4_readHead_62 rfl rfl ?_
            refine kv_aload_n (pc := 63) 1 dX4_readHead_63 rfl rfl ?_
            refine kv_getI (pc := 64) dX4_readHead_64 h0 rfl (i := 7) (by decide) rfl fl_X4_51 rfl ?_
            refine kv_cV (pc := 67) [.int (r4.2 q0 7), .int (r10.2 q0 7)] (fun r13 => (0, .int 0, r13)) (fun r13 => []) (fun r13 => r13) 70 0 0 h (fun r13 g14 => tX5_begin sh hw l hst q1 h1 (r4.2 q0 7) (r10.2 q0 7) r10.2 r13 g14) dX4_readHead_67 rfl h1 rfl yw_X5_begin lk_X4_68 (by decide) (Nat.le_of_ble_eq_true rfl) (by decide) (fun _ => rfl) (fun _ => rfl) ⟨rfl, rfl, rfl⟩ (fun _ _ h0 => absurd rfl h0) (fun r13 g14 z15 h => ?_)
            refine kv_aload_n (pc := 70) 1 dX4_readHead_70 rfl rfl ?_
            refine kv_iconst (pc := 71) (v := 4) dX4_readHead_71 (by decide) ?_
            refine kv_cV (pc := 72) [.int 4] (fun r16 => (0, .int (kb r16.1), r16.2)) (fun r16 => (.int (kb r16.1) :: [])) (fun r16 => r16.2) 75 0 0 h (fun r16 g17 => tX4_needToken sh hw l hst q0 h0 4 r13 r16 g17) dX4_readHead_72 rfl h0 rfl yw_X4_needToken lk_X4_41 (by decide) (Nat.le_of_ble_eq_true rfl) (by decide) (fun _ => rfl) (fun _ => rfl) ⟨rfl, rfl, rfl⟩ (fun _ _ h0 => absurd rfl h0) (fun r16 g17 z18 h => ?_)
            exact kv_zret (pc := 75) dX4_readHead_75 rfl (kb_n _) (by cases h; rfl) (by decide) (by decide)
          · refine kv_iconst (pc := 59) (v := 0) dX4_readHead_59 (by decide) ?_
            exact kv_zret (pc := 60) dX4_readHead_60 rfl rfl (by cases h; rfl) (by decide) (by decide)
      · refine kv_aload_n (pc := 29) 0 dX4_readHead_29 rfl rfl ?_
        refine kv_iconst (pc := 30) (v := 2) dX4_readHead_30 (by decide) ?_
        refine kv_cV (pc := 31) [.int 2] (fun r19 => (0, .int (kb r19.1), r19.2)) (fun r19 => (.int (kb r19.1) :: [])) (fun r19 => r19.2) 34 0 0 h (fun r19 g20 => by cases g20; exact tX4_isWrong sh hw l hst q0 h0 2 r4.2) dX4_readHead_31 rfl h0 rfl yw_X4_isWrong lk_X4_59 (by decide) (Nat.le_of_ble_eq_true rfl) (by decide) (fun _ => rfl) (fun _ => rfl) ⟨rfl, rfl, rfl⟩ (fun _ _ h0 => absurd rfl h0) (fun r19 g20 z21 h => ?_)
        exact kv_zret (pc := 34) dX4_readHead_34 rfl (kb_n _) (by cases h; rfl) (by decide) (by decide)
    · refine kv_iconst (pc := 17) (v := 0) dX4_readHead_17 (by decide) ?_
      exact kv_zret (pc := 18) dX4_readHead_18 rfl rfl (by cases h; rfl) (by decide) (by decide)
theorem yw_X4_readHead : KMV yX4_readHead mX4_readHead RX4 1 := ⟨⟨rfl, by decide +kernel, by decide +kernel, by decide +kernel⟩, ⟨rfl, rfl⟩, kg_in 337 (by decide +kernel) (by decide +kernel), kg_in 2 (by decide +kernel) (by decide +kernel), kg_in 52 (by decide +kernel) (by decide +kernel), kg_in 338 (by decide +kernel) (by decide +kernel)⟩
theorem dX4_kindByWord_0 : decode cX4_kindByWord 0 = .ok (.aload_n 0, 1) := by decide +kernel
theorem dX4_kindByWord_1 : decode cX4_kindByWord 1 = .ok (.ldc 100, 2) := by decide +kernel
theorem dX4_kindByWord_3 : decode cX4_kindByWord 3 = .ok (.invokevirtual 84, 3) := by decide +kernel
theorem dX4_kindByWord_6 : decode cX4_kindByWord 6 = .ok (.ifCond .eq 5, 3) := by decide +kernel
theorem dX4_kindByWord_9 : decode cX4_kindByWord 9 = .ok (.iconst 0, 1) := by decide +kernel
theorem dX4_kindByWord_10 : decode cX4_kindByWord 10 = .ok (.ireturn, 1) := by decide +kernel
theorem dX4_kindByWord_11 : decode cX4_kindByWord 11 = .ok (.aload_n 0, 1) := by decide +kernel
theorem dX4_kindByWord_12 : decode cX4_kindByWord 12 = .ok (.ldc 102, 2) := by decide +kernel
theorem dX4_kindByWord_14 : decode cX4_kindByWord 14 = .ok (.invokevirtual 84, 3) := by decide +kernel
theorem dX4_kindByWord_17 : decode cX4_kindByWord 17 = .ok (.ifCond .eq 5, 3) := by decide +kernel
theorem dX4_kindByWord_20 : decode cX4_kindByWord 20 = .ok (.iconst 1, 1) := by decide +kernel
theorem dX4_kindByWord_21 : decode cX4_kindByWord 21 = .ok (.ireturn, 1) := by decide +kernel
theorem dX4_kindByWord_22 : decode cX4_kindByWord 22 = .ok (.aload_n 0, 1) := by decide +kernel
theorem dX4_kindByWord_23 : decode cX4_kindByWord 23 = .ok (.ldc 104, 2) := by decide +kernel
theorem dX4_kindByWord_25 : decode cX4_kindByWord 25 = .ok (.invokevirtual 84, 3) := by decide +kernel
theorem dX4_kindByWord_28 : decode cX4_kindByWord 28 = .ok (.ifCond .eq 5, 3) := by decide +kernel
theorem dX4_kindByWord_31 : decode cX4_kindByWord 31 = .ok (.iconst 2, 1) := by decide +kernel
theorem dX4_kindByWord_32 : decode cX4_kindByWord 32 = .ok (.ireturn, 1) := by decide +kernel
theorem dX4_kindByWord_33 : decode cX4_kindByWord 33 = .ok (.aload_n 0, 1) := by decide +kernel
theorem dX4_kindByWord_34 : decode cX4_kindByWord 34 = .ok (.ldc 106, 2) := by decide +kernel
theorem dX4_kindByWord_36 : decode cX4_kindByWord 36 = .ok (.invokevirtual 84, 3) := by decide +kernel
theorem dX4_kindByWord_39 : decode cX4_kindByWord 39 = .ok (.ifCond .eq 7, 3) := by decide +kernel
theorem dX4_kindByWord_42 : decode cX4_kindByWord 42 = .ok (.iconst 3, 1) := by decide +kernel
theorem dX4_kindByWord_43 : decode cX4_kindByWord 43 = .ok (.goto 4, 3) := by decide +kernel
theorem dX4_kindByWord_46 : decode cX4_kindByWord 46 = .ok (.iconst (-1), 1) := by decide +kernel
theorem dX4_kindByWord_47 : decode cX4_kindByWord 47 = .ok (.ireturn, 1) := by decide +kernel
abbrev mX4_kindByWord : KM := (RX4, cX4_kindByWord, 1, (some .int), { frames := 5, cells := 0, slots := 0, locals := 107 }, 0, 0)
def fX4_kindByWord (q0 : Nat) (σ : Sto) : Option Int32 :=
  (fX4_isWord q0 2 σ).bind fun r1 =>
  if r1 = true then
    some 0
  else
    (fX4_isWord q0 3 σ).bind fun r4 =>
    if r4 = true then
      some 1
    else
      (fX4_isWord q0 4 σ).bind fun r7 =>
      if r7 = true then
        some 2
      else
        (fX4_isWord q0 5 σ).bind fun r10 =>
        if r10 = true then
          some 3
        else
          some (-1)
set_option maxHeartbeats 4000000 in
set_option maxRecDepth 100000 in
theorem tX4_kindByWord (sh : KSh) (hw : KWf sh) (l : Launch) (hst : l.stackTraces = false) (q0 : Nat) (h0 : sh q0 = .inl 4) (σ : Sto) (r : Int32) (h : fX4_kindByWord q0 σ = some r) : CT sh l mX4_kindByWord yX4_kindByWord [.ref q0] σ (0, .int r, σ) := by
  refine kct [(0, .ref q0)] hst (by decide +kernel) rfl rfl (Nat.le_of_ble_eq_true rfl) ?_
  rw [fX4_kindByWord] at h
  refine kv_aload_n (pc := 0) 0 dX4_kindByWord_0 rfl rfl ?_
  refine kv_ldcs (pc := 1) 2 (tx := "glass") rfl dX4_kindByWord_1 ?_
  refine kv_cV (pc := 3) [.ref (2000 + 2)] (fun r1 => (0, .int (kb r1), σ)) (fun r1 => (.int (kb r1) :: [])) (fun r1 => σ) 6 0 0 h (fun r1 g2 => tX4_isWord sh hw l hst q0 h0 2 (by decide) σ r1 g2) dX4_kindByWord_3 rfl h0 rfl yw_X4_isWord lk_X4_84 (by decide) (Nat.le_of_ble_eq_true rfl) (by decide) (fun _ => rfl) (fun _ => rfl) ⟨rfl, rfl, rfl⟩ (fun _ _ h0 => absurd rfl h0) (fun r1 g2 z3 h => ?_)
  refine kv_ifb_eq (pc := 6) (tgt := 11) dX4_kindByWord_6 (by decide) h (fun h => ?_) (fun h => ?_)
  · refine kv_aload_n (pc := 11) 0 dX4_kindByWord_11 rfl rfl ?_
    refine kv_ldcs (pc := 12) 3 (tx := "bead") rfl dX4_kindByWord_12 ?_
    refine kv_cV (pc := 14) [.ref (2000 + 3)] (fun r4 => (0, .int (kb r4), σ)) (fun r4 => (.int (kb r4) :: [])) (fun r4 => σ) 17 0 0 h (fun r4 g5 => tX4_isWord sh hw l hst q0 h0 3 (by decide) σ r4 g5) dX4_kindByWord_14 rfl h0 rfl yw_X4_isWord lk_X4_84 (by decide) (Nat.le_of_ble_eq_true rfl) (by decide) (fun _ => rfl) (fun _ => rfl) ⟨rfl, rfl, rfl⟩ (fun _ _ h0 => absurd rfl h0) (fun r4 g5 z6 h => ?_)
    refine kv_ifb_eq (pc := 17) (tgt := 22) dX4_kindByWord_17 (by decide) h (fun h => ?_) (fun h => ?_)
    · refine kv_aload_n (pc := 22) 0 dX4_kindByWord_22 rfl rfl ?_
      refine kv_ldcs (pc := 23) 4 (tx := "bubble") rfl dX4_kindByWord_23 ?_
      refine kv_cV (pc := 25) [.ref (2000 + 4)] (fun r7 => (0, .int (kb r7), σ)) (fun r7 => (.int (kb r7) :: [])) (fun r7 => σ) 28 0 0 h (fun r7 g8 => tX4_isWord sh hw l hst q0 h0 4 (by decide) σ r7 g8) dX4_kindByWord_25 rfl h0 rfl yw_X4_isWord lk_X4_84 (by decide) (Nat.le_of_ble_eq_true rfl) (by decide) (fun _ => rfl) (fun _ => rfl) ⟨rfl, rfl, rfl⟩ (fun _ _ h0 => absurd rfl h0) (fun r7 g8 z9 h => ?_)
      refine kv_ifb_eq (pc := 28) (tgt := 33) dX4_kindByWord_28 (by decide) h (fun h => ?_) (fun h => ?_)
      · refine kv_aload_n (pc := 33) 0 dX4_kindByWord_33 rfl rfl ?_
        refine kv_ldcs (pc := 34) 5 (tx := "pin") rfl dX4_kindByWord_34 ?_
        refine kv_cV (pc := 36) [.ref (2000 + 5)] (fun r10 => (0, .int (kb r10), σ)) (fun r10 => (.int (kb r10) :: [])) (fun r10 => σ) 39 0 0 h (fun r10 g11 => tX4_isWord sh hw l hst q0 h0 5 (by decide) σ r10 g11) dX4_kindByWord_36 rfl h0 rfl yw_X4_isWord lk_X4_84 (by decide) (Nat.le_of_ble_eq_true rfl) (by decide) (fun _ => rfl) (fun _ => rfl) ⟨rfl, rfl, rfl⟩ (fun _ _ h0 => absurd rfl h0) (fun r10 g11 z12 h => ?_)
        refine kv_ifb_eq (pc := 39) (tgt := 46) dX4_kindByWord_39 (by decide) h (fun h => ?_) (fun h => ?_)
        · refine kv_iconst (pc := 46) (v := (-1)) dX4_kindByWord_46 (by decide) ?_
          exact kv_iret (pc := 47) dX4_kindByWord_47 rfl (by cases h; rfl) (by decide) (by decide)
        · refine kv_iconst (pc := 42) (v := 3) dX4_kindByWord_42 (by decide) ?_
          refine kv_goto (pc := 43) (tgt := 47) dX4_kindByWord_43 (by decide) ?_
          exact kv_iret (pc := 47) dX4_kindByWord_47 rfl (by cases h; rfl) (by decide) (by decide)
      · refine kv_iconst (pc := 31) (v := 2) dX4_kindByWord_31 (by decide) ?_
        exact kv_iret (pc := 32) dX4_kindByWord_32 rfl (by cases h; rfl) (by decide) (by decide)
    · refine kv_iconst (pc := 20) (v := 1) dX4_kindByWord_20 (by decide) ?_
      exact kv_iret (pc := 21) dX4_kindByWord_21 rfl (by cases h; rfl) (by decide) (by decide)
  · refine kv_iconst (pc := 9) (v := 0) dX4_kindByWord_9 (by decide) ?_
    exact kv_iret (pc := 10) dX4_kindByWord_10 rfl (by cases h; rfl) (by decide) (by decide)
theorem yw_X4_kindByWord : KMV yX4_kindByWord mX4_kindByWord RX4 0 := ⟨⟨rfl, by decide +kernel, by decide +kernel, by decide +kernel⟩, ⟨rfl, rfl⟩, kg_in 447 (by decide +kernel) (by decide +kernel), kg_in 12 (by decide +kernel) (by decide +kernel), kg_in 52 (by decide +kernel) (by decide +kernel), kg_in 448 (by decide +kernel) (by decide +kernel)⟩
theorem dX4_needPlace_0 : decode cX4_needPlace 0 = .ok (.aload_n 0, 1) := by decide +kernel
theorem dX4_needPlace_1 : decode cX4_needPlace 1 = .ok (.invokevirtual 32, 3) := by decide +kernel
theorem dX4_needPlace_4 : decode cX4_needPlace 4 = .ok (.aload_n 0, 1) := by decide +kernel
theorem dX4_needPlace_5 : decode cX4_needPlace 5 = .ok (.getfield 35, 3) := by decide +kernel
theorem dX4_needPlace_8 : decode cX4_needPlace 8 = .ok (.iconst 3, 1) := by decide +kernel
theorem dX4_needPlace_9 : decode cX4_needPlace 9 = .ok (.if_icmp .ne 7, 3) := by decide +kernel
theorem dX4_needPlace_12 : decode cX4_needPlace 12 = .ok (.iconst 1, 1) := by decide +kernel
theorem dX4_needPlace_13 : decode cX4_needPlace 13 = .ok (.goto 4, 3) := by decide +kernel
theorem dX4_needPlace_16 : decode cX4_needPlace 16 = .ok (.iconst 0, 1) := by decide +kernel
theorem dX4_needPlace_17 : decode cX4_needPlace 17 = .ok (.istore_n 1, 1) := by decide +kernel
theorem dX4_needPlace_18 : decode cX4_needPlace 18 = .ok (.iload_n 1, 1) := by decide +kernel
theorem dX4_needPlace_19 : decode cX4_needPlace 19 = .ok (.ifCond .eq 7, 3) := by decide +kernel
theorem dX4_needPlace_22 : decode cX4_needPlace 22 = .ok (.aload_n 0, 1) := by decide +kernel
theorem dX4_needPlace_23 : decode cX4_needPlace 23 = .ok (.invokevirtual 32, 3) := by decide +kernel
theorem dX4_needPlace_26 : decode cX4_needPlace 26 = .ok (.aload_n 0, 1) := by decide +kernel
theorem dX4_needPlace_27 : decode cX4_needPlace 27 = .ok (.getfield 35, 3) := by decide +kernel
theorem dX4_needPlace_30 : decode cX4_needPlace 30 = .ok (.iconst 2, 1) := by decide +kernel
theorem dX4_needPlace_31 : decode cX4_needPlace 31 = .ok (.if_icmp .eq 9, 3) := by decide +kernel
theorem dX4_needPlace_34 : decode cX4_needPlace 34 = .ok (.aload_n 0, 1) := by decide +kernel
theorem dX4_needPlace_35 : decode cX4_needPlace 35 = .ok (.iconst 1, 1) := by decide +kernel
theorem dX4_needPlace_36 : decode cX4_needPlace 36 = .ok (.invokevirtual 59, 3) := by decide +kernel
theorem dX4_needPlace_39 : decode cX4_needPlace 39 = .ok (.ireturn, 1) := by decide +kernel
theorem dX4_needPlace_40 : decode cX4_needPlace 40 = .ok (.aload_n 0, 1) := by decide +kernel
theorem dX4_needPlace_41 : decode cX4_needPlace 41 = .ok (.getfield 51, 3) := by decide +kernel
theorem dX4_needPlace_44 : decode cX4_needPlace 44 = .ok (.bipush 6, 2) := by decide +kernel
theorem dX4_needPlace_46 : decode cX4_needPlace 46 = .ok (.if_icmp .le 9, 3) := by decide +kernel
theorem dX4_needPlace_49 : decode cX4_needPlace 49 = .ok (.aload_n 0, 1) := by decide +kernel
theorem dX4_needPlace_50 : decode cX4_needPlace 50 = .ok (.iconst 2, 1) := by decide +kernel
theorem dX4_needPlace_51 : decode cX4_needPlace 51 = .ok (.invokevirtual 59, 3) := by decide +kernel
theorem dX4_needPlace_54 : decode cX4_needPlace 54 = .ok (.ireturn, 1) := by decide +kernel
theorem dX4_needPlace_55 : decode cX4_needPlace 55 = .ok (.aload_n 0, 1) := by decide +kernel
theorem dX4_needPlace_56 : decode cX4_needPlace 56 = .ok (.iload_n 1, 1) := by decide +kernel
theorem dX4_needPlace_57 : decode cX4_needPlace 57 = .ok (.ifCond .eq 11, 3) := by decide +kernel
theorem dX4_needPlace_60 : decode cX4_needPlace 60 = .ok (.aload_n 0, 1) := by decide +kernel
theorem dX4_needPlace_61 : decode cX4_needPlace 61 = .ok (.getfield 51, 3) := by decide +kernel
theorem dX4_needPlace_64 : decode cX4_needPlace 64 = .ok (.ineg, 1) := by decide +kernel
theorem dX4_needPlace_65 : decode cX4_needPlace 65 = .ok (.goto 7, 3) := by decide +kernel
theorem dX4_needPlace_68 : decode cX4_needPlace 68 = .ok (.aload_n 0, 1) := by decide +kernel
theorem dX4_needPlace_69 : decode cX4_needPlace 69 = .ok (.getfield 51, 3) := by decide +kernel
theorem dX4_needPlace_72 : decode cX4_needPlace 72 = .ok (.putfield 51, 3) := by decide +kernel
theorem dX4_needPlace_75 : decode cX4_needPlace 75 = .ok (.iconst 1, 1) := by decide +kernel
theorem dX4_needPlace_76 : decode cX4_needPlace 76 = .ok (.ireturn, 1) := by decide +kernel
abbrev mX4_needPlace : KM := (RX4, cX4_needPlace, 2, (some .boolean), { frames := 3, cells := 0, slots := 0, locals := 63 }, 0, 0)
def fX4_needPlace_L26 (q0 : Nat) (v1 : Int32) (σ : Sto) : Option (Bool × Sto) :=
  if (σ q0 4) = 2 then
    if (σ q0 7) ≤ 6 then
      if v1 = 0 then
        klet (su σ q0 7 (σ q0 7)) fun σ4 =>
        some (true, σ4)
      else
        klet (su σ q0 7 (-(σ q0 7))) fun σ5 =>
        some (true, σ5)
    else
      (some (fX4_isWrong q0 2 σ)).bind fun r6 =>
      some (r6.1, r6.2)
  else
    (some (fX4_isWrong q0 1 σ)).bind fun r9 =>
    some (r9.1, r9.2)
def fX4_needPlace_L17 (q0 : Nat) (s0 : Int32) (σ : Sto) : Option (Bool × Sto) :=
  if s0 = 0 then
    fX4_needPlace_L26 q0 s0 σ
  else
    (fX4_nextToken q0 σ).bind fun r12 =>
    fX4_needPlace_L26 q0 s0 r12
def fX4_needPlace (q0 : Nat) (σ : Sto) : Option (Bool × Sto) :=
  (fX4_nextToken q0 σ).bind fun r1 =>
  if (r1 q0 4) = 3 then
    fX4_needPlace_L17 q0 1 r1
  else
    fX4_needPlace_L17 q0 0 r1
set_option maxHeartbeats 4000000 in
set_option maxRecDepth 100000 in
theorem wX4_needPlace_L26 (sh : KSh) (hw : KWf sh) (l : Launch) (hst : l.stackTraces = false) (q0 : Nat) (h0 : sh q0 = .inl 4) : ∀ (v1 : Int32), ∀ (σ : Sto), ∀ (r : (Bool × Sto)), fX4_needPlace_L26 q0 v1 σ = some r → VV sh l mX4_needPlace 0 0 26 [(0, .ref q0), (1, .int v1)] [] σ (0, .int (kb r.1), r.2) := by
  intro v1 σ r h
  rw [fX4_needPlace_L26] at h
  refine kv_aload_n (pc := 26) 0 dX4_needPlace_26 rfl rfl ?_
  refine kv_getI (pc := 27) dX4_needPlace_27 h0 rfl (i := 4) (by decide) rfl fl_X4_35 rfl ?_
  refine kv_iconst (pc := 30) (v := 2) dX4_needPlace_30 (by decide) ?_
  refine kv_icmp_eq (pc := 31) (tgt := 40) dX4_needPlace_31 (by decide) h (fun h => ?_) (fun h => ?_)
  · refine kv_aload_n (pc := 40) 0 dX4_needPlace_40 rfl rfl ?_
    refine kv_getI (pc := 41) dX4_needPlace_41 h0 rfl (i := 7) (by decide) rfl fl_X4_51 rfl ?_
    refine kv_bipush (pc := 44) (v := 6) dX4_needPlace_44 (by decide) ?_
    refine kv_icmp_le (pc := 46) (tgt := 55) dX4_needPlace_46 (by decide) h (fun h => ?_) (fun h => ?_)
    · refine kv_aload_n (pc := 55) 0 dX4_needPlace_55 rfl rfl ?_
      refine kv_iload_n (pc := 56) 1 dX4_needPlace_56 rfl rfl ?_
      refine kv_if_eq (pc := 57) (tgt := 68) dX4_needPlace_57 (by decide) h (fun h => ?_) (fun h => ?_)
      · refine kv_aload_n (pc := 68) 0 dX4_needPlace_68 rfl rfl ?_
        refine kv_getI (pc := 69) dX4_needPlace_69 h0 rfl (i := 7) (by decide) rfl fl_X4_51 rfl ?_
        refine kv_put (pc := 72) tyX4 tyX4_ok nmX4 dX4_needPlace_72 h0 rfl (i := 7) (by decide) rfl fl_X4_51 rfl rfl rfl rfl rfl ?_
        refine kv_let h (fun σ4 h => ?_)
        refine kv_iconst (pc := 75) (v := 1) dX4_needPlace_75 (by decide) ?_
        exact kv_zret (pc := 76) dX4_needPlace_76 rfl rfl (by cases h; rfl) (by decide) (by decide)
      · refine kv_aload_n (pc := 60) 0 dX4_needPlace_60 rfl rfl ?_
        refine kv_getI (pc := 61) dX4_needPlace_61 h0 rfl (i := 7) (by decide) rfl fl_X4_51 rfl ?_
        refine kv_ineg (pc := 64) dX4_needPlace_64 ?_
        refine kv_goto (pc := 65) (tgt := 72) dX4_needPlace_65 (by decide) ?_
        refine kv_put (pc := 72) tyX4 tyX4_ok nmX4 dX4_needPlace_72 h0 rfl (i := 7) (by decide) rfl fl_X4_51 rfl rfl rfl rfl rfl ?_
        refine kv_let h (fun σ5 h => ?_)
        refine kv_iconst (pc := 75) (v := 1) dX4_needPlace_75 (by decide) ?_
        exact kv_zret (pc := 76) dX4_needPlace_76 rfl rfl (by cases h; rfl) (by decide) (by decide)
    · refine kv_aload_n (pc := 49) 0 dX4_needPlace_49 rfl rfl ?_
      refine kv_iconst (pc := 50) (v := 2) dX4_needPlace_50 (by decide) ?_
      refine kv_cV (pc := 51) [.int 2] (fun r6 => (0, .int (kb r6.1), r6.2)) (fun r6 => (.int (kb r6.1) :: [])) (fun r6 => r6.2) 54 0 0 h (fun r6 g7 => by cases g7; exact tX4_isWrong sh hw l hst q0 h0 2 σ) dX4_needPlace_51 rfl h0 rfl yw_X4_isWrong lk_X4_59 (by decide) (Nat.le_of_ble_eq_true rfl) (by decide) (fun _ => rfl) (fun _ => rfl) ⟨rfl, rfl, rfl⟩ (fun _ _ h0 => absurd rfl h0) (fun r6 g7 z8 h => ?_)
      exact kv_zret (pc := 54) dX4_needPlace_54 rfl (kb_n _) (by cases h; rfl) (by decide) (by decide)
  · refine kv_aload_n (pc := 34) 0 dX4_needPlace_34 rfl rfl ?_
    refine kv_iconst (pc := 35) (v := 1) dX4_needPlace_35 (by decide) ?_
    refine kv_cV (pc := 36) [.int 1] (fun r9 => (0, .int (kb r9.1), r9.2)) (fun r9 => (.int (kb r9.1) :: [])) (fun r9 => r9.2) 39 0 0 h (fun r9 g10 => by cases g10; exact tX4_isWrong sh hw l hst q0 h0 1 σ) dX4_needPlace_36 rfl h0 rfl yw_X4_isWrong lk_X4_59 (by decide) (Nat.le_of_ble_eq_true rfl) (by decide) (fun _ => rfl) (fun _ => rfl) ⟨rfl, rfl, rfl⟩ (fun _ _ h0 => absurd rfl h0) (fun r9 g10 z11 h => ?_)
    exact kv_zret (pc := 39) dX4_needPlace_39 rfl (kb_n _) (by cases h; rfl) (by decide) (by decide)
set_option maxHeartbeats 4000000 in
set_option maxRecDepth 100000 in
theorem wX4_needPlace_L17 (sh : KSh) (hw : KWf sh) (l : Launch) (hst : l.stackTraces = false) (q0 : Nat) (h0 : sh q0 = .inl 4) : ∀ (s0 : Int32), ∀ (σ : Sto), ∀ (r : (Bool × Sto)), fX4_needPlace_L17 q0 s0 σ = some r → VV sh l mX4_needPlace 0 0 17 [(0, .ref q0)] [.int s0] σ (0, .int (kb r.1), r.2) := by
  intro s0 σ r h
  rw [fX4_needPlace_L17] at h
  refine kv_istore_n (pc := 17) [(1, .int s0), (0, .ref q0)] dX4_needPlace_17 rfl (by decide) rfl ?_
  refine kv_iload_n (pc := 18) 0 dX4_needPlace_18 rfl rfl ?_
  refine kv_if_eq (pc := 19) (tgt := 26) dX4_needPlace_19 (by decide) h (fun h => ?_) (fun h => ?_)
  · refine kv_sub (pc := 26) [(0, .ref q0), (1, .int s0)] [1, 0] rfl ?_
    exact wX4_needPlace_L26 sh hw l hst q0 h0 s0 σ r h
  · refine kv_aload_n (pc := 22) 1 dX4_needPlace_22 rfl rfl ?_
    refine kv_cV (pc := 23) [] (fun r12 => (0, .int 0, r12)) (fun r12 => []) (fun r12 => r12) 26 0 0 h (fun r12 g13 => tX4_nextToken sh hw l hst q0 h0 σ r12 g13) dX4_needPlace_23 rfl h0 rfl yw_X4_nextToken lk_X4_32 (by decide) (Nat.le_of_ble_eq_true rfl) (by decide) (fun _ => rfl) (fun _ => rfl) ⟨rfl, rfl, rfl⟩ (fun _ _ h0 => absurd rfl h0) (fun r12 g13 z14 h => ?_)
    refine kv_sub (pc := 26) [(0, .ref q0), (1, .int s0)] [1, 0] rfl ?_
    exact wX4_needPlace_L26 sh hw l hst q0 h0 s0 r12 r h
set_option maxHeartbeats 4000000 in
set_option maxRecDepth 100000 in
theorem tX4_needPlace (sh : KSh) (hw : KWf sh) (l : Launch) (hst : l.stackTraces = false) (q0 : Nat) (h0 : sh q0 = .inl 4) (σ : Sto) (r : (Bool × Sto)) (h : fX4_needPlace q0 σ = some r) : CT sh l mX4_needPlace yX4_needPlace [.ref q0] σ (0, .int (kb r.1), r.2) := by
  refine kct [(0, .ref q0)] hst (by decide +kernel) rfl rfl (Nat.le_of_ble_eq_true rfl) ?_
  rw [fX4_needPlace] at h
  refine kv_aload_n (pc := 0) 0 dX4_needPlace_0 rfl rfl ?_
  refine kv_cV (pc := 1) [] (fun r1 => (0, .int 0, r1)) (fun r1 => []) (fun r1 => r1) 4 0 0 h (fun r1 g2 => tX4_nextToken sh hw l hst q0 h0 σ r1 g2) dX4_needPlace_1 rfl h0 rfl yw_X4_nextToken lk_X4_32 (by decide) (Nat.le_of_ble_eq_true rfl) (by decide) (fun _ => rfl) (fun _ => rfl) ⟨rfl, rfl, rfl⟩ (fun _ _ h0 => absurd rfl h0) (fun r1 g2 z3 h => ?_)
  refine kv_aload_n (pc := 4) 0 dX4_needPlace_4 rfl rfl ?_
  refine kv_getI (pc := 5) dX4_needPlace_5 h0 rfl (i := 4) (by decide) rfl fl_X4_35 rfl ?_
  refine kv_iconst (pc := 8) (v := 3) dX4_needPlace_8 (by decide) ?_
  refine kv_icmp_ne (pc := 9) (tgt := 16) dX4_needPlace_9 (by decide) h (fun h => ?_) (fun h => ?_)
  · refine kv_iconst (pc := 16) (v := 0) dX4_needPlace_16 (by decide) ?_
    refine kv_sub (pc := 17) [(0, .ref q0)] [0] rfl ?_
    exact wX4_needPlace_L17 sh hw l hst q0 h0 0 r1 r h
  · refine kv_iconst (pc := 12) (v := 1) dX4_needPlace_12 (by decide) ?_
    refine kv_goto (pc := 13) (tgt := 17) dX4_needPlace_13 (by decide) ?_
    refine kv_sub (pc := 17) [(0, .ref q0)] [0] rfl ?_
    exact wX4_needPlace_L17 sh hw l hst q0 h0 1 r1 r h
theorem yw_X4_needPlace : KMV yX4_needPlace mX4_needPlace RX4 0 := ⟨⟨rfl, by decide +kernel, by decide +kernel, by decide +kernel⟩, ⟨rfl, rfl⟩, kg_in 459 (by decide +kernel) (by decide +kernel), kg_in 14 (by decide +kernel) (by decide +kernel), kg_in 52 (by decide +kernel) (by decide +kernel), kg_in 460 (by decide +kernel) (by decide +kernel)⟩
theorem dX4_readChip_0 : decode cX4_readChip 0 = .ok (.aload_n 1, 1) := by decide +kernel
theorem dX4_readChip_1 : decode cX4_readChip 1 = .ok (.getfield 108, 3) := by decide +kernel
theorem dX4_readChip_4 : decode cX4_readChip 4 = .ok (.bipush 30, 2) := by decide +kernel
theorem dX4_readChip_6 : decode cX4_readChip 6 = .ok (.if_icmp .lt 9, 3) := by decide +kernel
theorem dX4_readChip_9 : decode cX4_readChip 9 = .ok (.aload_n 0, 1) := by decide +kernel
theorem dX4_readChip_10 : decode cX4_readChip 10 = .ok (.iconst 4, 1) := by decide +kernel
theorem dX4_readChip_11 : decode cX4_readChip 11 = .ok (.invokevirtual 59, 3) := by decide +kernel
theorem dX4_readChip_14 : decode cX4_readChip 14 = .ok (.ireturn, 1) := by decide +kernel
theorem dX4_readChip_15 : decode cX4_readChip 15 = .ok (.aload_n 0, 1) := by decide +kernel
theorem dX4_readChip_16 : decode cX4_readChip 16 = .ok (.iconst 1, 1) := by decide +kernel
theorem dX4_readChip_17 : decode cX4_readChip 17 = .ok (.bipush 9, 2) := by decide +kernel
theorem dX4_readChip_19 : decode cX4_readChip 19 = .ok (.invokevirtual 64, 3) := by decide +kernel
theorem dX4_readChip_22 : decode cX4_readChip 22 = .ok (.ifCond .ne 5, 3) := by decide +kernel
theorem dX4_readChip_25 : decode cX4_readChip 25 = .ok (.iconst 0, 1) := by decide +kernel
theorem dX4_readChip_26 : decode cX4_readChip 26 = .ok (.ireturn, 1) := by decide +kernel
theorem dX4_readChip_27 : decode cX4_readChip 27 = .ok (.aload_n 0, 1) := by decide +kernel
theorem dX4_readChip_28 : decode cX4_readChip 28 = .ok (.getfield 51, 3) := by decide +kernel
theorem dX4_readChip_31 : decode cX4_readChip 31 = .ok (.istore_n 3, 1) := by decide +kernel
theorem dX4_readChip_32 : decode cX4_readChip 32 = .ok (.aload_n 0, 1) := by decide +kernel
theorem dX4_readChip_33 : decode cX4_readChip 33 = .ok (.iconst 1, 1) := by decide +kernel
theorem dX4_readChip_34 : decode cX4_readChip 34 = .ok (.bipush 9, 2) := by decide +kernel
theorem dX4_readChip_36 : decode cX4_readChip 36 = .ok (.invokevirtual 64, 3) := by decide +kernel
theorem dX4_readChip_39 : decode cX4_readChip 39 = .ok (.ifCond .ne 5, 3) := by decide +kernel
theorem dX4_readChip_42 : decode cX4_readChip 42 = .ok (.iconst 0, 1) := by decide +kernel
theorem dX4_readChip_43 : decode cX4_readChip 43 = .ok (.ireturn, 1) := by decide +kernel
theorem dX4_readChip_44 : decode cX4_readChip 44 = .ok (.aload_n 0, 1) := by decide +kernel
theorem dX4_readChip_45 : decode cX4_readChip 45 = .ok (.getfield 51, 3) := by decide +kernel
theorem dX4_readChip_48 : decode cX4_readChip 48 = .ok (.istore 4, 2) := by decide +kernel
theorem dX4_readChip_50 : decode cX4_readChip 50 = .ok (.aload_n 0, 1) := by decide +kernel
theorem dX4_readChip_51 : decode cX4_readChip 51 = .ok (.invokevirtual 111, 3) := by decide +kernel
theorem dX4_readChip_54 : decode cX4_readChip 54 = .ok (.ifCond .ne 5, 3) := by decide +kernel
theorem dX4_readChip_57 : decode cX4_readChip 57 = .ok (.iconst 0, 1) := by decide +kernel
theorem dX4_readChip_58 : decode cX4_readChip 58 = .ok (.ireturn, 1) := by decide +kernel
theorem dX4_readChip_59 : decode cX4_readChip 59 = .ok (.aload_n 0, 1) := by decide +kernel
theorem dX4_readChip_60 : decode cX4_readChip 60 = .ok (.getfield 51, 3) := by decide +kernel
theorem dX4_readChip_63 : decode cX4_readChip 63 = .ok (.istore 5, 2) := by decide +kernel
theorem dX4_readChip_65 : decode cX4_readChip 65 = .ok (.aload_n 0, 1) := by decide +kernel
theorem dX4_readChip_66 : decode cX4_readChip 66 = .ok (.invokevirtual 111, 3) := by decide +kernel
theorem dX4_readChip_69 : decode cX4_readChip 69 = .ok (.ifCond .ne 5, 3) := by decide +kernel
theorem dX4_readChip_72 : decode cX4_readChip 72 = .ok (.iconst 0, 1) := by decide +kernel
theorem dX4_readChip_73 : decode cX4_readChip 73 = .ok (.ireturn, 1) := by decide +kernel
theorem dX4_readChip_74 : decode cX4_readChip 74 = .ok (.aload_n 1, 1) := by decide +kernel
theorem dX4_readChip_75 : decode cX4_readChip 75 = .ok (.getfield 115, 3) := by decide +kernel
theorem dX4_readChip_78 : decode cX4_readChip 78 = .ok (.iload 5, 2) := by decide +kernel
theorem dX4_readChip_80 : decode cX4_readChip 80 = .ok (.aload_n 0, 1) := by decide +kernel
theorem dX4_readChip_81 : decode cX4_readChip 81 = .ok (.getfield 51, 3) := by decide +kernel
theorem dX4_readChip_84 : decode cX4_readChip 84 = .ok (.invokevirtual 119, 3) := by decide +kernel
theorem dX4_readChip_87 : decode cX4_readChip 87 = .ok (.istore 6, 2) := by decide +kernel
theorem dX4_readChip_89 : decode cX4_readChip 89 = .ok (.iload 6, 2) := by decide +kernel
theorem dX4_readChip_91 : decode cX4_readChip 91 = .ok (.iconst (-1), 1) := by decide +kernel
theorem dX4_readChip_92 : decode cX4_readChip 92 = .ok (.if_icmp .eq 13, 3) := by decide +kernel
theorem dX4_readChip_95 : decode cX4_readChip 95 = .ok (.aload_n 1, 1) := by decide +kernel
theorem dX4_readChip_96 : decode cX4_readChip 96 = .ok (.iload 6, 2) := by decide +kernel
theorem dX4_readChip_98 : decode cX4_readChip 98 = .ok (.invokevirtual 123, 3) := by decide +kernel
theorem dX4_readChip_101 : decode cX4_readChip 101 = .ok (.iconst (-1), 1) := by decide +kernel
theorem dX4_readChip_102 : decode cX4_readChip 102 = .ok (.if_icmp .eq 9, 3) := by decide +kernel
theorem dX4_readChip_105 : decode cX4_readChip 105 = .ok (.aload_n 0, 1) := by decide +kernel
theorem dX4_readChip_106 : decode cX4_readChip 106 = .ok (.iconst 3, 1) := by decide +kernel
theorem dX4_readChip_107 : decode cX4_readChip 107 = .ok (.invokevirtual 59, 3) := by decide +kernel
theorem dX4_readChip_110 : decode cX4_readChip 110 = .ok (.ireturn, 1) := by decide +kernel
theorem dX4_readChip_111 : decode cX4_readChip 111 = .ok (.aload_n 1, 1) := by decide +kernel
theorem dX4_readChip_112 : decode cX4_readChip 112 = .ok (.iload_n 2, 1) := by decide +kernel
theorem dX4_readChip_113 : decode cX4_readChip 113 = .ok (.iload_n 3, 1) := by decide +kernel
theorem dX4_readChip_114 : decode cX4_readChip 114 = .ok (.iload 4, 2) := by decide +kernel
theorem dX4_readChip_116 : decode cX4_readChip 116 = .ok (.iload 6, 2) := by decide +kernel
theorem dX4_readChip_118 : decode cX4_readChip 118 = .ok (.invokevirtual 127, 3) := by decide +kernel
theorem dX4_readChip_121 : decode cX4_readChip 121 = .ok (.pop, 1) := by decide +kernel
theorem dX4_readChip_122 : decode cX4_readChip 122 = .ok (.iconst 1, 1) := by decide +kernel
theorem dX4_readChip_123 : decode cX4_readChip 123 = .ok (.ireturn, 1) := by decide +kernel
abbrev mX4_readChip : KM := (RX4, cX4_readChip, 7, (some .boolean), { frames := 4, cells := 0, slots := 0, locals := 85 }, 0, 0)
def fX4_readChip (q0 : Nat) (q1 : Nat) (a2 : Int32) (σ : Sto) : Option (Bool × Sto) :=
  if (σ q1 8) < 30 then
    (fX4_needNumber q0 1 9 σ).bind fun r1 =>
    if r1.1 = true then
      (fX4_needNumber q0 1 9 r1.2).bind fun r4 =>
      if r4.1 = true then
        (fX4_needPlace q0 r4.2).bind fun r7 =>
        if r7.1 = true then
          (fX4_needPlace q0 r7.2).bind fun r10 =>
          if r10.1 = true then
            (fX1_boxCell (q1 + 1) (r7.2 q0 7) (r10.2 q0 7) r10.2).bind fun r13 =>
            if r13 = (-1) then
              (some (fX4_isWrong q0 3 r10.2)).bind fun r16 =>
              some (r16.1, r16.2)
            else
              (fX5_chipOn q1 r13 r10.2).bind fun r19 =>
              if r19 = (-1) then
                (fX5_bring q1 a2 (r1.2 q0 7) (r4.2 q0 7) r13 r10.2).bind fun r22 =>
                some (true, r22.2)
              else
                (some (fX4_isWrong q0 3 r10.2)).bind fun r25 =>
                some (r25.1, r25.2)
          else
            some (false, r10.2)
        else
          some (false, r7.2)
      else
        some (false, r4.2)
    else
      some (false, r1.2)
  else
    (some (fX4_isWrong q0 4 σ)).bind fun r28 =>
    some (r28.1, r28.2)
set_option maxHeartbeats 4000000 in
set_option maxRecDepth 100000 in
theorem tX4_readChip (sh : KSh) (hw : KWf sh) (l : Launch) (hst : l.stackTraces = false) (q0 : Nat) (h0 : sh q0 = .inl 4) (q1 : Nat) (h1 : sh q1 = .inl 5) (a2 : Int32) (σ : Sto) (r : (Bool × Sto)) (h : fX4_readChip q0 q1 a2 σ = some r) : CT sh l mX4_readChip yX4_readChip [.ref q0, .ref q1, .int a2] σ (0, .int (kb r.1), r.2) := by
  refine kct [(0, .ref q0), (1, .ref q1), (2, .int a2)] hst (by decide +kernel) rfl rfl (Nat.le_of_ble_eq_true rfl) ?_
  rw [fX4_readChip] at h
  refine kv_aload_n (pc := 0) 1 dX4_readChip_0 rfl rfl ?_
  refine kv_getI (pc := 1) dX4_readChip_1 h1 rfl (i := 8) (by decide) rfl fl_X4_108 rfl ?_
  refine kv_bipush (pc := 4) (v := 30) dX4_readChip_4 (by decide) ?_
  refine kv_icmp_lt (pc := 6) (tgt := 15) dX4_readChip_6 (by decide) h (fun h => ?_) (fun h => ?_)
  · refine kv_aload_n (pc := 15) 0 dX4_readChip_15 rfl rfl ?_
    refine kv_iconst (pc := 16) (v := 1) dX4_readChip_16 (by decide) ?_
    refine kv_bipush (pc := 17) (v := 9) dX4_readChip_17 (by decide) ?_
    refine kv_cV (pc := 19) [.int 1, .int 9] (fun r1 => (0, .int (kb r1.1), r1.2)) (fun r1 => (.int (kb r1.1) :: [])) (fun r1 => r1.2) 22 0 0 h (fun r1 g2 => tX4_needNumber sh hw l hst q0 h0 1 9 σ r1 g2) dX4_readChip_19 rfl h0 rfl yw_X4_needNumber lk_X4_64 (by decide) (Nat.le_of_ble_eq_true rfl) (by decide) (fun _ => rfl) (fun _ => rfl) ⟨rfl, rfl, rfl⟩ (fun _ _ h0 => absurd rfl h0) (fun r1 g2 z3 h => ?_)
    refine kv_ifb_ne (pc := 22) (tgt := 27) dX4_readChip_22 (by decide) h (fun h => ?_) (fun h => ?_)
    · refine kv_aload_n (pc := 27) 0 dX4_readChip_27 rfl rfl ?_
      refine kv_getI (pc := 28) dX4_readChip_28 h0 rfl (i := 7) (by decide) rfl fl_X4_51 rfl ?_
      refine kv_istore_n (pc := 31) [(3, .int (r1.2 q0 7)), (0, .ref q0), (1, .ref q1), (2, .int a2)] dX4_readChip_31 rfl (by decide) rfl ?_
      refine kv_aload_n (pc := 32) 1 dX4_readChip_32 rfl rfl ?_
      refine kv_iconst (pc := 33) (v := 1) dX4_readChip_33 (by decide) ?_
      refine kv_bipush (pc := 34) (v := 9) dX4_readChip_34 (by decide) ?_
      refine kv_cV (pc := 36) [.int 1, .int 9] (fun r4 => (0, .int (kb r4.1), r4.2)) (fun r4 => (.int (kb r4.1) :: [])) (fun r4 => r4.2) 39 0 0 h (fun r4 g5 => tX4_needNumber sh hw l hst q0 h0 1 9 r1.2 r4 g5) dX4_readChip_36 rfl h0 rfl yw_X4_needNumber lk_X4_64 (by decide) (Nat.le_of_ble_eq_true rfl) (by decide) (fun _ => rfl) (fun _ => rfl) ⟨rfl, rfl, rfl⟩ (fun _ _ h0 => absurd rfl h0) (fun r4 g5 z6 h => ?_)
      refine kv_ifb_ne (pc := 39) (tgt := 44) dX4_readChip_39 (by decide) h (fun h => ?_) (fun h => ?_)
      · refine kv_aload_n (pc := 44) 1 dX4_readChip_44 rfl rfl ?_
        refine kv_getI (pc := 45) dX4_readChip_45 h0 rfl (i := 7) (by decide) rfl fl_X4_51 rfl ?_
        refine kv_istore (pc := 48) [(4, .int (r4.2 q0 7)), (3, .int (r1.2 q0 7)), (0, .ref q0), (1, .ref q1), (2, .int a2)] dX4_readChip_48 (by decide) rfl ?_
        refine kv_aload_n (pc := 50) 2 dX4_readChip_50 rfl rfl ?_
        refine kv_cV (pc := 51) [] (fun r7 => (0, .int (kb r7.1), r7.2)) (fun r7 => (.int (kb r7.1) :: [])) (fun r7 => r7.2) 54 0 0 h (fun r7 g8 => tX4_needPlace sh hw l hst q0 h0 r4.2 r7 g8) dX4_readChip_51 rfl h0 rfl yw_X4_needPlace lk_X4_111 (by decide) (Nat.le_of_ble_eq_true rfl) (by decide) (fun _ => rfl) (fun _ => rfl) ⟨rfl, rfl, rfl⟩ (fun _ _ h0 => absurd rfl h0) (fun r7 g8 z9 h => ?_)
        refine kv_ifb_ne (pc := 54) (tgt := 59) dX4_readChip_54 (by decide) h (fun h => ?_) (fun h => ?_)
        · refine kv_aload_n (pc := 59) 2 dX4_readChip_59 rfl rfl ?_
          refine kv_getI (pc := 60) dX4_readChip_60 h0 rfl (i := 7) (by decide) rfl fl_X4_51 rfl ?_
          refine kv_istore (pc := 63) [(5, .int (r7.2 q0 7)), (4, .int (r4.2 q0 7)), (3, .int (r1.2 q0 7)), (0, .ref q0), (1, .ref q1), (2, .int a2)] dX4_readChip_63 (by decide) rfl ?_
          refine kv_aload_n (pc := 65) 3 dX4_readChip_65 rfl rfl ?_
          refine kv_cV (pc := 66) [] (fun r10 => (0, .int (kb r10.1), r10.2)) (fun r10 => (.int (kb r10.1) :: [])) (fun r10 => r10.2) 69 0 0 h (fun r10 g11 => tX4_needPlace sh hw l hst q0 h0 r7.2 r10 g11) dX4_readChip_66 rfl h0 rfl yw_X4_needPlace lk_X4_111 (by decide) (Nat.le_of_ble_eq_true rfl) (by decide) (fun _ => rfl) (fun _ => rfl) ⟨rfl, rfl, rfl⟩ (fun _ _ h0 => absurd rfl h0) (fun r10 g11 z12 h => ?_)
          refine kv_ifb_ne (pc := 69) (tgt := 74) dX4_readChip_69 (by decide) h (fun h => ?_) (fun h => ?_)
          · refine kv_aload_n (pc := 74) 4 dX4_readChip_74 rfl rfl ?_
            refine kv_getR (pc := 75) (q2 := q1 + 1) dX4_readChip_75 h1 rfl (i := 0) (by decide) rfl fl_X4_115 rfl rfl ?_
            refine kv_iload (pc := 78) 0 dX4_readChip_78 rfl ?_
            refine kv_aload_n (pc := 80) 3 dX4_readChip_80 rfl rfl ?_
            refine kv_getI (pc := 81) dX4_readChip_81 h0 rfl (i := 7) (by decide) rfl fl_X4_51 rfl ?_
            refine kv_cV (pc := 84) [.int (r7.2 q0 7), .int (r10.2 q0 7)] (fun r13 => (0, .int r13, r10.2)) (fun r13 => (.int r13 :: [])) (fun r13 => r10.2) 87 0 0 h (fun r13 g14 => tX1_boxCell sh hw l hst (q1 + 1) (show sh (q1 + 1) = _ from kso_5_1 hw h1) (r7.2 q0 7) (r10.2 q0 7) r10.2 r13 g14) dX4_readChip_84 rfl (show sh (q1 + 1) = _ from kso_5_1 hw h1) rfl yw_X1_boxCell lk_X4_119 (by decide) (Nat.le_of_ble_eq_true rfl) (by decide) (fun _ => rfl) (fun _ => rfl) ⟨rfl, rfl, rfl⟩ (fun _ _ h0 => absurd rfl h0) (fun r13 g14 z15 h => ?_)
            refine kv_istore (pc := 87) [(6, .int r13), (5, .int (r7.2 q0 7)), (4, .int (r4.2 q0 7)), (3, .int (r1.2 q0 7)), (0, .ref q0), (1, .ref q1), (2, .int a2)] dX4_readChip_87 (by decide) rfl ?_
            refine kv_iload (pc := 89) 0 dX4_readChip_89 rfl ?_
            refine kv_iconst (pc := 91) (v := (-1)) dX4_readChip_91 (by decide) ?_
            refine kv_icmp_eq (pc := 92) (tgt := 105) dX4_readChip_92 (by decide) h (fun h => ?_) (fun h => ?_)
            · refine kv_aload_n (pc := 105) 4 dX4_readChip_105 rfl rfl ?_
              refine kv_iconst (pc := 106) (v := 3) dX4_readChip_106 (by decide) ?_
              refine kv_cV (pc := 107) [.int 3] (fun r16 => (0, .int (kb r16.1), r16.2)) (fun r16 => (.int (kb r16.1) :: [])) (fun r16 => r16.2) 110 0 0 h (fun r16 g17 => by cases g17; exact tX4_isWrong sh hw l hst q0 h0 3 r10.2) dX4_readChip_107 rfl h0 rfl yw_X4_isWrong lk_X4_59 (by decide) (Nat.le_of_ble_eq_true rfl) (by decide) (fun _ => rfl) (fun _ => rfl) ⟨rfl, rfl, rfl⟩ (fun _ _ h0 => absurd rfl h0) (fun r16 g17 z18 h => ?_)
              exact kv_zret (pc := 110) dX4_readChip_110 rfl (kb_n _) (by cases h; rfl) (by decide) (by decide)
            · refine kv_aload_n (pc := 95) 5 dX4_readChip_95 rfl rfl ?_
              refine kv_iload (pc := 96) 0 dX4_readChip_96 rfl ?_
              refine kv_cV (pc := 98) [.int r13] (fun r19 => (0, .int r19, r10.2)) (fun r19 => (.int r19 :: [])) (fun r19 => r10.2) 101 0 0 h (fun r19 g20 => tX5_chipOn sh hw l hst q1 h1 r13 r10.2 r19 g20) dX4_readChip_98 rfl h1 rfl yw_X5_chipOn lk_X4_123 (by decide) (Nat.le_of_ble_eq_true rfl) (by decide) (fun _ => rfl) (fun _ => rfl) ⟨rfl, rfl, rfl⟩ (fun _ _ h0 => absurd rfl h0) (fun r19 g20 z21 h => ?_)
              refine kv_iconst (pc := 101) (v := (-1)) dX4_readChip_101 (by decide) ?_
              refine kv_icmp_eq (pc := 102) (tgt := 111) dX4_readChip_102 (by decide) h (fun h => ?_) (fun h => ?_)
              · refine kv_aload_n (pc := 111) 5 dX4_readChip_111 rfl rfl ?_
                refine kv_iload_n (pc := 112) 6 dX4_readChip_112 rfl rfl ?_
                refine kv_iload_n (pc := 113) 3 dX4_readChip_113 rfl rfl ?_
                refine kv_iload (pc := 114) 2 dX4_readChip_114 rfl ?_
                refine kv_iload (pc := 116) 0 dX4_readChip_116 rfl ?_
                refine kv_cV (pc := 118) [.int a2, .int (r1.2 q0 7), .int (r4.2 q0 7), .int r13] (fun r22 => (0, .int r22.1, r22.2)) (fun r22 => (.int r22.1 :: [])) (fun r22 => r22.2) 121 0 0 h (fun r22 g23 => tX5_bring sh hw l hst q1 h1 a2 (r1.2 q0 7) (r4.2 q0 7) r13 r10.2 r22 g23) dX4_readChip_118 rfl h1 rfl yw_X5_bring lk_X4_127 (by decide) (Nat.le_of_ble_eq_true rfl) (by decide) (fun _ => rfl) (fun _ => rfl) ⟨rfl, rfl, rfl⟩ (fun _ _ h0 => absurd rfl h0) (fun r22 g23 z24 h => ?_)
                refine kv_pop (pc := 121) dX4_readChip_121 rfl ?_
                refine kv_iconst (pc := 122) (v := 1) dX4_readChip_122 (by decide) ?_
                exact kv_zret (pc := 123) dX4_readChip_123 rfl rfl (by cases h; rfl) (by decide) (by decide)
              · refine kv_aload_n (pc := 105) 4 dX4_readChip_105 rfl rfl ?_
                refine kv_iconst (pc := 106) (v := 3) dX4_readChip_106 (by decide) ?_
                refine kv_cV (pc := 107) [.int 3] (fun r25 => (0, .int (kb r25.1), r25.2)) (fun r25 => (.int (kb r25.1) :: [])) (fun r25 => r25.2) 110 0 0 h (fun r25 g26 => by cases g26; exact tX4_isWrong sh hw l hst q0 h0 3 r10.2) dX4_readChip_107 rfl h0 rfl yw_X4_isWrong lk_X4_59 (by decide) (Nat.le_of_ble_eq_true rfl) (by decide) (fun _ => rfl) (fun _ => rfl) ⟨rfl, rfl, rfl⟩ (fun _ _ h0 => absurd rfl h0) (fun r25 g26 z27 h => ?_)
                exact kv_zret (pc := 110) dX4_readChip_110 rfl (kb_n _) (by cases h; rfl) (by decide) (by decide)
          · refine kv_iconst (pc := 72) (v := 0) dX4_readChip_72 (by decide) ?_
            exact kv_zret (pc := 73) dX4_readChip_73 rfl rfl (by cases h; rfl) (by decide) (by decide)
        · refine kv_iconst (pc := 57) (v := 0) dX4_readChip_57 (by decide) ?_
          exact kv_zret (pc := 58) dX4_readChip_58 rfl rfl (by cases h; rfl) (by decide) (by decide)
      · refine kv_iconst (pc := 42) (v := 0) dX4_readChip_42 (by decide) ?_
        exact kv_zret (pc := 43) dX4_readChip_43 rfl rfl (by cases h; rfl) (by decide) (by decide)
    · refine kv_iconst (pc := 25) (v := 0) dX4_readChip_25 (by decide) ?_
      exact kv_zret (pc := 26) dX4_readChip_26 rfl rfl (by cases h; rfl) (by decide) (by decide)
  · refine kv_aload_n (pc := 9) 0 dX4_readChip_9 rfl rfl ?_
    refine kv_iconst (pc := 10) (v := 4) dX4_readChip_10 (by decide) ?_
    refine kv_cV (pc := 11) [.int 4] (fun r28 => (0, .int (kb r28.1), r28.2)) (fun r28 => (.int (kb r28.1) :: [])) (fun r28 => r28.2) 14 0 0 h (fun r28 g29 => by cases g29; exact tX4_isWrong sh hw l hst q0 h0 4 σ) dX4_readChip_11 rfl h0 rfl yw_X4_isWrong lk_X4_59 (by decide) (Nat.le_of_ble_eq_true rfl) (by decide) (fun _ => rfl) (fun _ => rfl) ⟨rfl, rfl, rfl⟩ (fun _ _ h0 => absurd rfl h0) (fun r28 g29 z30 h => ?_)
    exact kv_zret (pc := 14) dX4_readChip_14 rfl (kb_n _) (by cases h; rfl) (by decide) (by decide)
theorem yw_X4_readChip : KMV yX4_readChip mX4_readChip RX4 2 := ⟨⟨rfl, by decide +kernel, by decide +kernel, by decide +kernel⟩, ⟨rfl, rfl⟩, kg_in 455 (by decide +kernel) (by decide +kernel), kg_in 13 (by decide +kernel) (by decide +kernel), kg_in 52 (by decide +kernel) (by decide +kernel), kg_in 456 (by decide +kernel) (by decide +kernel)⟩
theorem dX4_readDown_0 : decode cX4_readDown 0 = .ok (.aload_n 0, 1) := by decide +kernel
theorem dX4_readDown_1 : decode cX4_readDown 1 = .ok (.iconst 0, 1) := by decide +kernel
theorem dX4_readDown_2 : decode cX4_readDown 2 = .ok (.aload_n 1, 1) := by decide +kernel
theorem dX4_readDown_3 : decode cX4_readDown 3 = .ok (.getfield 115, 3) := by decide +kernel
theorem dX4_readDown_6 : decode cX4_readDown 6 = .ok (.invokevirtual 131, 3) := by decide +kernel
theorem dX4_readDown_9 : decode cX4_readDown 9 = .ok (.iconst 1, 1) := by decide +kernel
theorem dX4_readDown_10 : decode cX4_readDown 10 = .ok (.isub, 1) := by decide +kernel
theorem dX4_readDown_11 : decode cX4_readDown 11 = .ok (.invokevirtual 64, 3) := by decide +kernel
theorem dX4_readDown_14 : decode cX4_readDown 14 = .ok (.ifCond .ne 5, 3) := by decide +kernel
theorem dX4_readDown_17 : decode cX4_readDown 17 = .ok (.iconst 0, 1) := by decide +kernel
theorem dX4_readDown_18 : decode cX4_readDown 18 = .ok (.ireturn, 1) := by decide +kernel
theorem dX4_readDown_19 : decode cX4_readDown 19 = .ok (.aload_n 1, 1) := by decide +kernel
theorem dX4_readDown_20 : decode cX4_readDown 20 = .ok (.aload_n 0, 1) := by decide +kernel
theorem dX4_readDown_21 : decode cX4_readDown 21 = .ok (.getfield 51, 3) := by decide +kernel
theorem dX4_readDown_24 : decode cX4_readDown 24 = .ok (.putfield 134, 3) := by decide +kernel
theorem dX4_readDown_27 : decode cX4_readDown 27 = .ok (.iconst 1, 1) := by decide +kernel
theorem dX4_readDown_28 : decode cX4_readDown 28 = .ok (.ireturn, 1) := by decide +kernel
abbrev mX4_readDown : KM := (RX4, cX4_readDown, 2, (some .boolean), { frames := 4, cells := 0, slots := 0, locals := 85 }, 0, 0)
def fX4_readDown (q0 : Nat) (q1 : Nat) (σ : Sto) : Option (Bool × Sto) :=
  (fX4_needNumber q0 0 ((fX1_directions (q1 + 1) σ) - 1) σ).bind fun r1 =>
  if r1.1 = true then
    klet (su r1.2 q1 1 (r1.2 q0 7)) fun σ4 =>
    some (true, σ4)
  else
    some (false, r1.2)
set_option maxHeartbeats 4000000 in
set_option maxRecDepth 100000 in
theorem tX4_readDown (sh : KSh) (hw : KWf sh) (l : Launch) (hst : l.stackTraces = false) (q0 : Nat) (h0 : sh q0 = .inl 4) (q1 : Nat) (h1 : sh q1 = .inl 5) (σ : Sto) (r : (Bool × Sto)) (h : fX4_readDown q0 q1 σ = some r) : CT sh l mX4_readDown yX4_readDown [.ref q0, .ref q1] σ (0, .int (kb r.1), r.2) := by
  refine kct [(0, .ref q0), (1, .ref q1)] hst (by decide +kernel) rfl rfl (Nat.le_of_ble_eq_true rfl) ?_
  rw [fX4_readDown] at h
  refine kv_aload_n (pc := 0) 0 dX4_readDown_0 rfl rfl ?_
  refine kv_iconst (pc := 1) (v := 0) dX4_readDown_1 (by decide) ?_
  refine kv_aload_n (pc := 2) 1 dX4_readDown_2 rfl rfl ?_
  refine kv_getR (pc := 3) (q2 := q1 + 1) dX4_readDown_3 h1 rfl (i := 0) (by decide) rfl fl_X4_115 rfl rfl ?_
  refine kv_tV (pc := 6) (v := .int (fX1_directions (q1 + 1) σ)) [] (.int (fX1_directions (q1 + 1) σ) :: [.int 0, .ref q0]) 9 0 0 (tX1_directions sh hw l hst (q1 + 1) (show sh (q1 + 1) = _ from kso_5_1 hw h1) σ) dX4_readDown_6 rfl (show sh (q1 + 1) = _ from kso_5_1 hw h1) rfl yw_X1_directions lk_X4_131 (by decide) (Nat.le_of_ble_eq_true rfl) (by decide) rfl ⟨rfl, rfl, rfl⟩ ?_
  refine kv_iconst (pc := 9) (v := 1) dX4_readDown_9 (by decide) ?_
  refine kv_isub (pc := 10) dX4_readDown_10 ?_
  refine kv_cV (pc := 11) [.int 0, .int ((fX1_directions (q1 + 1) σ) - 1)] (fun r1 => (0, .int (kb r1.1), r1.2)) (fun r1 => (.int (kb r1.1) :: [])) (fun r1 => r1.2) 14 0 0 h (fun r1 g2 => tX4_needNumber sh hw l hst q0 h0 0 ((fX1_directions (q1 + 1) σ) - 1) σ r1 g2) dX4_readDown_11 rfl h0 rfl yw_X4_needNumber lk_X4_64 (by decide) (Nat.le_of_ble_eq_true rfl) (by decide) (fun _ => rfl) (fun _ => rfl) ⟨rfl, rfl, rfl⟩ (fun _ _ h0 => absurd rfl h0) (fun r1 g2 z3 h => ?_)
  refine kv_ifb_ne (pc := 14) (tgt := 19) dX4_readDown_14 (by decide) h (fun h => ?_) (fun h => ?_)
  · refine kv_aload_n (pc := 19) 1 dX4_readDown_19 rfl rfl ?_
    refine kv_aload_n (pc := 20) 0 dX4_readDown_20 rfl rfl ?_
    refine kv_getI (pc := 21) dX4_readDown_21 h0 rfl (i := 7) (by decide) rfl fl_X4_51 rfl ?_
    refine kv_put (pc := 24) tyX5 tyX5_ok nmX5 dX4_readDown_24 h1 rfl (i := 1) (by decide) rfl fl_X4_134 rfl rfl rfl rfl rfl ?_
    refine kv_let h (fun σ4 h => ?_)
    refine kv_iconst (pc := 27) (v := 1) dX4_readDown_27 (by decide) ?_
    exact kv_zret (pc := 28) dX4_readDown_28 rfl rfl (by cases h; rfl) (by decide) (by decide)
  · refine kv_iconst (pc := 17) (v := 0) dX4_readDown_17 (by decide) ?_
    exact kv_zret (pc := 18) dX4_readDown_18 rfl rfl (by cases h; rfl) (by decide) (by decide)
theorem yw_X4_readDown : KMV yX4_readDown mX4_readDown RX4 1 := ⟨⟨rfl, by decide +kernel, by decide +kernel, by decide +kernel⟩, ⟨rfl, rfl⟩, kg_in 506 (by decide +kernel) (by decide +kernel), kg_in 18 (by decide +kernel) (by decide +kernel), kg_in 52 (by decide +kernel) (by decide +kernel), kg_in 507 (by decide +kernel) (by decide +kernel)⟩
theorem dX4_readKeep_0 : decode cX4_readKeep 0 = .ok (.aload_n 0, 1) := by decide +kernel
theorem dX4_readKeep_1 : decode cX4_readKeep 1 = .ok (.iconst 1, 1) := by decide +kernel
theorem dX4_readKeep_2 : decode cX4_readKeep 2 = .ok (.bipush 100, 2) := by decide +kernel
theorem dX4_readKeep_4 : decode cX4_readKeep 4 = .ok (.invokevirtual 64, 3) := by decide +kernel
theorem dX4_readKeep_7 : decode cX4_readKeep 7 = .ok (.ifCond .ne 5, 3) := by decide +kernel
theorem dX4_readKeep_10 : decode cX4_readKeep 10 = .ok (.iconst 0, 1) := by decide +kernel
theorem dX4_readKeep_11 : decode cX4_readKeep 11 = .ok (.ireturn, 1) := by decide +kernel
theorem dX4_readKeep_12 : decode cX4_readKeep 12 = .ok (.aload_n 1, 1) := by decide +kernel
theorem dX4_readKeep_13 : decode cX4_readKeep 13 = .ok (.aload_n 0, 1) := by decide +kernel
theorem dX4_readKeep_14 : decode cX4_readKeep 14 = .ok (.getfield 51, 3) := by decide +kernel
theorem dX4_readKeep_17 : decode cX4_readKeep 17 = .ok (.putfield 136, 3) := by decide +kernel
theorem dX4_readKeep_20 : decode cX4_readKeep 20 = .ok (.iconst 1, 1) := by decide +kernel
theorem dX4_readKeep_21 : decode cX4_readKeep 21 = .ok (.ireturn, 1) := by decide +kernel
abbrev mX4_readKeep : KM := (RX4, cX4_readKeep, 2, (some .boolean), { frames := 4, cells := 0, slots := 0, locals := 85 }, 0, 0)
def fX4_readKeep (q0 : Nat) (q1 : Nat) (σ : Sto) : Option (Bool × Sto) :=
  (fX4_needNumber q0 1 100 σ).bind fun r1 =>
  if r1.1 = true then
    klet (su r1.2 q1 2 (r1.2 q0 7)) fun σ4 =>
    some (true, σ4)
  else
    some (false, r1.2)
set_option maxHeartbeats 4000000 in
set_option maxRecDepth 100000 in
theorem tX4_readKeep (sh : KSh) (hw : KWf sh) (l : Launch) (hst : l.stackTraces = false) (q0 : Nat) (h0 : sh q0 = .inl 4) (q1 : Nat) (h1 : sh q1 = .inl 5) (σ : Sto) (r : (Bool × Sto)) (h : fX4_readKeep q0 q1 σ = some r) : CT sh l mX4_readKeep yX4_readKeep [.ref q0, .ref q1] σ (0, .int (kb r.1), r.2) := by
  refine kct [(0, .ref q0), (1, .ref q1)] hst (by decide +kernel) rfl rfl (Nat.le_of_ble_eq_true rfl) ?_
  rw [fX4_readKeep] at h
  refine kv_aload_n (pc := 0) 0 dX4_readKeep_0 rfl rfl ?_
  refine kv_iconst (pc := 1) (v := 1) dX4_readKeep_1 (by decide) ?_
  refine kv_bipush (pc := 2) (v := 100) dX4_readKeep_2 (by decide) ?_
  refine kv_cV (pc := 4) [.int 1, .int 100] (fun r1 => (0, .int (kb r1.1), r1.2)) (fun r1 => (.int (kb r1.1) :: [])) (fun r1 => r1.2) 7 0 0 h (fun r1 g2 => tX4_needNumber sh hw l hst q0 h0 1 100 σ r1 g2) dX4_readKeep_4 rfl h0 rfl yw_X4_needNumber lk_X4_64 (by decide) (Nat.le_of_ble_eq_true rfl) (by decide) (fun _ => rfl) (fun _ => rfl) ⟨rfl, rfl, rfl⟩ (fun _ _ h0 => absurd rfl h0) (fun r1 g2 z3 h => ?_)
  refine kv_ifb_ne (pc := 7) (tgt := 12) dX4_readKeep_7 (by decide) h (fun h => ?_) (fun h => ?_)
  · refine kv_aload_n (pc := 12) 1 dX4_readKeep_12 rfl rfl ?_
    refine kv_aload_n (pc := 13) 0 dX4_readKeep_13 rfl rfl ?_
    refine kv_getI (pc := 14) dX4_readKeep_14 h0 rfl (i := 7) (by decide) rfl fl_X4_51 rfl ?_
    refine kv_put (pc := 17) tyX5 tyX5_ok nmX5 dX4_readKeep_17 h1 rfl (i := 2) (by decide) rfl fl_X4_136 rfl rfl rfl rfl rfl ?_
    refine kv_let h (fun σ4 h => ?_)
    refine kv_iconst (pc := 20) (v := 1) dX4_readKeep_20 (by decide) ?_
    exact kv_zret (pc := 21) dX4_readKeep_21 rfl rfl (by cases h; rfl) (by decide) (by decide)
  · refine kv_iconst (pc := 10) (v := 0) dX4_readKeep_10 (by decide) ?_
    exact kv_zret (pc := 11) dX4_readKeep_11 rfl rfl (by cases h; rfl) (by decide) (by decide)
theorem yw_X4_readKeep : KMV yX4_readKeep mX4_readKeep RX4 1 := ⟨⟨rfl, by decide +kernel, by decide +kernel, by decide +kernel⟩, ⟨rfl, rfl⟩, kg_in 515 (by decide +kernel) (by decide +kernel), kg_in 19 (by decide +kernel) (by decide +kernel), kg_in 52 (by decide +kernel) (by decide +kernel), kg_in 516 (by decide +kernel) (by decide +kernel)⟩
theorem dX4_readCover_0 : decode cX4_readCover 0 = .ok (.aload_n 0, 1) := by decide +kernel
theorem dX4_readCover_1 : decode cX4_readCover 1 = .ok (.iconst 0, 1) := by decide +kernel
theorem dX4_readCover_2 : decode cX4_readCover 2 = .ok (.aload_n 1, 1) := by decide +kernel
theorem dX4_readCover_3 : decode cX4_readCover 3 = .ok (.getfield 115, 3) := by decide +kernel
theorem dX4_readCover_6 : decode cX4_readCover 6 = .ok (.invokevirtual 138, 3) := by decide +kernel
theorem dX4_readCover_9 : decode cX4_readCover 9 = .ok (.iconst 1, 1) := by decide +kernel
theorem dX4_readCover_10 : decode cX4_readCover 10 = .ok (.isub, 1) := by decide +kernel
theorem dX4_readCover_11 : decode cX4_readCover 11 = .ok (.invokevirtual 64, 3) := by decide +kernel
theorem dX4_readCover_14 : decode cX4_readCover 14 = .ok (.ifCond .ne 5, 3) := by decide +kernel
theorem dX4_readCover_17 : decode cX4_readCover 17 = .ok (.iconst 0, 1) := by decide +kernel
theorem dX4_readCover_18 : decode cX4_readCover 18 = .ok (.ireturn, 1) := by decide +kernel
theorem dX4_readCover_19 : decode cX4_readCover 19 = .ok (.aload_n 1, 1) := by decide +kernel
theorem dX4_readCover_20 : decode cX4_readCover 20 = .ok (.aload_n 0, 1) := by decide +kernel
theorem dX4_readCover_21 : decode cX4_readCover 21 = .ok (.getfield 51, 3) := by decide +kernel
theorem dX4_readCover_24 : decode cX4_readCover 24 = .ok (.invokevirtual 141, 3) := by decide +kernel
theorem dX4_readCover_27 : decode cX4_readCover 27 = .ok (.ifCond .eq 9, 3) := by decide +kernel
theorem dX4_readCover_30 : decode cX4_readCover 30 = .ok (.aload_n 0, 1) := by decide +kernel
theorem dX4_readCover_31 : decode cX4_readCover 31 = .ok (.iconst 3, 1) := by decide +kernel
theorem dX4_readCover_32 : decode cX4_readCover 32 = .ok (.invokevirtual 59, 3) := by decide +kernel
theorem dX4_readCover_35 : decode cX4_readCover 35 = .ok (.ireturn, 1) := by decide +kernel
theorem dX4_readCover_36 : decode cX4_readCover 36 = .ok (.aload_n 1, 1) := by decide +kernel
theorem dX4_readCover_37 : decode cX4_readCover 37 = .ok (.aload_n 0, 1) := by decide +kernel
theorem dX4_readCover_38 : decode cX4_readCover 38 = .ok (.getfield 51, 3) := by decide +kernel
theorem dX4_readCover_41 : decode cX4_readCover 41 = .ok (.iconst 1, 1) := by decide +kernel
theorem dX4_readCover_42 : decode cX4_readCover 42 = .ok (.invokevirtual 144, 3) := by decide +kernel
theorem dX4_readCover_45 : decode cX4_readCover 45 = .ok (.iconst 1, 1) := by decide +kernel
theorem dX4_readCover_46 : decode cX4_readCover 46 = .ok (.ireturn, 1) := by decide +kernel
abbrev mX4_readCover : KM := (RX4, cX4_readCover, 2, (some .boolean), { frames := 4, cells := 0, slots := 0, locals := 85 }, 0, 0)
def fX4_readCover (q0 : Nat) (q1 : Nat) (σ : Sto) : Option (Bool × Sto) :=
  (fX4_needNumber q0 0 ((fX1_mirrors (q1 + 1) σ) - 1) σ).bind fun r1 =>
  if r1.1 = true then
    if (fX5_isCovered q1 (r1.2 q0 7) r1.2) = true then
      (some (fX4_isWrong q0 3 r1.2)).bind fun r7 =>
      some (r7.1, r7.2)
    else
      (some (fX5_setCovered q1 (r1.2 q0 7) 1 r1.2)).bind fun r4 =>
      some (true, r4)
  else
    some (false, r1.2)
set_option maxHeartbeats 4000000 in
set_option maxRecDepth 100000 in
theorem tX4_readCover (sh : KSh) (hw : KWf sh) (l : Launch) (hst : l.stackTraces = false) (q0 : Nat) (h0 : sh q0 = .inl 4) (q1 : Nat) (h1 : sh q1 = .inl 5) (σ : Sto) (r : (Bool × Sto)) (h : fX4_readCover q0 q1 σ = some r) : CT sh l mX4_readCover yX4_readCover [.ref q0, .ref q1] σ (0, .int (kb r.1), r.2) := by
  refine kct [(0, .ref q0), (1, .ref q1)] hst (by decide +kernel) rfl rfl (Nat.le_of_ble_eq_true rfl) ?_
  rw [fX4_readCover] at h
  refine kv_aload_n (pc := 0) 0 dX4_readCover_0 rfl rfl ?_
  refine kv_iconst (pc := 1) (v := 0) dX4_readCover_1 (by decide) ?_
  refine kv_aload_n (pc := 2) 1 dX4_readCover_2 rfl rfl ?_
  refine kv_getR (pc := 3) (q2 := q1 + 1) dX4_readCover_3 h1 rfl (i := 0) (by decide) rfl fl_X4_115 rfl rfl ?_
  refine kv_tV (pc := 6) (v := .int (fX1_mirrors (q1 + 1) σ)) [] (.int (fX1_mirrors (q1 + 1) σ) :: [.int 0, .ref q0]) 9 0 0 (tX1_mirrors sh hw l hst (q1 + 1) (show sh (q1 + 1) = _ from kso_5_1 hw h1) σ) dX4_readCover_6 rfl (show sh (q1 + 1) = _ from kso_5_1 hw h1) rfl yw_X1_mirrors lk_X4_138 (by decide) (Nat.le_of_ble_eq_true rfl) (by decide) rfl ⟨rfl, rfl, rfl⟩ ?_
  refine kv_iconst (pc := 9) (v := 1) dX4_readCover_9 (by decide) ?_
  refine kv_isub (pc := 10) dX4_readCover_10 ?_
  refine kv_cV (pc := 11) [.int 0, .int ((fX1_mirrors (q1 + 1) σ) - 1)] (fun r1 => (0, .int (kb r1.1), r1.2)) (fun r1 => (.int (kb r1.1) :: [])) (fun r1 => r1.2) 14 0 0 h (fun r1 g2 => tX4_needNumber sh hw l hst q0 h0 0 ((fX1_mirrors (q1 + 1) σ) - 1) σ r1 g2) dX4_readCover_11 rfl h0 rfl yw_X4_needNumber lk_X4_64 (by decide) (Nat.le_of_ble_eq_true rfl) (by decide) (fun _ => rfl) (fun _ => rfl) ⟨rfl, rfl, rfl⟩ (fun _ _ h0 => absurd rfl h0) (fun r1 g2 z3 h => ?_)
  refine kv_ifb_ne (pc := 14) (tgt := 19) dX4_readCover_14 (by decide) h (fun h => ?_) (fun h => ?_)
  · refine kv_aload_n (pc := 19) 1 dX4_readCover_19 rfl rfl ?_
    refine kv_aload_n (pc := 20) 0 dX4_readCover_20 rfl rfl ?_
    refine kv_getI (pc := 21) dX4_readCover_21 h0 rfl (i := 7) (by decide) rfl fl_X4_51 rfl ?_
    refine kv_tV (pc := 24) (v := .int (kb (fX5_isCovered q1 (r1.2 q0 7) r1.2))) [.int (r1.2 q0 7)] (.int (kb (fX5_isCovered q1 (r1.2 q0 7) r1.2)) :: []) 27 0 0 (tX5_isCovered sh hw l hst q1 h1 (r1.2 q0 7) r1.2) dX4_readCover_24 rfl h1 rfl yw_X5_isCovered lk_X4_141 (by decide) (Nat.le_of_ble_eq_true rfl) (by decide) rfl ⟨rfl, rfl, rfl⟩ ?_
    refine kv_ifb_eq (pc := 27) (tgt := 36) dX4_readCover_27 (by decide) h (fun h => ?_) (fun h => ?_)
    · refine kv_aload_n (pc := 36) 1 dX4_readCover_36 rfl rfl ?_
      refine kv_aload_n (pc := 37) 0 dX4_readCover_37 rfl rfl ?_
      refine kv_getI (pc := 38) dX4_readCover_38 h0 rfl (i := 7) (by decide) rfl fl_X4_51 rfl ?_
      refine kv_iconst (pc := 41) (v := 1) dX4_readCover_41 (by decide) ?_
      refine kv_cV (pc := 42) [.int (r1.2 q0 7), .int 1] (fun r4 => (0, .int 0, r4)) (fun r4 => []) (fun r4 => r4) 45 0 0 h (fun r4 g5 => by cases g5; exact tX5_setCovered sh hw l hst q1 h1 (r1.2 q0 7) 1 r1.2) dX4_readCover_42 rfl h1 rfl yw_X5_setCovered lk_X4_144 (by decide) (Nat.le_of_ble_eq_true rfl) (by decide) (fun _ => rfl) (fun _ => rfl) ⟨rfl, rfl, rfl⟩ (fun _ _ h0 => absurd rfl h0) (fun r4 g5 z6 h => ?_)
      refine kv_iconst (pc := 45) (v := 1) dX4_readCover_45 (by decide) ?_
      exact kv_zret (pc := 46) dX4_readCover_46 rfl rfl (by cases h; rfl) (by decide) (by decide)
    · refine kv_aload_n (pc := 30) 0 dX4_readCover_30 rfl rfl ?_
      refine kv_iconst (pc := 31) (v := 3) dX4_readCover_31 (by decide) ?_
      refine kv_cV (pc := 32) [.int 3] (fun r7 => (0, .int (kb r7.1), r7.2)) (fun r7 => (.int (kb r7.1) :: [])) (fun r7 => r7.2) 35 0 0 h (fun r7 g8 => by cases g8; exact tX4_isWrong sh hw l hst q0 h0 3 r1.2) dX4_readCover_32 rfl h0 rfl yw_X4_isWrong lk_X4_59 (by decide) (Nat.le_of_ble_eq_true rfl) (by decide) (fun _ => rfl) (fun _ => rfl) ⟨rfl, rfl, rfl⟩ (fun _ _ h0 => absurd rfl h0) (fun r7 g8 z9 h => ?_)
      exact kv_zret (pc := 35) dX4_readCover_35 rfl (kb_n _) (by cases h; rfl) (by decide) (by decide)
  · refine kv_iconst (pc := 17) (v := 0) dX4_readCover_17 (by decide) ?_
    exact kv_zret (pc := 18) dX4_readCover_18 rfl rfl (by cases h; rfl) (by decide) (by decide)
theorem yw_X4_readCover : KMV yX4_readCover mX4_readCover RX4 1 := ⟨⟨rfl, by decide +kernel, by decide +kernel, by decide +kernel⟩, ⟨rfl, rfl⟩, kg_in 520 (by decide +kernel) (by decide +kernel), kg_in 20 (by decide +kernel) (by decide +kernel), kg_in 52 (by decide +kernel) (by decide +kernel), kg_in 521 (by decide +kernel) (by decide +kernel)⟩
theorem dX4_readStatement_0 : decode cX4_readStatement 0 = .ok (.aload_n 0, 1) := by decide +kernel
theorem dX4_readStatement_1 : decode cX4_readStatement 1 = .ok (.invokevirtual 74, 3) := by decide +kernel
theorem dX4_readStatement_4 : decode cX4_readStatement 4 = .ok (.istore_n 2, 1) := by decide +kernel
theorem dX4_readStatement_5 : decode cX4_readStatement 5 = .ok (.iload_n 2, 1) := by decide +kernel
theorem dX4_readStatement_6 : decode cX4_readStatement 6 = .ok (.iconst (-1), 1) := by decide +kernel
theorem dX4_readStatement_7 : decode cX4_readStatement 7 = .ok (.if_icmp .eq 10, 3) := by decide +kernel
theorem dX4_readStatement_10 : decode cX4_readStatement 10 = .ok (.aload_n 0, 1) := by decide +kernel
theorem dX4_readStatement_11 : decode cX4_readStatement 11 = .ok (.aload_n 1, 1) := by decide +kernel
theorem dX4_readStatement_12 : decode cX4_readStatement 12 = .ok (.iload_n 2, 1) := by decide +kernel
theorem dX4_readStatement_13 : decode cX4_readStatement 13 = .ok (.invokevirtual 78, 3) := by decide +kernel
theorem dX4_readStatement_16 : decode cX4_readStatement 16 = .ok (.ireturn, 1) := by decide +kernel
theorem dX4_readStatement_17 : decode cX4_readStatement 17 = .ok (.aload_n 0, 1) := by decide +kernel
theorem dX4_readStatement_18 : decode cX4_readStatement 18 = .ok (.ldc 82, 2) := by decide +kernel
theorem dX4_readStatement_20 : decode cX4_readStatement 20 = .ok (.invokevirtual 84, 3) := by decide +kernel
theorem dX4_readStatement_23 : decode cX4_readStatement 23 = .ok (.ifCond .eq 9, 3) := by decide +kernel
theorem dX4_readStatement_26 : decode cX4_readStatement 26 = .ok (.aload_n 0, 1) := by decide +kernel
theorem dX4_readStatement_27 : decode cX4_readStatement 27 = .ok (.aload_n 1, 1) := by decide +kernel
theorem dX4_readStatement_28 : decode cX4_readStatement 28 = .ok (.invokevirtual 87, 3) := by decide +kernel
theorem dX4_readStatement_31 : decode cX4_readStatement 31 = .ok (.ireturn, 1) := by decide +kernel
theorem dX4_readStatement_32 : decode cX4_readStatement 32 = .ok (.aload_n 0, 1) := by decide +kernel
theorem dX4_readStatement_33 : decode cX4_readStatement 33 = .ok (.ldc 90, 2) := by decide +kernel
theorem dX4_readStatement_35 : decode cX4_readStatement 35 = .ok (.invokevirtual 84, 3) := by decide +kernel
theorem dX4_readStatement_38 : decode cX4_readStatement 38 = .ok (.ifCond .eq 9, 3) := by decide +kernel
theorem dX4_readStatement_41 : decode cX4_readStatement 41 = .ok (.aload_n 0, 1) := by decide +kernel
theorem dX4_readStatement_42 : decode cX4_readStatement 42 = .ok (.aload_n 1, 1) := by decide +kernel
theorem dX4_readStatement_43 : decode cX4_readStatement 43 = .ok (.invokevirtual 92, 3) := by decide +kernel
theorem dX4_readStatement_46 : decode cX4_readStatement 46 = .ok (.ireturn, 1) := by decide +kernel
theorem dX4_readStatement_47 : decode cX4_readStatement 47 = .ok (.aload_n 0, 1) := by decide +kernel
theorem dX4_readStatement_48 : decode cX4_readStatement 48 = .ok (.ldc 95, 2) := by decide +kernel
theorem dX4_readStatement_50 : decode cX4_readStatement 50 = .ok (.invokevirtual 84, 3) := by decide +kernel
theorem dX4_readStatement_53 : decode cX4_readStatement 53 = .ok (.ifCond .eq 9, 3) := by decide +kernel
theorem dX4_readStatement_56 : decode cX4_readStatement 56 = .ok (.aload_n 0, 1) := by decide +kernel
theorem dX4_readStatement_57 : decode cX4_readStatement 57 = .ok (.aload_n 1, 1) := by decide +kernel
theorem dX4_readStatement_58 : decode cX4_readStatement 58 = .ok (.invokevirtual 97, 3) := by decide +kernel
theorem dX4_readStatement_61 : decode cX4_readStatement 61 = .ok (.ireturn, 1) := by decide +kernel
theorem dX4_readStatement_62 : decode cX4_readStatement 62 = .ok (.aload_n 0, 1) := by decide +kernel
theorem dX4_readStatement_63 : decode cX4_readStatement 63 = .ok (.iconst 1, 1) := by decide +kernel
theorem dX4_readStatement_64 : decode cX4_readStatement 64 = .ok (.invokevirtual 59, 3) := by decide +kernel
theorem dX4_readStatement_67 : decode cX4_readStatement 67 = .ok (.ireturn, 1) := by decide +kernel
abbrev mX4_readStatement : KM := (RX4, cX4_readStatement, 3, (some .boolean), { frames := 6, cells := 0, slots := 0, locals := 127 }, 0, 0)
def fX4_readStatement (q0 : Nat) (q1 : Nat) (σ : Sto) : Option (Bool × Sto) :=
  (fX4_kindByWord q0 σ).bind fun r1 =>
  if r1 = (-1) then
    (fX4_isWord q0 6 σ).bind fun r4 =>
    if r4 = true then
      (fX4_readDown q0 q1 σ).bind fun r22 =>
      some (r22.1, r22.2)
    else
      (fX4_isWord q0 7 σ).bind fun r7 =>
      if r7 = true then
        (fX4_readKeep q0 q1 σ).bind fun r19 =>
        some (r19.1, r19.2)
      else
        (fX4_isWord q0 8 σ).bind fun r10 =>
        if r10 = true then
          (fX4_readCover q0 q1 σ).bind fun r16 =>
          some (r16.1, r16.2)
        else
          (some (fX4_isWrong q0 1 σ)).bind fun r13 =>
          some (r13.1, r13.2)
  else
    (fX4_readChip q0 q1 r1 σ).bind fun r25 =>
    some (r25.1, r25.2)
set_option maxHeartbeats 4000000 in
set_option maxRecDepth 100000 in
theorem tX4_readStatement (sh : KSh) (hw : KWf sh) (l : Launch) (hst : l.stackTraces = false) (q0 : Nat) (h0 : sh q0 = .inl 4) (q1 : Nat) (h1 : sh q1 = .inl 5) (σ : Sto) (r : (Bool × Sto)) (h : fX4_readStatement q0 q1 σ = some r) : CT sh l mX4_readStatement yX4_readStatement [.ref q0, .ref q1] σ (0, .int (kb r.1), r.2) := by
  refine kct [(0, .ref q0), (1, .ref q1)] hst (by decide +kernel) rfl rfl (Nat.le_of_ble_eq_true rfl) ?_
  rw [fX4_readStatement] at h
  refine kv_aload_n (pc := 0) 0 dX4_readStatement_0 rfl rfl ?_
  refine kv_cV (pc := 1) [] (fun r1 => (0, .int r1, σ)) (fun r1 => (.int r1 :: [])) (fun r1 => σ) 4 0 0 h (fun r1 g2 => tX4_kindByWord sh hw l hst q0 h0 σ r1 g2) dX4_readStatement_1 rfl h0 rfl yw_X4_kindByWord lk_X4_74 (by decide) (Nat.le_of_ble_eq_true rfl) (by decide) (fun _ => rfl) (fun _ => rfl) ⟨rfl, rfl, rfl⟩ (fun _ _ h0 => absurd rfl h0) (fun r1 g2 z3 h => ?_)
  refine kv_istore_n (pc := 4) [(2, .int r1), (0, .ref q0), (1, .ref q1)] dX4_readStatement_4 rfl (by decide) rfl ?_
  refine kv_iload_n (pc := 5) 0 dX4_readStatement_5 rfl rfl ?_
  refine kv_iconst (pc := 6) (v := (-1)) dX4_readStatement_6 (by decide) ?_
  refine kv_icmp_eq (pc := 7) (tgt := 17) dX4_readStatement_7 (by decide) h (fun h => ?_) (fun h => ?_)
  · refine kv_aload_n (pc := 17) 1 dX4_readStatement_17 rfl rfl ?_
    refine kv_ldcs (pc := 18) 6 (tx := "down") rfl dX4_readStatement_18 ?_
    refine kv_cV (pc := 20) [.ref (2000 + 6)] (fun r4 => (0, .int (kb r4), σ)) (fun r4 => (.int (kb r4) :: [])) (fun r4 => σ) 23 0 0 h (fun r4 g5 => tX4_isWord sh hw l hst q0 h0 6 (by decide) σ r4 g5) dX4_readStatement_20 rfl h0 rfl yw_X4_isWord lk_X4_84 (by decide) (Nat.le_of_ble_eq_true rfl) (by decide) (fun _ => rfl) (fun _ => rfl) ⟨rfl, rfl, rfl⟩ (fun _ _ h0 => absurd rfl h0) (fun r4 g5 z6 h => ?_)
    refine kv_ifb_eq (pc := 23) (tgt := 32) dX4_readStatement_23 (by decide) h (fun h => ?_) (fun h => ?_)
    · refine kv_aload_n (pc := 32) 1 dX4_readStatement_32 rfl rfl ?_
      refine kv_ldcs (pc := 33) 7 (tx := "keep") rfl dX4_readStatement_33 ?_
      refine kv_cV (pc := 35) [.ref (2000 + 7)] (fun r7 => (0, .int (kb r7), σ)) (fun r7 => (.int (kb r7) :: [])) (fun r7 => σ) 38 0 0 h (fun r7 g8 => tX4_isWord sh hw l hst q0 h0 7 (by decide) σ r7 g8) dX4_readStatement_35 rfl h0 rfl yw_X4_isWord lk_X4_84 (by decide) (Nat.le_of_ble_eq_true rfl) (by decide) (fun _ => rfl) (fun _ => rfl) ⟨rfl, rfl, rfl⟩ (fun _ _ h0 => absurd rfl h0) (fun r7 g8 z9 h => ?_)
      refine kv_ifb_eq (pc := 38) (tgt := 47) dX4_readStatement_38 (by decide) h (fun h => ?_) (fun h => ?_)
      · refine kv_aload_n (pc := 47) 1 dX4_readStatement_47 rfl rfl ?_
        refine kv_ldcs (pc := 48) 8 (tx := "cover") rfl dX4_readStatement_48 ?_
        refine kv_cV (pc := 50) [.ref (2000 + 8)] (fun r10 => (0, .int (kb r10), σ)) (fun r10 => (.int (kb r10) :: [])) (fun r10 => σ) 53 0 0 h (fun r10 g11 => tX4_isWord sh hw l hst q0 h0 8 (by decide) σ r10 g11) dX4_readStatement_50 rfl h0 rfl yw_X4_isWord lk_X4_84 (by decide) (Nat.le_of_ble_eq_true rfl) (by decide) (fun _ => rfl) (fun _ => rfl) ⟨rfl, rfl, rfl⟩ (fun _ _ h0 => absurd rfl h0) (fun r10 g11 z12 h => ?_)
        refine kv_ifb_eq (pc := 53) (tgt := 62) dX4_readStatement_53 (by decide) h (fun h => ?_) (fun h => ?_)
        · refine kv_aload_n (pc := 62) 1 dX4_readStatement_62 rfl rfl ?_
          refine kv_iconst (pc := 63) (v := 1) dX4_readStatement_63 (by decide) ?_
          refine kv_cV (pc := 64) [.int 1] (fun r13 => (0, .int (kb r13.1), r13.2)) (fun r13 => (.int (kb r13.1) :: [])) (fun r13 => r13.2) 67 0 0 h (fun r13 g14 => by cases g14; exact tX4_isWrong sh hw l hst q0 h0 1 σ) dX4_readStatement_64 rfl h0 rfl yw_X4_isWrong lk_X4_59 (by decide) (Nat.le_of_ble_eq_true rfl) (by decide) (fun _ => rfl) (fun _ => rfl) ⟨rfl, rfl, rfl⟩ (fun _ _ h0 => absurd rfl h0) (fun r13 g14 z15 h => ?_)
          exact kv_zret (pc := 67) dX4_readStatement_67 rfl (kb_n _) (by cases h; rfl) (by decide) (by decide)
        · refine kv_aload_n (pc := 56) 1 dX4_readStatement_56 rfl rfl ?_
          refine kv_aload_n (pc := 57) 2 dX4_readStatement_57 rfl rfl ?_
          refine kv_cV (pc := 58) [.ref q1] (fun r16 => (0, .int (kb r16.1), r16.2)) (fun r16 => (.int (kb r16.1) :: [])) (fun r16 => r16.2) 61 0 0 h (fun r16 g17 => tX4_readCover sh hw l hst q0 h0 q1 h1 σ r16 g17) dX4_readStatement_58 rfl h0 rfl yw_X4_readCover lk_X4_97 (by decide) (Nat.le_of_ble_eq_true rfl) (by decide) (fun _ => rfl) (fun _ => rfl) ⟨rfl, rfl, rfl⟩ (fun _ _ h0 => absurd rfl h0) (fun r16 g17 z18 h => ?_)
          exact kv_zret (pc := 61) dX4_readStatement_61 rfl (kb_n _) (by cases h; rfl) (by decide) (by decide)
      · refine kv_aload_n (pc := 41) 1 dX4_readStatement_41 rfl rfl ?_
        refine kv_aload_n (pc := 42) 2 dX4_readStatement_42 rfl rfl ?_
        refine kv_cV (pc := 43) [.ref q1] (fun r19 => (0, .int (kb r19.1), r19.2)) (fun r19 => (.int (kb r19.1) :: [])) (fun r19 => r19.2) 46 0 0 h (fun r19 g20 => tX4_readKeep sh hw l hst q0 h0 q1 h1 σ r19 g20) dX4_readStatement_43 rfl h0 rfl yw_X4_readKeep lk_X4_92 (by decide) (Nat.le_of_ble_eq_true rfl) (by decide) (fun _ => rfl) (fun _ => rfl) ⟨rfl, rfl, rfl⟩ (fun _ _ h0 => absurd rfl h0) (fun r19 g20 z21 h => ?_)
        exact kv_zret (pc := 46) dX4_readStatement_46 rfl (kb_n _) (by cases h; rfl) (by decide) (by decide)
    · refine kv_aload_n (pc := 26) 1 dX4_readStatement_26 rfl rfl ?_
      refine kv_aload_n (pc := 27) 2 dX4_readStatement_27 rfl rfl ?_
      refine kv_cV (pc := 28) [.ref q1] (fun r22 => (0, .int (kb r22.1), r22.2)) (fun r22 => (.int (kb r22.1) :: [])) (fun r22 => r22.2) 31 0 0 h (fun r22 g23 => tX4_readDown sh hw l hst q0 h0 q1 h1 σ r22 g23) dX4_readStatement_28 rfl h0 rfl yw_X4_readDown lk_X4_87 (by decide) (Nat.le_of_ble_eq_true rfl) (by decide) (fun _ => rfl) (fun _ => rfl) ⟨rfl, rfl, rfl⟩ (fun _ _ h0 => absurd rfl h0) (fun r22 g23 z24 h => ?_)
      exact kv_zret (pc := 31) dX4_readStatement_31 rfl (kb_n _) (by cases h; rfl) (by decide) (by decide)
  · refine kv_aload_n (pc := 10) 1 dX4_readStatement_10 rfl rfl ?_
    refine kv_aload_n (pc := 11) 2 dX4_readStatement_11 rfl rfl ?_
    refine kv_iload_n (pc := 12) 0 dX4_readStatement_12 rfl rfl ?_
    refine kv_cV (pc := 13) [.ref q1, .int r1] (fun r25 => (0, .int (kb r25.1), r25.2)) (fun r25 => (.int (kb r25.1) :: [])) (fun r25 => r25.2) 16 0 0 h (fun r25 g26 => tX4_readChip sh hw l hst q0 h0 q1 h1 r1 σ r25 g26) dX4_readStatement_13 rfl h0 rfl yw_X4_readChip lk_X4_78 (by decide) (Nat.le_of_ble_eq_true rfl) (by decide) (fun _ => rfl) (fun _ => rfl) ⟨rfl, rfl, rfl⟩ (fun _ _ h0 => absurd rfl h0) (fun r25 g26 z27 h => ?_)
    exact kv_zret (pc := 16) dX4_readStatement_16 rfl (kb_n _) (by cases h; rfl) (by decide) (by decide)
theorem yw_X4_readStatement : KMV yX4_readStatement mX4_readStatement RX4 1 := ⟨⟨rfl, by decide +kernel, by decide +kernel, by decide +kernel⟩, ⟨rfl, rfl⟩, kg_in 443 (by decide +kernel) (by decide +kernel), kg_in 11 (by decide +kernel) (by decide +kernel), kg_in 52 (by decide +kernel) (by decide +kernel), kg_in 444 (by decide +kernel) (by decide +kernel)⟩
theorem dX4_read_0 : decode cX4_read 0 = .ok (.aload_n 0, 1) := by decide +kernel
theorem dX4_read_1 : decode cX4_read 1 = .ok (.iconst 0, 1) := by decide +kernel
theorem dX4_read_2 : decode cX4_read 2 = .ok (.putfield 22, 3) := by decide +kernel
theorem dX4_read_5 : decode cX4_read 5 = .ok (.aload_n 0, 1) := by decide +kernel
theorem dX4_read_6 : decode cX4_read 6 = .ok (.iconst (-1), 1) := by decide +kernel
theorem dX4_read_7 : decode cX4_read 7 = .ok (.putfield 15, 3) := by decide +kernel
theorem dX4_read_10 : decode cX4_read 10 = .ok (.aload_n 0, 1) := by decide +kernel
theorem dX4_read_11 : decode cX4_read 11 = .ok (.iconst 0, 1) := by decide +kernel
theorem dX4_read_12 : decode cX4_read 12 = .ok (.putfield 25, 3) := by decide +kernel
theorem dX4_read_15 : decode cX4_read 15 = .ok (.aload_n 0, 1) := by decide +kernel
theorem dX4_read_16 : decode cX4_read 16 = .ok (.aload_n 1, 1) := by decide +kernel
theorem dX4_read_17 : decode cX4_read 17 = .ok (.invokevirtual 28, 3) := by decide +kernel
theorem dX4_read_20 : decode cX4_read 20 = .ok (.ifCond .ne 5, 3) := by decide +kernel
theorem dX4_read_23 : decode cX4_read 23 = .ok (.iconst 0, 1) := by decide +kernel
theorem dX4_read_24 : decode cX4_read 24 = .ok (.ireturn, 1) := by decide +kernel
theorem dX4_read_25 : decode cX4_read 25 = .ok (.iconst 0, 1) := by decide +kernel
theorem dX4_read_26 : decode cX4_read 26 = .ok (.istore_n 2, 1) := by decide +kernel
theorem dX4_read_27 : decode cX4_read 27 = .ok (.iload_n 2, 1) := by decide +kernel
theorem dX4_read_28 : decode cX4_read 28 = .ok (.aload_n 0, 1) := by decide +kernel
theorem dX4_read_29 : decode cX4_read 29 = .ok (.getfield 19, 3) := by decide +kernel
theorem dX4_read_32 : decode cX4_read 32 = .ok (.if_icmp .gt 40, 3) := by decide +kernel
theorem dX4_read_35 : decode cX4_read 35 = .ok (.aload_n 0, 1) := by decide +kernel
theorem dX4_read_36 : decode cX4_read 36 = .ok (.invokevirtual 32, 3) := by decide +kernel
theorem dX4_read_39 : decode cX4_read 39 = .ok (.aload_n 0, 1) := by decide +kernel
theorem dX4_read_40 : decode cX4_read 40 = .ok (.getfield 35, 3) := by decide +kernel
theorem dX4_read_43 : decode cX4_read 43 = .ok (.ifCond .ne 5, 3) := by decide +kernel
theorem dX4_read_46 : decode cX4_read 46 = .ok (.iconst 1, 1) := by decide +kernel
theorem dX4_read_47 : decode cX4_read 47 = .ok (.ireturn, 1) := by decide +kernel
theorem dX4_read_48 : decode cX4_read 48 = .ok (.aload_n 0, 1) := by decide +kernel
theorem dX4_read_49 : decode cX4_read 49 = .ok (.aload_n 1, 1) := by decide +kernel
theorem dX4_read_50 : decode cX4_read 50 = .ok (.invokevirtual 38, 3) := by decide +kernel
theorem dX4_read_53 : decode cX4_read 53 = .ok (.ifCond .eq 11, 3) := by decide +kernel
theorem dX4_read_56 : decode cX4_read 56 = .ok (.aload_n 0, 1) := by decide +kernel
theorem dX4_read_57 : decode cX4_read 57 = .ok (.iconst 4, 1) := by decide +kernel
theorem dX4_read_58 : decode cX4_read 58 = .ok (.invokevirtual 41, 3) := by decide +kernel
theorem dX4_read_61 : decode cX4_read 61 = .ok (.ifCond .ne 5, 3) := by decide +kernel
theorem dX4_read_64 : decode cX4_read 64 = .ok (.iconst 0, 1) := by decide +kernel
theorem dX4_read_65 : decode cX4_read 65 = .ok (.ireturn, 1) := by decide +kernel
theorem dX4_read_66 : decode cX4_read 66 = .ok (.iinc 2 1, 3) := by decide +kernel
theorem dX4_read_69 : decode cX4_read 69 = .ok (.goto (-42), 3) := by decide +kernel
theorem dX4_read_72 : decode cX4_read 72 = .ok (.iconst 0, 1) := by decide +kernel
theorem dX4_read_73 : decode cX4_read 73 = .ok (.ireturn, 1) := by decide +kernel
abbrev mX4_read : KM := (RX4, cX4_read, 3, (some .boolean), { frames := 7, cells := 0, slots := 0, locals := 150 }, 0, 0)
def fX4_read_L27 (q0 : Nat) (q1 : Nat) : Nat → Int32 → Sto → Option (Bool × Sto)
  | 0, _, _ => none
  | fu + 1, v2, σ =>
    if (σ q0 1) < v2 then
      some (false, σ)
    else
      (fX4_nextToken q0 σ).bind fun r7 =>
      if (r7 q0 4) = 0 then
        some (true, r7)
      else
        (fX4_readStatement q0 q1 r7).bind fun r10 =>
        if r10.1 = true then
          (fX4_needToken q0 4 r10.2).bind fun r13 =>
          if r13.1 = true then
            fX4_read_L27 q0 q1 fu (v2 + 1) r13.2
          else
            some (false, r13.2)
        else
          some (false, r10.2)
def fX4_read (q0 : Nat) (q1 : Nat) (σ : Sto) : Option (Bool × Sto) :=
  klet (su σ q0 2 0) fun σ1 =>
  klet (su σ1 q0 3 (-1)) fun σ2 =>
  klet (su σ2 q0 6 0) fun σ3 =>
  (fX4_readHead q0 q1 σ3).bind fun r4 =>
  if r4.1 = true then
    fX4_read_L27 q0 q1 kFU 0 r4.2
  else
    some (false, r4.2)
set_option maxHeartbeats 4000000 in
set_option maxRecDepth 100000 in
theorem wX4_read_L27 (sh : KSh) (hw : KWf sh) (l : Launch) (hst : l.stackTraces = false) (q0 : Nat) (h0 : sh q0 = .inl 4) (q1 : Nat) (h1 : sh q1 = .inl 5) : ∀ (fu : Nat), ∀ (v2 : Int32), ∀ (σ : Sto), ∀ (r : (Bool × Sto)), fX4_read_L27 q0 q1 fu v2 σ = some r → VV sh l mX4_read 0 0 27 [(0, .ref q0), (1, .ref q1), (2, .int v2)] [] σ (0, .int (kb r.1), r.2) := by
  intro fu
  induction fu with
  | zero => intro v2 σ r h; rw [fX4_read_L27] at h; cases h
  | succ fu ih =>
    intro v2 σ r h
    rw [fX4_read_L27] at h
    refine kv_iload_n (pc := 27) 2 dX4_read_27 rfl rfl ?_
    refine kv_aload_n (pc := 28) 0 dX4_read_28 rfl rfl ?_
    refine kv_getI (pc := 29) dX4_read_29 h0 rfl (i := 1) (by decide) rfl fl_X4_19 rfl ?_
    refine kv_icmp_gt (pc := 32) (tgt := 72) dX4_read_32 (by decide) h (fun h => ?_) (fun h => ?_)
    · refine kv_iconst (pc := 72) (v := 0) dX4_read_72 (by decide) ?_
      exact kv_zret (pc := 73) dX4_read_73 rfl rfl (by cases h; rfl) (by decide) (by decide)
    · refine kv_aload_n (pc := 35) 0 dX4_read_35 rfl rfl ?_
      refine kv_cV (pc := 36) [] (fun r7 => (0, .int 0, r7)) (fun r7 => []) (fun r7 => r7) 39 0 0 h (fun r7 g8 => tX4_nextToken sh hw l hst q0 h0 σ r7 g8) dX4_read_36 rfl h0 rfl yw_X4_nextToken lk_X4_32 (by decide) (Nat.le_of_ble_eq_true rfl) (by decide) (fun _ => rfl) (fun _ => rfl) ⟨rfl, rfl, rfl⟩ (fun _ _ h0 => absurd rfl h0) (fun r7 g8 z9 h => ?_)
      refine kv_aload_n (pc := 39) 0 dX4_read_39 rfl rfl ?_
      refine kv_getI (pc := 40) dX4_read_40 h0 rfl (i := 4) (by decide) rfl fl_X4_35 rfl ?_
      refine kv_if_ne (pc := 43) (tgt := 48) dX4_read_43 (by decide) h (fun h => ?_) (fun h => ?_)
      · refine kv_aload_n (pc := 48) 0 dX4_read_48 rfl rfl ?_
        refine kv_aload_n (pc := 49) 1 dX4_read_49 rfl rfl ?_
        refine kv_cV (pc := 50) [.ref q1] (fun r10 => (0, .int (kb r10.1), r10.2)) (fun r10 => (.int (kb r10.1) :: [])) (fun r10 => r10.2) 53 0 0 h (fun r10 g11 => tX4_readStatement sh hw l hst q0 h0 q1 h1 r7 r10 g11) dX4_read_50 rfl h0 rfl yw_X4_readStatement lk_X4_38 (by decide) (Nat.le_of_ble_eq_true rfl) (by decide) (fun _ => rfl) (fun _ => rfl) ⟨rfl, rfl, rfl⟩ (fun _ _ h0 => absurd rfl h0) (fun r10 g11 z12 h => ?_)
        refine kv_ifb_eq (pc := 53) (tgt := 64) dX4_read_53 (by decide) h (fun h => ?_) (fun h => ?_)
        · refine kv_iconst (pc := 64) (v := 0) dX4_read_64 (by decide) ?_
          exact kv_zret (pc := 65) dX4_read_65 rfl rfl (by cases h; rfl) (by decide) (by decide)
        · refine kv_aload_n (pc := 56) 0 dX4_read_56 rfl rfl ?_
          refine kv_iconst (pc := 57) (v := 4) dX4_read_57 (by decide) ?_
          refine kv_cV (pc := 58) [.int 4] (fun r13 => (0, .int (kb r13.1), r13.2)) (fun r13 => (.int (kb r13.1) :: [])) (fun r13 => r13.2) 61 0 0 h (fun r13 g14 => tX4_needToken sh hw l hst q0 h0 4 r10.2 r13 g14) dX4_read_58 rfl h0 rfl yw_X4_needToken lk_X4_41 (by decide) (Nat.le_of_ble_eq_true rfl) (by decide) (fun _ => rfl) (fun _ => rfl) ⟨rfl, rfl, rfl⟩ (fun _ _ h0 => absurd rfl h0) (fun r13 g14 z15 h => ?_)
          refine kv_ifb_ne (pc := 61) (tgt := 66) dX4_read_61 (by decide) h (fun h => ?_) (fun h => ?_)
          · refine kv_iinc (pc := 66) (v := v2 + 1) 2 [(2, .int (v2 + 1)), (0, .ref q0), (1, .ref q1)] dX4_read_66 rfl rfl (by decide) rfl ?_
            refine kv_goto (pc := 69) (tgt := 27) dX4_read_69 (by decide) ?_
            refine kv_sub (pc := 27) [(0, .ref q0), (1, .ref q1), (2, .int (v2 + 1))] [1, 2, 0] rfl ?_
            exact ih (v2 + 1) r13.2 r h
          · refine kv_iconst (pc := 64) (v := 0) dX4_read_64 (by decide) ?_
            exact kv_zret (pc := 65) dX4_read_65 rfl rfl (by cases h; rfl) (by decide) (by decide)
      · refine kv_iconst (pc := 46) (v := 1) dX4_read_46 (by decide) ?_
        exact kv_zret (pc := 47) dX4_read_47 rfl rfl (by cases h; rfl) (by decide) (by decide)
set_option maxHeartbeats 4000000 in
set_option maxRecDepth 100000 in
theorem tX4_read (sh : KSh) (hw : KWf sh) (l : Launch) (hst : l.stackTraces = false) (q0 : Nat) (h0 : sh q0 = .inl 4) (q1 : Nat) (h1 : sh q1 = .inl 5) (σ : Sto) (r : (Bool × Sto)) (h : fX4_read q0 q1 σ = some r) : CT sh l mX4_read yX4_read [.ref q0, .ref q1] σ (0, .int (kb r.1), r.2) := by
  refine kct [(0, .ref q0), (1, .ref q1)] hst (by decide +kernel) rfl rfl (Nat.le_of_ble_eq_true rfl) ?_
  rw [fX4_read] at h
  refine kv_aload_n (pc := 0) 0 dX4_read_0 rfl rfl ?_
  refine kv_iconst (pc := 1) (v := 0) dX4_read_1 (by decide) ?_
  refine kv_put (pc := 2) tyX4 tyX4_ok nmX4 dX4_read_2 h0 rfl (i := 2) (by decide) rfl fl_X4_22 rfl rfl rfl rfl rfl ?_
  refine kv_let h (fun σ1 h => ?_)
  refine kv_aload_n (pc := 5) 0 dX4_read_5 rfl rfl ?_
  refine kv_iconst (pc := 6) (v := (-1)) dX4_read_6 (by decide) ?_
  refine kv_put (pc := 7) tyX4 tyX4_ok nmX4 dX4_read_7 h0 rfl (i := 3) (by decide) rfl fl_X4_15 rfl rfl rfl rfl rfl ?_
  refine kv_let h (fun σ2 h => ?_)
  refine kv_aload_n (pc := 10) 0 dX4_read_10 rfl rfl ?_
  refine kv_iconst (pc := 11) (v := 0) dX4_read_11 (by decide) ?_
  refine kv_put (pc := 12) tyX4 tyX4_ok nmX4 dX4_read_12 h0 rfl (i := 6) (by decide) rfl fl_X4_25 rfl rfl rfl rfl rfl ?_
  refine kv_let h (fun σ3 h => ?_)
  refine kv_aload_n (pc := 15) 0 dX4_read_15 rfl rfl ?_
  refine kv_aload_n (pc := 16) 1 dX4_read_16 rfl rfl ?_
  refine kv_cV (pc := 17) [.ref q1] (fun r4 => (0, .int (kb r4.1), r4.2)) (fun r4 => (.int (kb r4.1) :: [])) (fun r4 => r4.2) 20 0 0 h (fun r4 g5 => tX4_readHead sh hw l hst q0 h0 q1 h1 σ3 r4 g5) dX4_read_17 rfl h0 rfl yw_X4_readHead lk_X4_28 (by decide) (Nat.le_of_ble_eq_true rfl) (by decide) (fun _ => rfl) (fun _ => rfl) ⟨rfl, rfl, rfl⟩ (fun _ _ h0 => absurd rfl h0) (fun r4 g5 z6 h => ?_)
  refine kv_ifb_ne (pc := 20) (tgt := 25) dX4_read_20 (by decide) h (fun h => ?_) (fun h => ?_)
  · refine kv_iconst (pc := 25) (v := 0) dX4_read_25 (by decide) ?_
    refine kv_istore_n (pc := 26) [(2, .int 0), (0, .ref q0), (1, .ref q1)] dX4_read_26 rfl (by decide) rfl ?_
    refine kv_sub (pc := 27) [(0, .ref q0), (1, .ref q1), (2, .int 0)] [1, 2, 0] rfl ?_
    exact wX4_read_L27 sh hw l hst q0 h0 q1 h1 kFU 0 r4.2 r h
  · refine kv_iconst (pc := 23) (v := 0) dX4_read_23 (by decide) ?_
    exact kv_zret (pc := 24) dX4_read_24 rfl rfl (by cases h; rfl) (by decide) (by decide)
theorem yw_X4_read : KMV yX4_read mX4_read RX4 1 := ⟨⟨rfl, by decide +kernel, by decide +kernel, by decide +kernel⟩, ⟨rfl, rfl⟩, kg_in 332 (by decide +kernel) (by decide +kernel), kg_in 333 (by decide +kernel) (by decide +kernel), kg_in 52 (by decide +kernel) (by decide +kernel), kg_in 334 (by decide +kernel) (by decide +kernel)⟩
