theorem dX5_isChip_0 : decode cX5_isChip 0 = .ok (.iload_n 1, 1) := by decide +kernel
theorem dX5_isChip_1 : decode cX5_isChip 1 = .ok (.ifCond .lt 21, 3) := by decide +kernel
theorem dX5_isChip_4 : decode cX5_isChip 4 = .ok (.iload_n 1, 1) := by decide +kernel
theorem dX5_isChip_5 : decode cX5_isChip 5 = .ok (.aload_n 0, 1) := by decide +kernel
theorem dX5_isChip_6 : decode cX5_isChip 6 = .ok (.getfield 69, 3) := by decide +kernel
theorem dX5_isChip_9 : decode cX5_isChip 9 = .ok (.if_icmp .ge 13, 3) := by decide +kernel
theorem dX5_isChip_12 : decode cX5_isChip 12 = .ok (.iload_n 1, 1) := by decide +kernel
theorem dX5_isChip_13 : decode cX5_isChip 13 = .ok (.bipush 30, 2) := by decide +kernel
theorem dX5_isChip_15 : decode cX5_isChip 15 = .ok (.if_icmp .ge 7, 3) := by decide +kernel
theorem dX5_isChip_18 : decode cX5_isChip 18 = .ok (.iconst 1, 1) := by decide +kernel
theorem dX5_isChip_19 : decode cX5_isChip 19 = .ok (.goto 4, 3) := by decide +kernel
theorem dX5_isChip_22 : decode cX5_isChip 22 = .ok (.iconst 0, 1) := by decide +kernel
theorem dX5_isChip_23 : decode cX5_isChip 23 = .ok (.ireturn, 1) := by decide +kernel
abbrev mX5_isChip : KM := (RX5, cX5_isChip, 2, (some .boolean), { frames := 0, cells := 0, slots := 0, locals := 0 }, 0, 0)
def fX5_isChip (q0 : Nat) (a1 : Int32) (σ : Sto) : Bool :=
  if a1 < 0 then
    false
  else
    if (σ q0 8) ≤ a1 then
      false
    else
      if 30 ≤ a1 then
        false
      else
        true
set_option maxHeartbeats 4000000 in
set_option maxRecDepth 100000 in
theorem tX5_isChip (sh : KSh) (hw : KWf sh) (l : Launch) (hst : l.stackTraces = false) (q0 : Nat) (h0 : sh q0 = .inl 5) (a1 : Int32) (σ : Sto) : CT sh l mX5_isChip yX5_isChip [.ref q0, .int a1] σ (0, .int (kb (fX5_isChip q0 a1 σ)), σ) := by
  refine kct [(0, .ref q0), (1, .int a1)] hst (by decide +kernel) rfl rfl (Nat.le_of_ble_eq_true rfl) ?_
  generalize h : fX5_isChip q0 a1 σ = r
  rw [fX5_isChip] at h
  refine kv_iload_n (pc := 0) 1 dX5_isChip_0 rfl rfl ?_
  refine kv_if_lt (pc := 1) (tgt := 22) dX5_isChip_1 (by decide) h (fun h => ?_) (fun h => ?_)
  · refine kv_iconst (pc := 22) (v := 0) dX5_isChip_22 (by decide) ?_
    exact kv_zret (pc := 23) dX5_isChip_23 rfl rfl (by subst h; rfl) (by decide) (by decide)
  · refine kv_iload_n (pc := 4) 1 dX5_isChip_4 rfl rfl ?_
    refine kv_aload_n (pc := 5) 0 dX5_isChip_5 rfl rfl ?_
    refine kv_getI (pc := 6) dX5_isChip_6 h0 rfl (i := 8) (by decide) rfl fl_X5_69 rfl ?_
    refine kv_icmp_ge (pc := 9) (tgt := 22) dX5_isChip_9 (by decide) h (fun h => ?_) (fun h => ?_)
    · refine kv_iconst (pc := 22) (v := 0) dX5_isChip_22 (by decide) ?_
      exact kv_zret (pc := 23) dX5_isChip_23 rfl rfl (by subst h; rfl) (by decide) (by decide)
    · refine kv_iload_n (pc := 12) 1 dX5_isChip_12 rfl rfl ?_
      refine kv_bipush (pc := 13) (v := 30) dX5_isChip_13 (by decide) ?_
      refine kv_icmp_ge (pc := 15) (tgt := 22) dX5_isChip_15 (by decide) h (fun h => ?_) (fun h => ?_)
      · refine kv_iconst (pc := 22) (v := 0) dX5_isChip_22 (by decide) ?_
        exact kv_zret (pc := 23) dX5_isChip_23 rfl rfl (by subst h; rfl) (by decide) (by decide)
      · refine kv_iconst (pc := 18) (v := 1) dX5_isChip_18 (by decide) ?_
        refine kv_goto (pc := 19) (tgt := 23) dX5_isChip_19 (by decide) ?_
        exact kv_zret (pc := 23) dX5_isChip_23 rfl rfl (by subst h; rfl) (by decide) (by decide)
theorem yw_X5_isChip : KMV yX5_isChip mX5_isChip RX5 1 := ⟨⟨rfl, by decide +kernel, by decide +kernel, by decide +kernel⟩, ⟨rfl, rfl⟩, kg_in 501 (by decide +kernel) (by decide +kernel), kg_in 17 (by decide +kernel) (by decide +kernel), kg_in 48 (by decide +kernel) (by decide +kernel), kg_in 502 (by decide +kernel) (by decide +kernel)⟩
theorem dX5_kindOf_0 : decode cX5_kindOf 0 = .ok (.aload_n 0, 1) := by decide +kernel
theorem dX5_kindOf_1 : decode cX5_kindOf 1 = .ok (.iload_n 1, 1) := by decide +kernel
theorem dX5_kindOf_2 : decode cX5_kindOf 2 = .ok (.invokevirtual 82, 3) := by decide +kernel
theorem dX5_kindOf_5 : decode cX5_kindOf 5 = .ok (.ifCond .eq 12, 3) := by decide +kernel
theorem dX5_kindOf_8 : decode cX5_kindOf 8 = .ok (.aload_n 0, 1) := by decide +kernel
theorem dX5_kindOf_9 : decode cX5_kindOf 9 = .ok (.getfield 22, 3) := by decide +kernel
theorem dX5_kindOf_12 : decode cX5_kindOf 12 = .ok (.iload_n 1, 1) := by decide +kernel
theorem dX5_kindOf_13 : decode cX5_kindOf 13 = .ok (.iaload, 1) := by decide +kernel
theorem dX5_kindOf_14 : decode cX5_kindOf 14 = .ok (.goto 4, 3) := by decide +kernel
theorem dX5_kindOf_17 : decode cX5_kindOf 17 = .ok (.iconst (-1), 1) := by decide +kernel
theorem dX5_kindOf_18 : decode cX5_kindOf 18 = .ok (.ireturn, 1) := by decide +kernel
abbrev mX5_kindOf : KM := (RX5, cX5_kindOf, 2, (some .int), { frames := 1, cells := 0, slots := 0, locals := 21 }, 0, 0)
def fX5_kindOf (q0 : Nat) (a1 : Int32) (σ : Sto) : Option Int32 :=
  if (fX5_isChip q0 a1 σ) = true then
    if kin a1 30 = true then
      some (σ (q0 + 3) a1.toNatClampNeg)
    else none
  else
    some (-1)
set_option maxHeartbeats 4000000 in
set_option maxRecDepth 100000 in
theorem tX5_kindOf (sh : KSh) (hw : KWf sh) (l : Launch) (hst : l.stackTraces = false) (q0 : Nat) (h0 : sh q0 = .inl 5) (a1 : Int32) (σ : Sto) (r : Int32) (h : fX5_kindOf q0 a1 σ = some r) : CT sh l mX5_kindOf yX5_kindOf [.ref q0, .int a1] σ (0, .int r, σ) := by
  refine kct [(0, .ref q0), (1, .int a1)] hst (by decide +kernel) rfl rfl (Nat.le_of_ble_eq_true rfl) ?_
  rw [fX5_kindOf] at h
  refine kv_aload_n (pc := 0) 0 dX5_kindOf_0 rfl rfl ?_
  refine kv_iload_n (pc := 1) 1 dX5_kindOf_1 rfl rfl ?_
  refine kv_tV (pc := 2) (v := .int (kb (fX5_isChip q0 a1 σ))) [.int a1] (.int (kb (fX5_isChip q0 a1 σ)) :: []) 5 0 0 (tX5_isChip sh hw l hst q0 h0 a1 σ) dX5_kindOf_2 rfl h0 rfl yw_X5_isChip lk_X5_82 (by decide) (Nat.le_of_ble_eq_true rfl) (by decide) rfl ⟨rfl, rfl, rfl⟩ ?_
  refine kv_ifb_eq (pc := 5) (tgt := 17) dX5_kindOf_5 (by decide) h (fun h => ?_) (fun h => ?_)
  · refine kv_iconst (pc := 17) (v := (-1)) dX5_kindOf_17 (by decide) ?_
    exact kv_iret (pc := 18) dX5_kindOf_18 rfl (by cases h; rfl) (by decide) (by decide)
  · refine kv_aload_n (pc := 8) 0 dX5_kindOf_8 rfl rfl ?_
    refine kv_getR (pc := 9) (q2 := q0 + 3) dX5_kindOf_9 h0 rfl (i := 9) (by decide) rfl fl_X5_22 rfl rfl ?_
    refine kv_iload_n (pc := 12) 1 dX5_kindOf_12 rfl rfl ?_
    refine kv_iald (pc := 13) dX5_kindOf_13 (show sh (q0 + 3) = _ from kso_5_3 hw h0) h (fun h => ?_)
    refine kv_goto (pc := 14) (tgt := 18) dX5_kindOf_14 (by decide) ?_
    exact kv_iret (pc := 18) dX5_kindOf_18 rfl (by cases h; rfl) (by decide) (by decide)
theorem yw_X5_kindOf : KMV yX5_kindOf mX5_kindOf RX5 1 := ⟨⟨rfl, by decide +kernel, by decide +kernel, by decide +kernel⟩, ⟨rfl, rfl⟩, kg_in 755 (by decide +kernel) (by decide +kernel), kg_in 756 (by decide +kernel) (by decide +kernel), kg_in 48 (by decide +kernel) (by decide +kernel), kg_in 757 (by decide +kernel) (by decide +kernel)⟩
theorem dX5_cellOf_0 : decode cX5_cellOf 0 = .ok (.aload_n 0, 1) := by decide +kernel
theorem dX5_cellOf_1 : decode cX5_cellOf 1 = .ok (.iload_n 1, 1) := by decide +kernel
theorem dX5_cellOf_2 : decode cX5_cellOf 2 = .ok (.invokevirtual 82, 3) := by decide +kernel
theorem dX5_cellOf_5 : decode cX5_cellOf 5 = .ok (.ifCond .eq 12, 3) := by decide +kernel
theorem dX5_cellOf_8 : decode cX5_cellOf 8 = .ok (.aload_n 0, 1) := by decide +kernel
theorem dX5_cellOf_9 : decode cX5_cellOf 9 = .ok (.getfield 32, 3) := by decide +kernel
theorem dX5_cellOf_12 : decode cX5_cellOf 12 = .ok (.iload_n 1, 1) := by decide +kernel
theorem dX5_cellOf_13 : decode cX5_cellOf 13 = .ok (.iaload, 1) := by decide +kernel
theorem dX5_cellOf_14 : decode cX5_cellOf 14 = .ok (.goto 4, 3) := by decide +kernel
theorem dX5_cellOf_17 : decode cX5_cellOf 17 = .ok (.iconst (-1), 1) := by decide +kernel
theorem dX5_cellOf_18 : decode cX5_cellOf 18 = .ok (.ireturn, 1) := by decide +kernel
abbrev mX5_cellOf : KM := (RX5, cX5_cellOf, 2, (some .int), { frames := 1, cells := 0, slots := 0, locals := 21 }, 0, 0)
def fX5_cellOf (q0 : Nat) (a1 : Int32) (σ : Sto) : Option Int32 :=
  if (fX5_isChip q0 a1 σ) = true then
    if kin a1 30 = true then
      some (σ (q0 + 6) a1.toNatClampNeg)
    else none
  else
    some (-1)
set_option maxHeartbeats 4000000 in
set_option maxRecDepth 100000 in
theorem tX5_cellOf (sh : KSh) (hw : KWf sh) (l : Launch) (hst : l.stackTraces = false) (q0 : Nat) (h0 : sh q0 = .inl 5) (a1 : Int32) (σ : Sto) (r : Int32) (h : fX5_cellOf q0 a1 σ = some r) : CT sh l mX5_cellOf yX5_cellOf [.ref q0, .int a1] σ (0, .int r, σ) := by
  refine kct [(0, .ref q0), (1, .int a1)] hst (by decide +kernel) rfl rfl (Nat.le_of_ble_eq_true rfl) ?_
  rw [fX5_cellOf] at h
  refine kv_aload_n (pc := 0) 0 dX5_cellOf_0 rfl rfl ?_
  refine kv_iload_n (pc := 1) 1 dX5_cellOf_1 rfl rfl ?_
  refine kv_tV (pc := 2) (v := .int (kb (fX5_isChip q0 a1 σ))) [.int a1] (.int (kb (fX5_isChip q0 a1 σ)) :: []) 5 0 0 (tX5_isChip sh hw l hst q0 h0 a1 σ) dX5_cellOf_2 rfl h0 rfl yw_X5_isChip lk_X5_82 (by decide) (Nat.le_of_ble_eq_true rfl) (by decide) rfl ⟨rfl, rfl, rfl⟩ ?_
  refine kv_ifb_eq (pc := 5) (tgt := 17) dX5_cellOf_5 (by decide) h (fun h => ?_) (fun h => ?_)
  · refine kv_iconst (pc := 17) (v := (-1)) dX5_cellOf_17 (by decide) ?_
    exact kv_iret (pc := 18) dX5_cellOf_18 rfl (by cases h; rfl) (by decide) (by decide)
  · refine kv_aload_n (pc := 8) 0 dX5_cellOf_8 rfl rfl ?_
    refine kv_getR (pc := 9) (q2 := q0 + 6) dX5_cellOf_9 h0 rfl (i := 12) (by decide) rfl fl_X5_32 rfl rfl ?_
    refine kv_iload_n (pc := 12) 1 dX5_cellOf_12 rfl rfl ?_
    refine kv_iald (pc := 13) dX5_cellOf_13 (show sh (q0 + 6) = _ from kso_5_6 hw h0) h (fun h => ?_)
    refine kv_goto (pc := 14) (tgt := 18) dX5_cellOf_14 (by decide) ?_
    exact kv_iret (pc := 18) dX5_cellOf_18 rfl (by cases h; rfl) (by decide) (by decide)
theorem yw_X5_cellOf : KMV yX5_cellOf mX5_cellOf RX5 1 := ⟨⟨rfl, by decide +kernel, by decide +kernel, by decide +kernel⟩, ⟨rfl, rfl⟩, kg_in 622 (by decide +kernel) (by decide +kernel), kg_in 623 (by decide +kernel) (by decide +kernel), kg_in 48 (by decide +kernel) (by decide +kernel), kg_in 624 (by decide +kernel) (by decide +kernel)⟩
theorem dX5_weightOf_0 : decode cX5_weightOf 0 = .ok (.aload_n 0, 1) := by decide +kernel
theorem dX5_weightOf_1 : decode cX5_weightOf 1 = .ok (.iload_n 1, 1) := by decide +kernel
theorem dX5_weightOf_2 : decode cX5_weightOf 2 = .ok (.invokevirtual 82, 3) := by decide +kernel
theorem dX5_weightOf_5 : decode cX5_weightOf 5 = .ok (.ifCond .eq 12, 3) := by decide +kernel
theorem dX5_weightOf_8 : decode cX5_weightOf 8 = .ok (.aload_n 0, 1) := by decide +kernel
theorem dX5_weightOf_9 : decode cX5_weightOf 9 = .ok (.getfield 29, 3) := by decide +kernel
theorem dX5_weightOf_12 : decode cX5_weightOf 12 = .ok (.iload_n 1, 1) := by decide +kernel
theorem dX5_weightOf_13 : decode cX5_weightOf 13 = .ok (.iaload, 1) := by decide +kernel
theorem dX5_weightOf_14 : decode cX5_weightOf 14 = .ok (.goto 4, 3) := by decide +kernel
theorem dX5_weightOf_17 : decode cX5_weightOf 17 = .ok (.iconst 0, 1) := by decide +kernel
theorem dX5_weightOf_18 : decode cX5_weightOf 18 = .ok (.ireturn, 1) := by decide +kernel
abbrev mX5_weightOf : KM := (RX5, cX5_weightOf, 2, (some .int), { frames := 1, cells := 0, slots := 0, locals := 21 }, 0, 0)
def fX5_weightOf (q0 : Nat) (a1 : Int32) (σ : Sto) : Option Int32 :=
  if (fX5_isChip q0 a1 σ) = true then
    if kin a1 30 = true then
      some (σ (q0 + 5) a1.toNatClampNeg)
    else none
  else
    some 0
set_option maxHeartbeats 4000000 in
set_option maxRecDepth 100000 in
theorem tX5_weightOf (sh : KSh) (hw : KWf sh) (l : Launch) (hst : l.stackTraces = false) (q0 : Nat) (h0 : sh q0 = .inl 5) (a1 : Int32) (σ : Sto) (r : Int32) (h : fX5_weightOf q0 a1 σ = some r) : CT sh l mX5_weightOf yX5_weightOf [.ref q0, .int a1] σ (0, .int r, σ) := by
  refine kct [(0, .ref q0), (1, .int a1)] hst (by decide +kernel) rfl rfl (Nat.le_of_ble_eq_true rfl) ?_
  rw [fX5_weightOf] at h
  refine kv_aload_n (pc := 0) 0 dX5_weightOf_0 rfl rfl ?_
  refine kv_iload_n (pc := 1) 1 dX5_weightOf_1 rfl rfl ?_
  refine kv_tV (pc := 2) (v := .int (kb (fX5_isChip q0 a1 σ))) [.int a1] (.int (kb (fX5_isChip q0 a1 σ)) :: []) 5 0 0 (tX5_isChip sh hw l hst q0 h0 a1 σ) dX5_weightOf_2 rfl h0 rfl yw_X5_isChip lk_X5_82 (by decide) (Nat.le_of_ble_eq_true rfl) (by decide) rfl ⟨rfl, rfl, rfl⟩ ?_
  refine kv_ifb_eq (pc := 5) (tgt := 17) dX5_weightOf_5 (by decide) h (fun h => ?_) (fun h => ?_)
  · refine kv_iconst (pc := 17) (v := 0) dX5_weightOf_17 (by decide) ?_
    exact kv_iret (pc := 18) dX5_weightOf_18 rfl (by cases h; rfl) (by decide) (by decide)
  · refine kv_aload_n (pc := 8) 0 dX5_weightOf_8 rfl rfl ?_
    refine kv_getR (pc := 9) (q2 := q0 + 5) dX5_weightOf_9 h0 rfl (i := 11) (by decide) rfl fl_X5_29 rfl rfl ?_
    refine kv_iload_n (pc := 12) 1 dX5_weightOf_12 rfl rfl ?_
    refine kv_iald (pc := 13) dX5_weightOf_13 (show sh (q0 + 5) = _ from kso_5_5 hw h0) h (fun h => ?_)
    refine kv_goto (pc := 14) (tgt := 18) dX5_weightOf_14 (by decide) ?_
    exact kv_iret (pc := 18) dX5_weightOf_18 rfl (by cases h; rfl) (by decide) (by decide)
theorem yw_X5_weightOf : KMV yX5_weightOf mX5_weightOf RX5 1 := ⟨⟨rfl, by decide +kernel, by decide +kernel, by decide +kernel⟩, ⟨rfl, rfl⟩, kg_in 767 (by decide +kernel) (by decide +kernel), kg_in 768 (by decide +kernel) (by decide +kernel), kg_in 48 (by decide +kernel) (by decide +kernel), kg_in 769 (by decide +kernel) (by decide +kernel)⟩
theorem dX5_chipOn_0 : decode cX5_chipOn 0 = .ok (.iload_n 1, 1) := by decide +kernel
theorem dX5_chipOn_1 : decode cX5_chipOn 1 = .ok (.invokestatic 86, 3) := by decide +kernel
theorem dX5_chipOn_4 : decode cX5_chipOn 4 = .ok (.ifCond .eq 12, 3) := by decide +kernel
theorem dX5_chipOn_7 : decode cX5_chipOn 7 = .ok (.aload_n 0, 1) := by decide +kernel
theorem dX5_chipOn_8 : decode cX5_chipOn 8 = .ok (.getfield 38, 3) := by decide +kernel
theorem dX5_chipOn_11 : decode cX5_chipOn 11 = .ok (.iload_n 1, 1) := by decide +kernel
theorem dX5_chipOn_12 : decode cX5_chipOn 12 = .ok (.iaload, 1) := by decide +kernel
theorem dX5_chipOn_13 : decode cX5_chipOn 13 = .ok (.goto 4, 3) := by decide +kernel
theorem dX5_chipOn_16 : decode cX5_chipOn 16 = .ok (.iconst (-1), 1) := by decide +kernel
theorem dX5_chipOn_17 : decode cX5_chipOn 17 = .ok (.ireturn, 1) := by decide +kernel
abbrev mX5_chipOn : KM := (RX5, cX5_chipOn, 2, (some .int), { frames := 1, cells := 0, slots := 0, locals := 20 }, 0, 0)
def fX5_chipOn (q0 : Nat) (a1 : Int32) (σ : Sto) : Option Int32 :=
  if (fX1_isCell a1) = true then
    if kin a1 225 = true then
      some (σ (q0 + 8) a1.toNatClampNeg)
    else none
  else
    some (-1)
set_option maxHeartbeats 4000000 in
set_option maxRecDepth 100000 in
theorem tX5_chipOn (sh : KSh) (hw : KWf sh) (l : Launch) (hst : l.stackTraces = false) (q0 : Nat) (h0 : sh q0 = .inl 5) (a1 : Int32) (σ : Sto) (r : Int32) (h : fX5_chipOn q0 a1 σ = some r) : CT sh l mX5_chipOn yX5_chipOn [.ref q0, .int a1] σ (0, .int r, σ) := by
  refine kct [(0, .ref q0), (1, .int a1)] hst (by decide +kernel) rfl rfl (Nat.le_of_ble_eq_true rfl) ?_
  rw [fX5_chipOn] at h
  refine kv_iload_n (pc := 0) 1 dX5_chipOn_0 rfl rfl ?_
  refine kv_tS (pc := 1) (v := .int (kb (fX1_isCell a1))) [.int a1] (.int (kb (fX1_isCell a1)) :: []) 4 0 0 (tX1_isCell sh hw l hst a1 σ) dX5_chipOn_1 rfl yw_X1_isCell lk_X5_86 (by decide) (Nat.le_of_ble_eq_true rfl) (by decide) rfl ⟨rfl, rfl, rfl⟩ ?_
  refine kv_ifb_eq (pc := 4) (tgt := 16) dX5_chipOn_4 (by decide) h (fun h => ?_) (fun h => ?_)
  · refine kv_iconst (pc := 16) (v := (-1)) dX5_chipOn_16 (by decide) ?_
    exact kv_iret (pc := 17) dX5_chipOn_17 rfl (by cases h; rfl) (by decide) (by decide)
  · refine kv_aload_n (pc := 7) 0 dX5_chipOn_7 rfl rfl ?_
    refine kv_getR (pc := 8) (q2 := q0 + 8) dX5_chipOn_8 h0 rfl (i := 14) (by decide) rfl fl_X5_38 rfl rfl ?_
    refine kv_iload_n (pc := 11) 1 dX5_chipOn_11 rfl rfl ?_
    refine kv_iald (pc := 12) dX5_chipOn_12 (show sh (q0 + 8) = _ from kso_5_8 hw h0) h (fun h => ?_)
    refine kv_goto (pc := 13) (tgt := 17) dX5_chipOn_13 (by decide) ?_
    exact kv_iret (pc := 17) dX5_chipOn_17 rfl (by cases h; rfl) (by decide) (by decide)
theorem yw_X5_chipOn : KMV yX5_chipOn mX5_chipOn RX5 1 := ⟨⟨rfl, by decide +kernel, by decide +kernel, by decide +kernel⟩, ⟨rfl, rfl⟩, kg_in 485 (by decide +kernel) (by decide +kernel), kg_in 486 (by decide +kernel) (by decide +kernel), kg_in 48 (by decide +kernel) (by decide +kernel), kg_in 487 (by decide +kernel) (by decide +kernel)⟩
theorem dX5_shift_0 : decode cX5_shift 0 = .ok (.aload_n 0, 1) := by decide +kernel
theorem dX5_shift_1 : decode cX5_shift 1 = .ok (.iload_n 1, 1) := by decide +kernel
theorem dX5_shift_2 : decode cX5_shift 2 = .ok (.invokevirtual 82, 3) := by decide +kernel
theorem dX5_shift_5 : decode cX5_shift 5 = .ok (.ifCond .eq 48, 3) := by decide +kernel
theorem dX5_shift_8 : decode cX5_shift 8 = .ok (.aload_n 0, 1) := by decide +kernel
theorem dX5_shift_9 : decode cX5_shift 9 = .ok (.getfield 32, 3) := by decide +kernel
theorem dX5_shift_12 : decode cX5_shift 12 = .ok (.iload_n 1, 1) := by decide +kernel
theorem dX5_shift_13 : decode cX5_shift 13 = .ok (.iaload, 1) := by decide +kernel
theorem dX5_shift_14 : decode cX5_shift 14 = .ok (.invokestatic 86, 3) := by decide +kernel
theorem dX5_shift_17 : decode cX5_shift 17 = .ok (.ifCond .eq 36, 3) := by decide +kernel
theorem dX5_shift_20 : decode cX5_shift 20 = .ok (.iload_n 2, 1) := by decide +kernel
theorem dX5_shift_21 : decode cX5_shift 21 = .ok (.invokestatic 86, 3) := by decide +kernel
theorem dX5_shift_24 : decode cX5_shift 24 = .ok (.ifCond .eq 29, 3) := by decide +kernel
theorem dX5_shift_27 : decode cX5_shift 27 = .ok (.aload_n 0, 1) := by decide +kernel
theorem dX5_shift_28 : decode cX5_shift 28 = .ok (.getfield 38, 3) := by decide +kernel
theorem dX5_shift_31 : decode cX5_shift 31 = .ok (.aload_n 0, 1) := by decide +kernel
theorem dX5_shift_32 : decode cX5_shift 32 = .ok (.getfield 32, 3) := by decide +kernel
theorem dX5_shift_35 : decode cX5_shift 35 = .ok (.iload_n 1, 1) := by decide +kernel
theorem dX5_shift_36 : decode cX5_shift 36 = .ok (.iaload, 1) := by decide +kernel
theorem dX5_shift_37 : decode cX5_shift 37 = .ok (.iconst (-1), 1) := by decide +kernel
theorem dX5_shift_38 : decode cX5_shift 38 = .ok (.iastore, 1) := by decide +kernel
theorem dX5_shift_39 : decode cX5_shift 39 = .ok (.aload_n 0, 1) := by decide +kernel
theorem dX5_shift_40 : decode cX5_shift 40 = .ok (.getfield 38, 3) := by decide +kernel
theorem dX5_shift_43 : decode cX5_shift 43 = .ok (.iload_n 2, 1) := by decide +kernel
theorem dX5_shift_44 : decode cX5_shift 44 = .ok (.iload_n 1, 1) := by decide +kernel
theorem dX5_shift_45 : decode cX5_shift 45 = .ok (.iastore, 1) := by decide +kernel
theorem dX5_shift_46 : decode cX5_shift 46 = .ok (.aload_n 0, 1) := by decide +kernel
theorem dX5_shift_47 : decode cX5_shift 47 = .ok (.getfield 32, 3) := by decide +kernel
theorem dX5_shift_50 : decode cX5_shift 50 = .ok (.iload_n 1, 1) := by decide +kernel
theorem dX5_shift_51 : decode cX5_shift 51 = .ok (.iload_n 2, 1) := by decide +kernel
theorem dX5_shift_52 : decode cX5_shift 52 = .ok (.iastore, 1) := by decide +kernel
theorem dX5_shift_53 : decode cX5_shift 53 = .ok (.return_, 1) := by decide +kernel
abbrev mX5_shift : KM := (RX5, cX5_shift, 3, none, { frames := 1, cells := 0, slots := 0, locals := 21 }, 0, 0)
def fX5_shift (q0 : Nat) (a1 : Int32) (a2 : Int32) (σ : Sto) : Option Sto :=
  if (fX5_isChip q0 a1 σ) = true then
    if kin a1 30 = true then
      if (fX1_isCell (σ (q0 + 6) a1.toNatClampNeg)) = true then
        if (fX1_isCell a2) = true then
          if kin a1 30 = true then
            if kin (σ (q0 + 6) a1.toNatClampNeg) 225 = true then
              klet (su σ (q0 + 8) (σ (q0 + 6) a1.toNatClampNeg).toNatClampNeg (-1)) fun σ1 =>
              if kin a2 225 = true then
                klet (su σ1 (q0 + 8) a2.toNatClampNeg a1) fun σ2 =>
                if kin a1 30 = true then
                  klet (su σ2 (q0 + 6) a1.toNatClampNeg a2) fun σ3 =>
                  some σ3
                else none
              else none
            else none
          else none
        else
          some σ
      else
        some σ
    else none
  else
    some σ
set_option maxHeartbeats 4000000 in
set_option maxRecDepth 100000 in
theorem tX5_shift (sh : KSh) (hw : KWf sh) (l : Launch) (hst : l.stackTraces = false) (q0 : Nat) (h0 : sh q0 = .inl 5) (a1 : Int32) (a2 : Int32) (σ : Sto) (r : Sto) (h : fX5_shift q0 a1 a2 σ = some r) : CT sh l mX5_shift yX5_shift [.ref q0, .int a1, .int a2] σ (0, .int 0, r) := by
  refine kct [(0, .ref q0), (1, .int a1), (2, .int a2)] hst (by decide +kernel) rfl rfl (Nat.le_of_ble_eq_true rfl) ?_
  rw [fX5_shift] at h
  refine kv_aload_n (pc := 0) 0 dX5_shift_0 rfl rfl ?_
  refine kv_iload_n (pc := 1) 1 dX5_shift_1 rfl rfl ?_
  refine kv_tV (pc := 2) (v := .int (kb (fX5_isChip q0 a1 σ))) [.int a1] (.int (kb (fX5_isChip q0 a1 σ)) :: []) 5 0 0 (tX5_isChip sh hw l hst q0 h0 a1 σ) dX5_shift_2 rfl h0 rfl yw_X5_isChip lk_X5_82 (by decide) (Nat.le_of_ble_eq_true rfl) (by decide) rfl ⟨rfl, rfl, rfl⟩ ?_
  refine kv_ifb_eq (pc := 5) (tgt := 53) dX5_shift_5 (by decide) h (fun h => ?_) (fun h => ?_)
  · exact kv_vret (pc := 53) (v := .int 0) dX5_shift_53 rfl (by cases h; rfl) (by decide) (by decide)
  · refine kv_aload_n (pc := 8) 0 dX5_shift_8 rfl rfl ?_
    refine kv_getR (pc := 9) (q2 := q0 + 6) dX5_shift_9 h0 rfl (i := 12) (by decide) rfl fl_X5_32 rfl rfl ?_
    refine kv_iload_n (pc := 12) 1 dX5_shift_12 rfl rfl ?_
    refine kv_iald (pc := 13) dX5_shift_13 (show sh (q0 + 6) = _ from kso_5_6 hw h0) h (fun h => ?_)
    refine kv_tS (pc := 14) (v := .int (kb (fX1_isCell (σ (q0 + 6) a1.toNatClampNeg)))) [.int (σ (q0 + 6) a1.toNatClampNeg)] (.int (kb (fX1_isCell (σ (q0 + 6) a1.toNatClampNeg))) :: []) 17 0 0 (tX1_isCell sh hw l hst (σ (q0 + 6) a1.toNatClampNeg) σ) dX5_shift_14 rfl yw_X1_isCell lk_X5_86 (by decide) (Nat.le_of_ble_eq_true rfl) (by decide) rfl ⟨rfl, rfl, rfl⟩ ?_
    refine kv_ifb_eq (pc := 17) (tgt := 53) dX5_shift_17 (by decide) h (fun h => ?_) (fun h => ?_)
    · exact kv_vret (pc := 53) (v := .int 0) dX5_shift_53 rfl (by cases h; rfl) (by decide) (by decide)
    · refine kv_iload_n (pc := 20) 2 dX5_shift_20 rfl rfl ?_
      refine kv_tS (pc := 21) (v := .int (kb (fX1_isCell a2))) [.int a2] (.int (kb (fX1_isCell a2)) :: []) 24 0 0 (tX1_isCell sh hw l hst a2 σ) dX5_shift_21 rfl yw_X1_isCell lk_X5_86 (by decide) (Nat.le_of_ble_eq_true rfl) (by decide) rfl ⟨rfl, rfl, rfl⟩ ?_
      refine kv_ifb_eq (pc := 24) (tgt := 53) dX5_shift_24 (by decide) h (fun h => ?_) (fun h => ?_)
      · exact kv_vret (pc := 53) (v := .int 0) dX5_shift_53 rfl (by cases h; rfl) (by decide) (by decide)
      · refine kv_aload_n (pc := 27) 0 dX5_shift_27 rfl rfl ?_
        refine kv_getR (pc := 28) (q2 := q0 + 8) dX5_shift_28 h0 rfl (i := 14) (by decide) rfl fl_X5_38 rfl rfl ?_
        refine kv_aload_n (pc := 31) 0 dX5_shift_31 rfl rfl ?_
        refine kv_getR (pc := 32) (q2 := q0 + 6) dX5_shift_32 h0 rfl (i := 12) (by decide) rfl fl_X5_32 rfl rfl ?_
        refine kv_iload_n (pc := 35) 1 dX5_shift_35 rfl rfl ?_
        refine kv_iald (pc := 36) dX5_shift_36 (show sh (q0 + 6) = _ from kso_5_6 hw h0) h (fun h => ?_)
        refine kv_iconst (pc := 37) (v := (-1)) dX5_shift_37 (by decide) ?_
        refine kv_iast (pc := 38) dX5_shift_38 (show sh (q0 + 8) = _ from kso_5_8 hw h0) h (fun h => ?_)
        refine kv_let h (fun σ1 h => ?_)
        refine kv_aload_n (pc := 39) 0 dX5_shift_39 rfl rfl ?_
        refine kv_getR (pc := 40) (q2 := q0 + 8) dX5_shift_40 h0 rfl (i := 14) (by decide) rfl fl_X5_38 rfl rfl ?_
        refine kv_iload_n (pc := 43) 2 dX5_shift_43 rfl rfl ?_
        refine kv_iload_n (pc := 44) 1 dX5_shift_44 rfl rfl ?_
        refine kv_iast (pc := 45) dX5_shift_45 (show sh (q0 + 8) = _ from kso_5_8 hw h0) h (fun h => ?_)
        refine kv_let h (fun σ2 h => ?_)
        refine kv_aload_n (pc := 46) 0 dX5_shift_46 rfl rfl ?_
        refine kv_getR (pc := 47) (q2 := q0 + 6) dX5_shift_47 h0 rfl (i := 12) (by decide) rfl fl_X5_32 rfl rfl ?_
        refine kv_iload_n (pc := 50) 1 dX5_shift_50 rfl rfl ?_
        refine kv_iload_n (pc := 51) 2 dX5_shift_51 rfl rfl ?_
        refine kv_iast (pc := 52) dX5_shift_52 (show sh (q0 + 6) = _ from kso_5_6 hw h0) h (fun h => ?_)
        refine kv_let h (fun σ3 h => ?_)
        exact kv_vret (pc := 53) (v := .int 0) dX5_shift_53 rfl (by cases h; rfl) (by decide) (by decide)
theorem yw_X5_shift : KMV yX5_shift mX5_shift RX5 2 := ⟨⟨rfl, by decide +kernel, by decide +kernel, by decide +kernel⟩, ⟨rfl, rfl⟩, kg_in 789 (by decide +kernel) (by decide +kernel), kg_in 790 (by decide +kernel) (by decide +kernel), kg_in 48 (by decide +kernel) (by decide +kernel), kg_in 791 (by decide +kernel) (by decide +kernel)⟩
theorem dX5_countMove_0 : decode cX5_countMove 0 = .ok (.aload_n 0, 1) := by decide +kernel
theorem dX5_countMove_1 : decode cX5_countMove 1 = .ok (.iload_n 1, 1) := by decide +kernel
theorem dX5_countMove_2 : decode cX5_countMove 2 = .ok (.invokevirtual 82, 3) := by decide +kernel
theorem dX5_countMove_5 : decode cX5_countMove 5 = .ok (.ifCond .eq 23, 3) := by decide +kernel
theorem dX5_countMove_8 : decode cX5_countMove 8 = .ok (.aload_n 0, 1) := by decide +kernel
theorem dX5_countMove_9 : decode cX5_countMove 9 = .ok (.getfield 35, 3) := by decide +kernel
theorem dX5_countMove_12 : decode cX5_countMove 12 = .ok (.iload_n 1, 1) := by decide +kernel
theorem dX5_countMove_13 : decode cX5_countMove 13 = .ok (.dup2, 1) := by decide +kernel
theorem dX5_countMove_14 : decode cX5_countMove 14 = .ok (.iaload, 1) := by decide +kernel
theorem dX5_countMove_15 : decode cX5_countMove 15 = .ok (.iconst 1, 1) := by decide +kernel
theorem dX5_countMove_16 : decode cX5_countMove 16 = .ok (.iadd, 1) := by decide +kernel
theorem dX5_countMove_17 : decode cX5_countMove 17 = .ok (.iastore, 1) := by decide +kernel
theorem dX5_countMove_18 : decode cX5_countMove 18 = .ok (.aload_n 0, 1) := by decide +kernel
theorem dX5_countMove_19 : decode cX5_countMove 19 = .ok (.dup, 1) := by decide +kernel
theorem dX5_countMove_20 : decode cX5_countMove 20 = .ok (.getfield 60, 3) := by decide +kernel
theorem dX5_countMove_23 : decode cX5_countMove 23 = .ok (.iconst 1, 1) := by decide +kernel
theorem dX5_countMove_24 : decode cX5_countMove 24 = .ok (.iadd, 1) := by decide +kernel
theorem dX5_countMove_25 : decode cX5_countMove 25 = .ok (.putfield 60, 3) := by decide +kernel
theorem dX5_countMove_28 : decode cX5_countMove 28 = .ok (.return_, 1) := by decide +kernel
abbrev mX5_countMove : KM := (RX5, cX5_countMove, 2, none, { frames := 1, cells := 0, slots := 0, locals := 21 }, 0, 0)
def fX5_countMove (q0 : Nat) (a1 : Int32) (σ : Sto) : Option Sto :=
  if (fX5_isChip q0 a1 σ) = true then
    if kin a1 30 = true then
      if kin a1 30 = true then
        klet (su σ (q0 + 7) a1.toNatClampNeg ((σ (q0 + 7) a1.toNatClampNeg) + 1)) fun σ1 =>
        klet (su σ1 q0 5 ((σ1 q0 5) + 1)) fun σ2 =>
        some σ2
      else none
    else none
  else
    some σ
set_option maxHeartbeats 4000000 in
set_option maxRecDepth 100000 in
theorem tX5_countMove (sh : KSh) (hw : KWf sh) (l : Launch) (hst : l.stackTraces = false) (q0 : Nat) (h0 : sh q0 = .inl 5) (a1 : Int32) (σ : Sto) (r : Sto) (h : fX5_countMove q0 a1 σ = some r) : CT sh l mX5_countMove yX5_countMove [.ref q0, .int a1] σ (0, .int 0, r) := by
  refine kct [(0, .ref q0), (1, .int a1)] hst (by decide +kernel) rfl rfl (Nat.le_of_ble_eq_true rfl) ?_
  rw [fX5_countMove] at h
  refine kv_aload_n (pc := 0) 0 dX5_countMove_0 rfl rfl ?_
  refine kv_iload_n (pc := 1) 1 dX5_countMove_1 rfl rfl ?_
  refine kv_tV (pc := 2) (v := .int (kb (fX5_isChip q0 a1 σ))) [.int a1] (.int (kb (fX5_isChip q0 a1 σ)) :: []) 5 0 0 (tX5_isChip sh hw l hst q0 h0 a1 σ) dX5_countMove_2 rfl h0 rfl yw_X5_isChip lk_X5_82 (by decide) (Nat.le_of_ble_eq_true rfl) (by decide) rfl ⟨rfl, rfl, rfl⟩ ?_
  refine kv_ifb_eq (pc := 5) (tgt := 28) dX5_countMove_5 (by decide) h (fun h => ?_) (fun h => ?_)
  · exact kv_vret (pc := 28) (v := .int 0) dX5_countMove_28 rfl (by cases h; rfl) (by decide) (by decide)
  · refine kv_aload_n (pc := 8) 0 dX5_countMove_8 rfl rfl ?_
    refine kv_getR (pc := 9) (q2 := q0 + 7) dX5_countMove_9 h0 rfl (i := 13) (by decide) rfl fl_X5_35 rfl rfl ?_
    refine kv_iload_n (pc := 12) 1 dX5_countMove_12 rfl rfl ?_
    refine kv_dup2 (pc := 13) dX5_countMove_13 rfl rfl ?_
    refine kv_iald (pc := 14) dX5_countMove_14 (show sh (q0 + 7) = _ from kso_5_7 hw h0) h (fun h => ?_)
    refine kv_iconst (pc := 15) (v := 1) dX5_countMove_15 (by decide) ?_
    refine kv_iadd (pc := 16) dX5_countMove_16 ?_
    refine kv_iast (pc := 17) dX5_countMove_17 (show sh (q0 + 7) = _ from kso_5_7 hw h0) h (fun h => ?_)
    refine kv_let h (fun σ1 h => ?_)
    refine kv_aload_n (pc := 18) 0 dX5_countMove_18 rfl rfl ?_
    refine kv_dup (pc := 19) dX5_countMove_19 rfl ?_
    refine kv_getI (pc := 20) dX5_countMove_20 h0 rfl (i := 5) (by decide) rfl fl_X5_60 rfl ?_
    refine kv_iconst (pc := 23) (v := 1) dX5_countMove_23 (by decide) ?_
    refine kv_iadd (pc := 24) dX5_countMove_24 ?_
    refine kv_put (pc := 25) tyX5 tyX5_ok nmX5 dX5_countMove_25 h0 rfl (i := 5) (by decide) rfl fl_X5_60 rfl rfl rfl rfl rfl ?_
    refine kv_let h (fun σ2 h => ?_)
    exact kv_vret (pc := 28) (v := .int 0) dX5_countMove_28 rfl (by cases h; rfl) (by decide) (by decide)
theorem yw_X5_countMove : KMV yX5_countMove mX5_countMove RX5 1 := ⟨⟨rfl, by decide +kernel, by decide +kernel, by decide +kernel⟩, ⟨rfl, rfl⟩, kg_in 793 (by decide +kernel) (by decide +kernel), kg_in 794 (by decide +kernel) (by decide +kernel), kg_in 48 (by decide +kernel) (by decide +kernel), kg_in 795 (by decide +kernel) (by decide +kernel)⟩
theorem dX5_put_0 : decode cX5_put 0 = .ok (.aload_n 0, 1) := by decide +kernel
theorem dX5_put_1 : decode cX5_put 1 = .ok (.iload_n 1, 1) := by decide +kernel
theorem dX5_put_2 : decode cX5_put 2 = .ok (.invokevirtual 82, 3) := by decide +kernel
theorem dX5_put_5 : decode cX5_put 5 = .ok (.ifCond .eq 24, 3) := by decide +kernel
theorem dX5_put_8 : decode cX5_put 8 = .ok (.iload_n 2, 1) := by decide +kernel
theorem dX5_put_9 : decode cX5_put 9 = .ok (.invokestatic 86, 3) := by decide +kernel
theorem dX5_put_12 : decode cX5_put 12 = .ok (.ifCond .eq 17, 3) := by decide +kernel
theorem dX5_put_15 : decode cX5_put 15 = .ok (.aload_n 0, 1) := by decide +kernel
theorem dX5_put_16 : decode cX5_put 16 = .ok (.getfield 32, 3) := by decide +kernel
theorem dX5_put_19 : decode cX5_put 19 = .ok (.iload_n 1, 1) := by decide +kernel
theorem dX5_put_20 : decode cX5_put 20 = .ok (.iload_n 2, 1) := by decide +kernel
theorem dX5_put_21 : decode cX5_put 21 = .ok (.iastore, 1) := by decide +kernel
theorem dX5_put_22 : decode cX5_put 22 = .ok (.aload_n 0, 1) := by decide +kernel
theorem dX5_put_23 : decode cX5_put 23 = .ok (.getfield 38, 3) := by decide +kernel
theorem dX5_put_26 : decode cX5_put 26 = .ok (.iload_n 2, 1) := by decide +kernel
theorem dX5_put_27 : decode cX5_put 27 = .ok (.iload_n 1, 1) := by decide +kernel
theorem dX5_put_28 : decode cX5_put 28 = .ok (.iastore, 1) := by decide +kernel
theorem dX5_put_29 : decode cX5_put 29 = .ok (.return_, 1) := by decide +kernel
abbrev mX5_put : KM := (RX5, cX5_put, 3, none, { frames := 1, cells := 0, slots := 0, locals := 21 }, 0, 0)
def fX5_put (q0 : Nat) (a1 : Int32) (a2 : Int32) (σ : Sto) : Option Sto :=
  if (fX5_isChip q0 a1 σ) = true then
    if (fX1_isCell a2) = true then
      if kin a1 30 = true then
        klet (su σ (q0 + 6) a1.toNatClampNeg a2) fun σ1 =>
        if kin a2 225 = true then
          klet (su σ1 (q0 + 8) a2.toNatClampNeg a1) fun σ2 =>
          some σ2
        else none
      else none
    else
      some σ
  else
    some σ
set_option maxHeartbeats 4000000 in
set_option maxRecDepth 100000 in
theorem tX5_put (sh : KSh) (hw : KWf sh) (l : Launch) (hst : l.stackTraces = false) (q0 : Nat) (h0 : sh q0 = .inl 5) (a1 : Int32) (a2 : Int32) (σ : Sto) (r : Sto) (h : fX5_put q0 a1 a2 σ = some r) : CT sh l mX5_put yX5_put [.ref q0, .int a1, .int a2] σ (0, .int 0, r) := by
  refine kct [(0, .ref q0), (1, .int a1), (2, .int a2)] hst (by decide +kernel) rfl rfl (Nat.le_of_ble_eq_true rfl) ?_
  rw [fX5_put] at h
  refine kv_aload_n (pc := 0) 0 dX5_put_0 rfl rfl ?_
  refine kv_iload_n (pc := 1) 1 dX5_put_1 rfl rfl ?_
  refine kv_tV (pc := 2) (v := .int (kb (fX5_isChip q0 a1 σ))) [.int a1] (.int (kb (fX5_isChip q0 a1 σ)) :: []) 5 0 0 (tX5_isChip sh hw l hst q0 h0 a1 σ) dX5_put_2 rfl h0 rfl yw_X5_isChip lk_X5_82 (by decide) (Nat.le_of_ble_eq_true rfl) (by decide) rfl ⟨rfl, rfl, rfl⟩ ?_
  refine kv_ifb_eq (pc := 5) (tgt := 29) dX5_put_5 (by decide) h (fun h => ?_) (fun h => ?_)
  · exact kv_vret (pc := 29) (v := .int 0) dX5_put_29 rfl (by cases h; rfl) (by decide) (by decide)
  · refine kv_iload_n (pc := 8) 2 dX5_put_8 rfl rfl ?_
    refine kv_tS (pc := 9) (v := .int (kb (fX1_isCell a2))) [.int a2] (.int (kb (fX1_isCell a2)) :: []) 12 0 0 (tX1_isCell sh hw l hst a2 σ) dX5_put_9 rfl yw_X1_isCell lk_X5_86 (by decide) (Nat.le_of_ble_eq_true rfl) (by decide) rfl ⟨rfl, rfl, rfl⟩ ?_
    refine kv_ifb_eq (pc := 12) (tgt := 29) dX5_put_12 (by decide) h (fun h => ?_) (fun h => ?_)
    · exact kv_vret (pc := 29) (v := .int 0) dX5_put_29 rfl (by cases h; rfl) (by decide) (by decide)
    · refine kv_aload_n (pc := 15) 0 dX5_put_15 rfl rfl ?_
      refine kv_getR (pc := 16) (q2 := q0 + 6) dX5_put_16 h0 rfl (i := 12) (by decide) rfl fl_X5_32 rfl rfl ?_
      refine kv_iload_n (pc := 19) 1 dX5_put_19 rfl rfl ?_
      refine kv_iload_n (pc := 20) 2 dX5_put_20 rfl rfl ?_
      refine kv_iast (pc := 21) dX5_put_21 (show sh (q0 + 6) = _ from kso_5_6 hw h0) h (fun h => ?_)
      refine kv_let h (fun σ1 h => ?_)
      refine kv_aload_n (pc := 22) 0 dX5_put_22 rfl rfl ?_
      refine kv_getR (pc := 23) (q2 := q0 + 8) dX5_put_23 h0 rfl (i := 14) (by decide) rfl fl_X5_38 rfl rfl ?_
      refine kv_iload_n (pc := 26) 2 dX5_put_26 rfl rfl ?_
      refine kv_iload_n (pc := 27) 1 dX5_put_27 rfl rfl ?_
      refine kv_iast (pc := 28) dX5_put_28 (show sh (q0 + 8) = _ from kso_5_8 hw h0) h (fun h => ?_)
      refine kv_let h (fun σ2 h => ?_)
      exact kv_vret (pc := 29) (v := .int 0) dX5_put_29 rfl (by cases h; rfl) (by decide) (by decide)
theorem yw_X5_put : KMV yX5_put mX5_put RX5 2 := ⟨⟨rfl, by decide +kernel, by decide +kernel, by decide +kernel⟩, ⟨rfl, rfl⟩, kg_in 497 (by decide +kernel) (by decide +kernel), kg_in 16 (by decide +kernel) (by decide +kernel), kg_in 48 (by decide +kernel) (by decide +kernel), kg_in 498 (by decide +kernel) (by decide +kernel)⟩
theorem dX5_exchange_0 : decode cX5_exchange 0 = .ok (.aload_n 0, 1) := by decide +kernel
theorem dX5_exchange_1 : decode cX5_exchange 1 = .ok (.iload_n 1, 1) := by decide +kernel
theorem dX5_exchange_2 : decode cX5_exchange 2 = .ok (.invokevirtual 96, 3) := by decide +kernel
theorem dX5_exchange_5 : decode cX5_exchange 5 = .ok (.istore_n 3, 1) := by decide +kernel
theorem dX5_exchange_6 : decode cX5_exchange 6 = .ok (.aload_n 0, 1) := by decide +kernel
theorem dX5_exchange_7 : decode cX5_exchange 7 = .ok (.iload_n 2, 1) := by decide +kernel
theorem dX5_exchange_8 : decode cX5_exchange 8 = .ok (.invokevirtual 96, 3) := by decide +kernel
theorem dX5_exchange_11 : decode cX5_exchange 11 = .ok (.istore 4, 2) := by decide +kernel
theorem dX5_exchange_13 : decode cX5_exchange 13 = .ok (.aload_n 0, 1) := by decide +kernel
theorem dX5_exchange_14 : decode cX5_exchange 14 = .ok (.iload_n 1, 1) := by decide +kernel
theorem dX5_exchange_15 : decode cX5_exchange 15 = .ok (.iload 4, 2) := by decide +kernel
theorem dX5_exchange_17 : decode cX5_exchange 17 = .ok (.invokevirtual 99, 3) := by decide +kernel
theorem dX5_exchange_20 : decode cX5_exchange 20 = .ok (.aload_n 0, 1) := by decide +kernel
theorem dX5_exchange_21 : decode cX5_exchange 21 = .ok (.iload_n 2, 1) := by decide +kernel
theorem dX5_exchange_22 : decode cX5_exchange 22 = .ok (.iload_n 3, 1) := by decide +kernel
theorem dX5_exchange_23 : decode cX5_exchange 23 = .ok (.invokevirtual 99, 3) := by decide +kernel
theorem dX5_exchange_26 : decode cX5_exchange 26 = .ok (.return_, 1) := by decide +kernel
abbrev mX5_exchange : KM := (RX5, cX5_exchange, 5, none, { frames := 2, cells := 0, slots := 0, locals := 43 }, 0, 0)
def fX5_exchange (q0 : Nat) (a1 : Int32) (a2 : Int32) (σ : Sto) : Option Sto :=
  (fX5_cellOf q0 a1 σ).bind fun r1 =>
  (fX5_cellOf q0 a2 σ).bind fun r4 =>
  (fX5_put q0 a1 r4 σ).bind fun r7 =>
  (fX5_put q0 a2 r1 r7).bind fun r10 =>
  some r10
set_option maxHeartbeats 4000000 in
set_option maxRecDepth 100000 in
theorem tX5_exchange (sh : KSh) (hw : KWf sh) (l : Launch) (hst : l.stackTraces = false) (q0 : Nat) (h0 : sh q0 = .inl 5) (a1 : Int32) (a2 : Int32) (σ : Sto) (r : Sto) (h : fX5_exchange q0 a1 a2 σ = some r) : CT sh l mX5_exchange yX5_exchange [.ref q0, .int a1, .int a2] σ (0, .int 0, r) := by
  refine kct [(0, .ref q0), (1, .int a1), (2, .int a2)] hst (by decide +kernel) rfl rfl (Nat.le_of_ble_eq_true rfl) ?_
  rw [fX5_exchange] at h
  refine kv_aload_n (pc := 0) 0 dX5_exchange_0 rfl rfl ?_
  refine kv_iload_n (pc := 1) 1 dX5_exchange_1 rfl rfl ?_
  refine kv_cV (pc := 2) [.int a1] (fun r1 => (0, .int r1, σ)) (fun r1 => (.int r1 :: [])) (fun r1 => σ) 5 0 0 h (fun r1 g2 => tX5_cellOf sh hw l hst q0 h0 a1 σ r1 g2) dX5_exchange_2 rfl h0 rfl yw_X5_cellOf lk_X5_96 (by decide) (Nat.le_of_ble_eq_true rfl) (by decide) (fun _ => rfl) (fun _ => rfl) ⟨rfl, rfl, rfl⟩ (fun _ _ h0 => absurd rfl h0) (fun r1 g2 z3 h => ?_)
  refine kv_istore_n (pc := 5) [(3, .int r1), (0, .ref q0), (1, .int a1), (2, .int a2)] dX5_exchange_5 rfl (by decide) rfl ?_
  refine kv_aload_n (pc := 6) 1 dX5_exchange_6 rfl rfl ?_
  refine kv_iload_n (pc := 7) 3 dX5_exchange_7 rfl rfl ?_
  refine kv_cV (pc := 8) [.int a2] (fun r4 => (0, .int r4, σ)) (fun r4 => (.int r4 :: [])) (fun r4 => σ) 11 0 0 h (fun r4 g5 => tX5_cellOf sh hw l hst q0 h0 a2 σ r4 g5) dX5_exchange_8 rfl h0 rfl yw_X5_cellOf lk_X5_96 (by decide) (Nat.le_of_ble_eq_true rfl) (by decide) (fun _ => rfl) (fun _ => rfl) ⟨rfl, rfl, rfl⟩ (fun _ _ h0 => absurd rfl h0) (fun r4 g5 z6 h => ?_)
  refine kv_istore (pc := 11) [(4, .int r4), (3, .int r1), (0, .ref q0), (1, .int a1), (2, .int a2)] dX5_exchange_11 (by decide) rfl ?_
  refine kv_aload_n (pc := 13) 2 dX5_exchange_13 rfl rfl ?_
  refine kv_iload_n (pc := 14) 3 dX5_exchange_14 rfl rfl ?_
  refine kv_iload (pc := 15) 0 dX5_exchange_15 rfl ?_
  refine kv_cV (pc := 17) [.int a1, .int r4] (fun r7 => (0, .int 0, r7)) (fun r7 => []) (fun r7 => r7) 20 0 0 h (fun r7 g8 => tX5_put sh hw l hst q0 h0 a1 r4 σ r7 g8) dX5_exchange_17 rfl h0 rfl yw_X5_put lk_X5_99 (by decide) (Nat.le_of_ble_eq_true rfl) (by decide) (fun _ => rfl) (fun _ => rfl) ⟨rfl, rfl, rfl⟩ (fun _ _ h0 => absurd rfl h0) (fun r7 g8 z9 h => ?_)
  refine kv_aload_n (pc := 20) 2 dX5_exchange_20 rfl rfl ?_
  refine kv_iload_n (pc := 21) 4 dX5_exchange_21 rfl rfl ?_
  refine kv_iload_n (pc := 22) 1 dX5_exchange_22 rfl rfl ?_
  refine kv_cV (pc := 23) [.int a2, .int r1] (fun r10 => (0, .int 0, r10)) (fun r10 => []) (fun r10 => r10) 26 0 0 h (fun r10 g11 => tX5_put sh hw l hst q0 h0 a2 r1 r7 r10 g11) dX5_exchange_23 rfl h0 rfl yw_X5_put lk_X5_99 (by decide) (Nat.le_of_ble_eq_true rfl) (by decide) (fun _ => rfl) (fun _ => rfl) ⟨rfl, rfl, rfl⟩ (fun _ _ h0 => absurd rfl h0) (fun r10 g11 z12 h => ?_)
  exact kv_vret (pc := 26) (v := .int 0) dX5_exchange_26 rfl (by cases h; rfl) (by decide) (by decide)
theorem yw_X5_exchange : KMV yX5_exchange mX5_exchange RX5 2 := ⟨⟨rfl, by decide +kernel, by decide +kernel, by decide +kernel⟩, ⟨rfl, rfl⟩, kg_in 797 (by decide +kernel) (by decide +kernel), kg_in 798 (by decide +kernel) (by decide +kernel), kg_in 48 (by decide +kernel) (by decide +kernel), kg_in 799 (by decide +kernel) (by decide +kernel)⟩
theorem dX5_isCovered_0 : decode cX5_isCovered 0 = .ok (.aload_n 0, 1) := by decide +kernel
theorem dX5_isCovered_1 : decode cX5_isCovered 1 = .ok (.getfield 57, 3) := by decide +kernel
theorem dX5_isCovered_4 : decode cX5_isCovered 4 = .ok (.iconst 1, 1) := by decide +kernel
theorem dX5_isCovered_5 : decode cX5_isCovered 5 = .ok (.iload_n 1, 1) := by decide +kernel
theorem dX5_isCovered_6 : decode cX5_isCovered 6 = .ok (.ishl, 1) := by decide +kernel
theorem dX5_isCovered_7 : decode cX5_isCovered 7 = .ok (.iand, 1) := by decide +kernel
theorem dX5_isCovered_8 : decode cX5_isCovered 8 = .ok (.ifCond .eq 7, 3) := by decide +kernel
theorem dX5_isCovered_11 : decode cX5_isCovered 11 = .ok (.iconst 1, 1) := by decide +kernel
theorem dX5_isCovered_12 : decode cX5_isCovered 12 = .ok (.goto 4, 3) := by decide +kernel
theorem dX5_isCovered_15 : decode cX5_isCovered 15 = .ok (.iconst 0, 1) := by decide +kernel
theorem dX5_isCovered_16 : decode cX5_isCovered 16 = .ok (.ireturn, 1) := by decide +kernel
abbrev mX5_isCovered : KM := (RX5, cX5_isCovered, 2, (some .boolean), { frames := 0, cells := 0, slots := 0, locals := 0 }, 0, 0)
def fX5_isCovered (q0 : Nat) (a1 : Int32) (σ : Sto) : Bool :=
  if ((σ q0 4) &&& (1 <<< (a1 &&& 31))) = 0 then
    false
  else
    true
set_option maxHeartbeats 4000000 in
set_option maxRecDepth 100000 in
theorem tX5_isCovered (sh : KSh) (hw : KWf sh) (l : Launch) (hst : l.stackTraces = false) (q0 : Nat) (h0 : sh q0 = .inl 5) (a1 : Int32) (σ : Sto) : CT sh l mX5_isCovered yX5_isCovered [.ref q0, .int a1] σ (0, .int (kb (fX5_isCovered q0 a1 σ)), σ) := by
  refine kct [(0, .ref q0), (1, .int a1)] hst (by decide +kernel) rfl rfl (Nat.le_of_ble_eq_true rfl) ?_
  generalize h : fX5_isCovered q0 a1 σ = r
  rw [fX5_isCovered] at h
  refine kv_aload_n (pc := 0) 0 dX5_isCovered_0 rfl rfl ?_
  refine kv_getI (pc := 1) dX5_isCovered_1 h0 rfl (i := 4) (by decide) rfl fl_X5_57 rfl ?_
  refine kv_iconst (pc := 4) (v := 1) dX5_isCovered_4 (by decide) ?_
  refine kv_iload_n (pc := 5) 1 dX5_isCovered_5 rfl rfl ?_
  refine kv_ishl (pc := 6) dX5_isCovered_6 ?_
  refine kv_iand (pc := 7) dX5_isCovered_7 ?_
  refine kv_if_eq (pc := 8) (tgt := 15) dX5_isCovered_8 (by decide) h (fun h => ?_) (fun h => ?_)
  · refine kv_iconst (pc := 15) (v := 0) dX5_isCovered_15 (by decide) ?_
    exact kv_zret (pc := 16) dX5_isCovered_16 rfl rfl (by subst h; rfl) (by decide) (by decide)
  · refine kv_iconst (pc := 11) (v := 1) dX5_isCovered_11 (by decide) ?_
    refine kv_goto (pc := 12) (tgt := 16) dX5_isCovered_12 (by decide) ?_
    exact kv_zret (pc := 16) dX5_isCovered_16 rfl rfl (by subst h; rfl) (by decide) (by decide)
theorem yw_X5_isCovered : KMV yX5_isCovered mX5_isCovered RX5 1 := ⟨⟨rfl, by decide +kernel, by decide +kernel, by decide +kernel⟩, ⟨rfl, rfl⟩, kg_in 527 (by decide +kernel) (by decide +kernel), kg_in 528 (by decide +kernel) (by decide +kernel), kg_in 48 (by decide +kernel) (by decide +kernel), kg_in 529 (by decide +kernel) (by decide +kernel)⟩
theorem dX5_canReflect_0 : decode cX5_canReflect 0 = .ok (.iload_n 1, 1) := by decide +kernel
theorem dX5_canReflect_1 : decode cX5_canReflect 1 = .ok (.aload_n 0, 1) := by decide +kernel
theorem dX5_canReflect_2 : decode cX5_canReflect 2 = .ok (.getfield 12, 3) := by decide +kernel
theorem dX5_canReflect_5 : decode cX5_canReflect 5 = .ok (.invokevirtual 109, 3) := by decide +kernel
theorem dX5_canReflect_8 : decode cX5_canReflect 8 = .ok (.if_icmp .ge 15, 3) := by decide +kernel
theorem dX5_canReflect_11 : decode cX5_canReflect 11 = .ok (.aload_n 0, 1) := by decide +kernel
theorem dX5_canReflect_12 : decode cX5_canReflect 12 = .ok (.iload_n 1, 1) := by decide +kernel
theorem dX5_canReflect_13 : decode cX5_canReflect 13 = .ok (.invokevirtual 113, 3) := by decide +kernel
theorem dX5_canReflect_16 : decode cX5_canReflect 16 = .ok (.ifCond .ne 7, 3) := by decide +kernel
theorem dX5_canReflect_19 : decode cX5_canReflect 19 = .ok (.iconst 1, 1) := by decide +kernel
theorem dX5_canReflect_20 : decode cX5_canReflect 20 = .ok (.goto 4, 3) := by decide +kernel
theorem dX5_canReflect_23 : decode cX5_canReflect 23 = .ok (.iconst 0, 1) := by decide +kernel
theorem dX5_canReflect_24 : decode cX5_canReflect 24 = .ok (.ireturn, 1) := by decide +kernel
abbrev mX5_canReflect : KM := (RX5, cX5_canReflect, 2, (some .boolean), { frames := 1, cells := 0, slots := 0, locals := 21 }, 0, 0)
def fX5_canReflect (q0 : Nat) (a1 : Int32) (σ : Sto) : Bool :=
  if (fX1_mirrors (q0 + 1) σ) ≤ a1 then
    false
  else
    if (fX5_isCovered q0 a1 σ) = true then
      false
    else
      true
set_option maxHeartbeats 4000000 in
set_option maxRecDepth 100000 in
theorem tX5_canReflect (sh : KSh) (hw : KWf sh) (l : Launch) (hst : l.stackTraces = false) (q0 : Nat) (h0 : sh q0 = .inl 5) (a1 : Int32) (σ : Sto) : CT sh l mX5_canReflect yX5_canReflect [.ref q0, .int a1] σ (0, .int (kb (fX5_canReflect q0 a1 σ)), σ) := by
  refine kct [(0, .ref q0), (1, .int a1)] hst (by decide +kernel) rfl rfl (Nat.le_of_ble_eq_true rfl) ?_
  generalize h : fX5_canReflect q0 a1 σ = r
  rw [fX5_canReflect] at h
  refine kv_iload_n (pc := 0) 1 dX5_canReflect_0 rfl rfl ?_
  refine kv_aload_n (pc := 1) 0 dX5_canReflect_1 rfl rfl ?_
  refine kv_getR (pc := 2) (q2 := q0 + 1) dX5_canReflect_2 h0 rfl (i := 0) (by decide) rfl fl_X5_12 rfl rfl ?_
  refine kv_tV (pc := 5) (v := .int (fX1_mirrors (q0 + 1) σ)) [] (.int (fX1_mirrors (q0 + 1) σ) :: [.int a1]) 8 0 0 (tX1_mirrors sh hw l hst (q0 + 1) (show sh (q0 + 1) = _ from kso_5_1 hw h0) σ) dX5_canReflect_5 rfl (show sh (q0 + 1) = _ from kso_5_1 hw h0) rfl yw_X1_mirrors lk_X5_109 (by decide) (Nat.le_of_ble_eq_true rfl) (by decide) rfl ⟨rfl, rfl, rfl⟩ ?_
  refine kv_icmp_ge (pc := 8) (tgt := 23) dX5_canReflect_8 (by decide) h (fun h => ?_) (fun h => ?_)
  · refine kv_iconst (pc := 23) (v := 0) dX5_canReflect_23 (by decide) ?_
    exact kv_zret (pc := 24) dX5_canReflect_24 rfl rfl (by subst h; rfl) (by decide) (by decide)
  · refine kv_aload_n (pc := 11) 0 dX5_canReflect_11 rfl rfl ?_
    refine kv_iload_n (pc := 12) 1 dX5_canReflect_12 rfl rfl ?_
    refine kv_tV (pc := 13) (v := .int (kb (fX5_isCovered q0 a1 σ))) [.int a1] (.int (kb (fX5_isCovered q0 a1 σ)) :: []) 16 0 0 (tX5_isCovered sh hw l hst q0 h0 a1 σ) dX5_canReflect_13 rfl h0 rfl yw_X5_isCovered lk_X5_113 (by decide) (Nat.le_of_ble_eq_true rfl) (by decide) rfl ⟨rfl, rfl, rfl⟩ ?_
    refine kv_ifb_ne (pc := 16) (tgt := 23) dX5_canReflect_16 (by decide) h (fun h => ?_) (fun h => ?_)
    · refine kv_iconst (pc := 23) (v := 0) dX5_canReflect_23 (by decide) ?_
      exact kv_zret (pc := 24) dX5_canReflect_24 rfl rfl (by subst h; rfl) (by decide) (by decide)
    · refine kv_iconst (pc := 19) (v := 1) dX5_canReflect_19 (by decide) ?_
      refine kv_goto (pc := 20) (tgt := 24) dX5_canReflect_20 (by decide) ?_
      exact kv_zret (pc := 24) dX5_canReflect_24 rfl rfl (by subst h; rfl) (by decide) (by decide)
theorem yw_X5_canReflect : KMV yX5_canReflect mX5_canReflect RX5 1 := ⟨⟨rfl, by decide +kernel, by decide +kernel, by decide +kernel⟩, ⟨rfl, rfl⟩, kg_in 654 (by decide +kernel) (by decide +kernel), kg_in 655 (by decide +kernel) (by decide +kernel), kg_in 48 (by decide +kernel) (by decide +kernel), kg_in 656 (by decide +kernel) (by decide +kernel)⟩
theorem dX5_colourOf_0 : decode cX5_colourOf 0 = .ok (.aload_n 0, 1) := by decide +kernel
theorem dX5_colourOf_1 : decode cX5_colourOf 1 = .ok (.iload_n 1, 1) := by decide +kernel
theorem dX5_colourOf_2 : decode cX5_colourOf 2 = .ok (.invokevirtual 82, 3) := by decide +kernel
theorem dX5_colourOf_5 : decode cX5_colourOf 5 = .ok (.ifCond .eq 12, 3) := by decide +kernel
theorem dX5_colourOf_8 : decode cX5_colourOf 8 = .ok (.aload_n 0, 1) := by decide +kernel
theorem dX5_colourOf_9 : decode cX5_colourOf 9 = .ok (.getfield 26, 3) := by decide +kernel
theorem dX5_colourOf_12 : decode cX5_colourOf 12 = .ok (.iload_n 1, 1) := by decide +kernel
theorem dX5_colourOf_13 : decode cX5_colourOf 13 = .ok (.iaload, 1) := by decide +kernel
theorem dX5_colourOf_14 : decode cX5_colourOf 14 = .ok (.goto 4, 3) := by decide +kernel
theorem dX5_colourOf_17 : decode cX5_colourOf 17 = .ok (.iconst 0, 1) := by decide +kernel
theorem dX5_colourOf_18 : decode cX5_colourOf 18 = .ok (.ireturn, 1) := by decide +kernel
abbrev mX5_colourOf : KM := (RX5, cX5_colourOf, 2, (some .int), { frames := 1, cells := 0, slots := 0, locals := 21 }, 0, 0)
def fX5_colourOf (q0 : Nat) (a1 : Int32) (σ : Sto) : Option Int32 :=
  if (fX5_isChip q0 a1 σ) = true then
    if kin a1 30 = true then
      some (σ (q0 + 4) a1.toNatClampNeg)
    else none
  else
    some 0
set_option maxHeartbeats 4000000 in
set_option maxRecDepth 100000 in
theorem tX5_colourOf (sh : KSh) (hw : KWf sh) (l : Launch) (hst : l.stackTraces = false) (q0 : Nat) (h0 : sh q0 = .inl 5) (a1 : Int32) (σ : Sto) (r : Int32) (h : fX5_colourOf q0 a1 σ = some r) : CT sh l mX5_colourOf yX5_colourOf [.ref q0, .int a1] σ (0, .int r, σ) := by
  refine kct [(0, .ref q0), (1, .int a1)] hst (by decide +kernel) rfl rfl (Nat.le_of_ble_eq_true rfl) ?_
  rw [fX5_colourOf] at h
  refine kv_aload_n (pc := 0) 0 dX5_colourOf_0 rfl rfl ?_
  refine kv_iload_n (pc := 1) 1 dX5_colourOf_1 rfl rfl ?_
  refine kv_tV (pc := 2) (v := .int (kb (fX5_isChip q0 a1 σ))) [.int a1] (.int (kb (fX5_isChip q0 a1 σ)) :: []) 5 0 0 (tX5_isChip sh hw l hst q0 h0 a1 σ) dX5_colourOf_2 rfl h0 rfl yw_X5_isChip lk_X5_82 (by decide) (Nat.le_of_ble_eq_true rfl) (by decide) rfl ⟨rfl, rfl, rfl⟩ ?_
  refine kv_ifb_eq (pc := 5) (tgt := 17) dX5_colourOf_5 (by decide) h (fun h => ?_) (fun h => ?_)
  · refine kv_iconst (pc := 17) (v := 0) dX5_colourOf_17 (by decide) ?_
    exact kv_iret (pc := 18) dX5_colourOf_18 rfl (by cases h; rfl) (by decide) (by decide)
  · refine kv_aload_n (pc := 8) 0 dX5_colourOf_8 rfl rfl ?_
    refine kv_getR (pc := 9) (q2 := q0 + 4) dX5_colourOf_9 h0 rfl (i := 10) (by decide) rfl fl_X5_26 rfl rfl ?_
    refine kv_iload_n (pc := 12) 1 dX5_colourOf_12 rfl rfl ?_
    refine kv_iald (pc := 13) dX5_colourOf_13 (show sh (q0 + 4) = _ from kso_5_4 hw h0) h (fun h => ?_)
    refine kv_goto (pc := 14) (tgt := 18) dX5_colourOf_14 (by decide) ?_
    exact kv_iret (pc := 18) dX5_colourOf_18 rfl (by cases h; rfl) (by decide) (by decide)
theorem yw_X5_colourOf : KMV yX5_colourOf mX5_colourOf RX5 1 := ⟨⟨rfl, by decide +kernel, by decide +kernel, by decide +kernel⟩, ⟨rfl, rfl⟩, kg_in 673 (by decide +kernel) (by decide +kernel), kg_in 674 (by decide +kernel) (by decide +kernel), kg_in 48 (by decide +kernel) (by decide +kernel), kg_in 675 (by decide +kernel) (by decide +kernel)⟩
theorem dX5_colourOn_0 : decode cX5_colourOn 0 = .ok (.aload_n 0, 1) := by decide +kernel
theorem dX5_colourOn_1 : decode cX5_colourOn 1 = .ok (.aload_n 0, 1) := by decide +kernel
theorem dX5_colourOn_2 : decode cX5_colourOn 2 = .ok (.iload_n 1, 1) := by decide +kernel
theorem dX5_colourOn_3 : decode cX5_colourOn 3 = .ok (.invokevirtual 89, 3) := by decide +kernel
theorem dX5_colourOn_6 : decode cX5_colourOn 6 = .ok (.invokevirtual 93, 3) := by decide +kernel
theorem dX5_colourOn_9 : decode cX5_colourOn 9 = .ok (.ireturn, 1) := by decide +kernel
abbrev mX5_colourOn : KM := (RX5, cX5_colourOn, 2, (some .int), { frames := 2, cells := 0, slots := 0, locals := 42 }, 0, 0)
def fX5_colourOn (q0 : Nat) (a1 : Int32) (σ : Sto) : Option Int32 :=
  (fX5_chipOn q0 a1 σ).bind fun r1 =>
  (fX5_colourOf q0 r1 σ).bind fun r4 =>
  some r4
set_option maxHeartbeats 4000000 in
set_option maxRecDepth 100000 in
theorem tX5_colourOn (sh : KSh) (hw : KWf sh) (l : Launch) (hst : l.stackTraces = false) (q0 : Nat) (h0 : sh q0 = .inl 5) (a1 : Int32) (σ : Sto) (r : Int32) (h : fX5_colourOn q0 a1 σ = some r) : CT sh l mX5_colourOn yX5_colourOn [.ref q0, .int a1] σ (0, .int r, σ) := by
  refine kct [(0, .ref q0), (1, .int a1)] hst (by decide +kernel) rfl rfl (Nat.le_of_ble_eq_true rfl) ?_
  rw [fX5_colourOn] at h
  refine kv_aload_n (pc := 0) 0 dX5_colourOn_0 rfl rfl ?_
  refine kv_aload_n (pc := 1) 0 dX5_colourOn_1 rfl rfl ?_
  refine kv_iload_n (pc := 2) 1 dX5_colourOn_2 rfl rfl ?_
  refine kv_cV (pc := 3) [.int a1] (fun r1 => (0, .int r1, σ)) (fun r1 => (.int r1 :: [.ref q0])) (fun r1 => σ) 6 0 0 h (fun r1 g2 => tX5_chipOn sh hw l hst q0 h0 a1 σ r1 g2) dX5_colourOn_3 rfl h0 rfl yw_X5_chipOn lk_X5_89 (by decide) (Nat.le_of_ble_eq_true rfl) (by decide) (fun _ => rfl) (fun _ => rfl) ⟨rfl, rfl, rfl⟩ (fun _ _ h0 => absurd rfl h0) (fun r1 g2 z3 h => ?_)
  refine kv_cV (pc := 6) [.int r1] (fun r4 => (0, .int r4, σ)) (fun r4 => (.int r4 :: [])) (fun r4 => σ) 9 0 0 h (fun r4 g5 => tX5_colourOf sh hw l hst q0 h0 r1 σ r4 g5) dX5_colourOn_6 rfl h0 rfl yw_X5_colourOf lk_X5_93 (by decide) (Nat.le_of_ble_eq_true rfl) (by decide) (fun _ => rfl) (fun _ => rfl) ⟨rfl, rfl, rfl⟩ (fun _ _ h0 => absurd rfl h0) (fun r4 g5 z6 h => ?_)
  exact kv_iret (pc := 9) dX5_colourOn_9 rfl (by cases h; rfl) (by decide) (by decide)
theorem yw_X5_colourOn : KMV yX5_colourOn mX5_colourOn RX5 1 := ⟨⟨rfl, by decide +kernel, by decide +kernel, by decide +kernel⟩, ⟨rfl, rfl⟩, kg_in 668 (by decide +kernel) (by decide +kernel), kg_in 669 (by decide +kernel) (by decide +kernel), kg_in 48 (by decide +kernel) (by decide +kernel), kg_in 670 (by decide +kernel) (by decide +kernel)⟩
theorem dX5_begin_0 : decode cX5_begin 0 = .ok (.aload_n 0, 1) := by decide +kernel
theorem dX5_begin_1 : decode cX5_begin 1 = .ok (.getfield 12, 3) := by decide +kernel
theorem dX5_begin_4 : decode cX5_begin 4 = .ok (.iload_n 1, 1) := by decide +kernel
theorem dX5_begin_5 : decode cX5_begin 5 = .ok (.iload_n 2, 1) := by decide +kernel
theorem dX5_begin_6 : decode cX5_begin 6 = .ok (.invokevirtual 47, 3) := by decide +kernel
theorem dX5_begin_9 : decode cX5_begin 9 = .ok (.aload_n 0, 1) := by decide +kernel
theorem dX5_begin_10 : decode cX5_begin 10 = .ok (.iconst 0, 1) := by decide +kernel
theorem dX5_begin_11 : decode cX5_begin 11 = .ok (.putfield 51, 3) := by decide +kernel
theorem dX5_begin_14 : decode cX5_begin 14 = .ok (.aload_n 0, 1) := by decide +kernel
theorem dX5_begin_15 : decode cX5_begin 15 = .ok (.bipush 90, 2) := by decide +kernel
theorem dX5_begin_17 : decode cX5_begin 17 = .ok (.putfield 18, 3) := by decide +kernel
theorem dX5_begin_20 : decode cX5_begin 20 = .ok (.aload_n 0, 1) := by decide +kernel
theorem dX5_begin_21 : decode cX5_begin 21 = .ok (.iconst 0, 1) := by decide +kernel
theorem dX5_begin_22 : decode cX5_begin 22 = .ok (.putfield 54, 3) := by decide +kernel
theorem dX5_begin_25 : decode cX5_begin 25 = .ok (.aload_n 0, 1) := by decide +kernel
theorem dX5_begin_26 : decode cX5_begin 26 = .ok (.iconst 0, 1) := by decide +kernel
theorem dX5_begin_27 : decode cX5_begin 27 = .ok (.putfield 57, 3) := by decide +kernel
theorem dX5_begin_30 : decode cX5_begin 30 = .ok (.aload_n 0, 1) := by decide +kernel
theorem dX5_begin_31 : decode cX5_begin 31 = .ok (.iconst 0, 1) := by decide +kernel
theorem dX5_begin_32 : decode cX5_begin 32 = .ok (.putfield 60, 3) := by decide +kernel
theorem dX5_begin_35 : decode cX5_begin 35 = .ok (.aload_n 0, 1) := by decide +kernel
theorem dX5_begin_36 : decode cX5_begin 36 = .ok (.iconst 0, 1) := by decide +kernel
theorem dX5_begin_37 : decode cX5_begin 37 = .ok (.putfield 63, 3) := by decide +kernel
theorem dX5_begin_40 : decode cX5_begin 40 = .ok (.aload_n 0, 1) := by decide +kernel
theorem dX5_begin_41 : decode cX5_begin 41 = .ok (.iconst 0, 1) := by decide +kernel
theorem dX5_begin_42 : decode cX5_begin 42 = .ok (.putfield 66, 3) := by decide +kernel
theorem dX5_begin_45 : decode cX5_begin 45 = .ok (.aload_n 0, 1) := by decide +kernel
theorem dX5_begin_46 : decode cX5_begin 46 = .ok (.iconst 0, 1) := by decide +kernel
theorem dX5_begin_47 : decode cX5_begin 47 = .ok (.putfield 69, 3) := by decide +kernel
theorem dX5_begin_50 : decode cX5_begin 50 = .ok (.aload_n 0, 1) := by decide +kernel
theorem dX5_begin_51 : decode cX5_begin 51 = .ok (.getfield 38, 3) := by decide +kernel
theorem dX5_begin_54 : decode cX5_begin 54 = .ok (.iconst (-1), 1) := by decide +kernel
theorem dX5_begin_55 : decode cX5_begin 55 = .ok (.invokestatic 41, 3) := by decide +kernel
theorem dX5_begin_58 : decode cX5_begin 58 = .ok (.return_, 1) := by decide +kernel
abbrev mX5_begin : KM := (RX5, cX5_begin, 3, none, { frames := 3, cells := 0, slots := 0, locals := 68 }, 0, 0)
def fX5_begin (q0 : Nat) (a1 : Int32) (a2 : Int32) (σ : Sto) : Option Sto :=
  (fX1_become (q0 + 1) a1 a2 σ).bind fun r1 =>
  klet (su r1 q0 1 0) fun σ4 =>
  klet (su σ4 q0 2 90) fun σ5 =>
  klet (su σ5 q0 3 0) fun σ6 =>
  klet (su σ6 q0 4 0) fun σ7 =>
  klet (su σ7 q0 5 0) fun σ8 =>
  klet (su σ8 q0 6 0) fun σ9 =>
  klet (su σ9 q0 7 0) fun σ10 =>
  klet (su σ10 q0 8 0) fun σ11 =>
  (fJ7_fill_53178 (q0 + 8) 225 (-1) σ11).bind fun r12 =>
  some r12
set_option maxHeartbeats 4000000 in
set_option maxRecDepth 100000 in
theorem tX5_begin (sh : KSh) (hw : KWf sh) (l : Launch) (hst : l.stackTraces = false) (q0 : Nat) (h0 : sh q0 = .inl 5) (a1 : Int32) (a2 : Int32) (σ : Sto) (r : Sto) (h : fX5_begin q0 a1 a2 σ = some r) : CT sh l mX5_begin yX5_begin [.ref q0, .int a1, .int a2] σ (0, .int 0, r) := by
  refine kct [(0, .ref q0), (1, .int a1), (2, .int a2)] hst (by decide +kernel) rfl rfl (Nat.le_of_ble_eq_true rfl) ?_
  rw [fX5_begin] at h
  refine kv_aload_n (pc := 0) 0 dX5_begin_0 rfl rfl ?_
  refine kv_getR (pc := 1) (q2 := q0 + 1) dX5_begin_1 h0 rfl (i := 0) (by decide) rfl fl_X5_12 rfl rfl ?_
  refine kv_iload_n (pc := 4) 1 dX5_begin_4 rfl rfl ?_
  refine kv_iload_n (pc := 5) 2 dX5_begin_5 rfl rfl ?_
  refine kv_cV (pc := 6) [.int a1, .int a2] (fun r1 => (0, .int 0, r1)) (fun r1 => []) (fun r1 => r1) 9 0 0 h (fun r1 g2 => tX1_become sh hw l hst (q0 + 1) (show sh (q0 + 1) = _ from kso_5_1 hw h0) a1 a2 σ r1 g2) dX5_begin_6 rfl (show sh (q0 + 1) = _ from kso_5_1 hw h0) rfl yw_X1_become lk_X5_47 (by decide) (Nat.le_of_ble_eq_true rfl) (by decide) (fun _ => rfl) (fun _ => rfl) ⟨rfl, rfl, rfl⟩ (fun _ _ h0 => absurd rfl h0) (fun r1 g2 z3 h => ?_)
  refine kv_aload_n (pc := 9) 0 dX5_begin_9 rfl rfl ?_
  refine kv_iconst (pc := 10) (v := 0) dX5_begin_10 (by decide) ?_
  refine kv_put (pc := 11) tyX5 tyX5_ok nmX5 dX5_begin_11 h0 rfl (i := 1) (by decide) rfl fl_X5_51 rfl rfl rfl rfl rfl ?_
  refine kv_let h (fun σ4 h => ?_)
  refine kv_aload_n (pc := 14) 0 dX5_begin_14 rfl rfl ?_
  refine kv_bipush (pc := 15) (v := 90) dX5_begin_15 (by decide) ?_
  refine kv_put (pc := 17) tyX5 tyX5_ok nmX5 dX5_begin_17 h0 rfl (i := 2) (by decide) rfl fl_X5_18 rfl rfl rfl rfl rfl ?_
  refine kv_let h (fun σ5 h => ?_)
  refine kv_aload_n (pc := 20) 0 dX5_begin_20 rfl rfl ?_
  refine kv_iconst (pc := 21) (v := 0) dX5_begin_21 (by decide) ?_
  refine kv_put (pc := 22) tyX5 tyX5_ok nmX5 dX5_begin_22 h0 rfl (i := 3) (by decide) rfl fl_X5_54 rfl rfl rfl rfl rfl ?_
  refine kv_let h (fun σ6 h => ?_)
  refine kv_aload_n (pc := 25) 0 dX5_begin_25 rfl rfl ?_
  refine kv_iconst (pc := 26) (v := 0) dX5_begin_26 (by decide) ?_
  refine kv_put (pc := 27) tyX5 tyX5_ok nmX5 dX5_begin_27 h0 rfl (i := 4) (by decide) rfl fl_X5_57 rfl rfl rfl rfl rfl ?_
  refine kv_let h (fun σ7 h => ?_)
  refine kv_aload_n (pc := 30) 0 dX5_begin_30 rfl rfl ?_
  refine kv_iconst (pc := 31) (v := 0) dX5_begin_31 (by decide) ?_
  refine kv_put (pc := 32) tyX5 tyX5_ok nmX5 dX5_begin_32 h0 rfl (i := 5) (by decide) rfl fl_X5_60 rfl rfl rfl rfl rfl ?_
  refine kv_let h (fun σ8 h => ?_)
  refine kv_aload_n (pc := 35) 0 dX5_begin_35 rfl rfl ?_
  refine kv_iconst (pc := 36) (v := 0) dX5_begin_36 (by decide) ?_
  refine kv_put (pc := 37) tyX5 tyX5_ok nmX5 dX5_begin_37 h0 rfl (i := 6) (by decide) rfl fl_X5_63 rfl rfl rfl rfl rfl ?_
  refine kv_let h (fun σ9 h => ?_)
  refine kv_aload_n (pc := 40) 0 dX5_begin_40 rfl rfl ?_
  refine kv_iconst (pc := 41) (v := 0) dX5_begin_41 (by decide) ?_
  refine kv_put (pc := 42) tyX5 tyX5_ok nmX5 dX5_begin_42 h0 rfl (i := 7) (by decide) rfl fl_X5_66 rfl rfl rfl rfl rfl ?_
  refine kv_let h (fun σ10 h => ?_)
  refine kv_aload_n (pc := 45) 0 dX5_begin_45 rfl rfl ?_
  refine kv_iconst (pc := 46) (v := 0) dX5_begin_46 (by decide) ?_
  refine kv_put (pc := 47) tyX5 tyX5_ok nmX5 dX5_begin_47 h0 rfl (i := 8) (by decide) rfl fl_X5_69 rfl rfl rfl rfl rfl ?_
  refine kv_let h (fun σ11 h => ?_)
  refine kv_aload_n (pc := 50) 0 dX5_begin_50 rfl rfl ?_
  refine kv_getR (pc := 51) (q2 := q0 + 8) dX5_begin_51 h0 rfl (i := 14) (by decide) rfl fl_X5_38 rfl rfl ?_
  refine kv_iconst (pc := 54) (v := (-1)) dX5_begin_54 (by decide) ?_
  refine kv_cS (pc := 55) [.ref (q0 + 8), .int (-1)] (fun r12 => (0, .int 0, r12)) (fun r12 => []) (fun r12 => r12) 58 0 0 h (fun r12 g13 => tJ7_fill_53178 sh hw l hst (q0 + 8) 225 (show sh (q0 + 8) = _ from kso_5_8 hw h0) (-1) σ11 r12 g13) dX5_begin_55 rfl yw_J7_fill_53178 lk_X5_41 (by decide) (Nat.le_of_ble_eq_true rfl) (by decide) (fun _ => rfl) (fun _ => rfl) ⟨rfl, rfl, rfl⟩ (fun _ _ h0 => absurd rfl h0) (fun r12 g13 z14 h => ?_)
  exact kv_vret (pc := 58) (v := .int 0) dX5_begin_58 rfl (by cases h; rfl) (by decide) (by decide)
theorem yw_X5_begin : KMV yX5_begin mX5_begin RX5 2 := ⟨⟨rfl, by decide +kernel, by decide +kernel, by decide +kernel⟩, ⟨rfl, rfl⟩, kg_in 437 (by decide +kernel) (by decide +kernel), kg_in 438 (by decide +kernel) (by decide +kernel), kg_in 48 (by decide +kernel) (by decide +kernel), kg_in 439 (by decide +kernel) (by decide +kernel)⟩
theorem dX5_bring_0 : decode cX5_bring 0 = .ok (.aload_n 0, 1) := by decide +kernel
theorem dX5_bring_1 : decode cX5_bring 1 = .ok (.getfield 69, 3) := by decide +kernel
theorem dX5_bring_4 : decode cX5_bring 4 = .ok (.ifCond .lt 12, 3) := by decide +kernel
theorem dX5_bring_7 : decode cX5_bring 7 = .ok (.aload_n 0, 1) := by decide +kernel
theorem dX5_bring_8 : decode cX5_bring 8 = .ok (.getfield 69, 3) := by decide +kernel
theorem dX5_bring_11 : decode cX5_bring 11 = .ok (.bipush 30, 2) := by decide +kernel
theorem dX5_bring_13 : decode cX5_bring 13 = .ok (.if_icmp .lt 5, 3) := by decide +kernel
theorem dX5_bring_16 : decode cX5_bring 16 = .ok (.iconst (-1), 1) := by decide +kernel
theorem dX5_bring_17 : decode cX5_bring 17 = .ok (.ireturn, 1) := by decide +kernel
theorem dX5_bring_18 : decode cX5_bring 18 = .ok (.aload_n 0, 1) := by decide +kernel
theorem dX5_bring_19 : decode cX5_bring 19 = .ok (.getfield 69, 3) := by decide +kernel
theorem dX5_bring_22 : decode cX5_bring 22 = .ok (.istore 5, 2) := by decide +kernel
theorem dX5_bring_24 : decode cX5_bring 24 = .ok (.aload_n 0, 1) := by decide +kernel
theorem dX5_bring_25 : decode cX5_bring 25 = .ok (.dup, 1) := by decide +kernel
theorem dX5_bring_26 : decode cX5_bring 26 = .ok (.getfield 69, 3) := by decide +kernel
theorem dX5_bring_29 : decode cX5_bring 29 = .ok (.iconst 1, 1) := by decide +kernel
theorem dX5_bring_30 : decode cX5_bring 30 = .ok (.iadd, 1) := by decide +kernel
theorem dX5_bring_31 : decode cX5_bring 31 = .ok (.putfield 69, 3) := by decide +kernel
theorem dX5_bring_34 : decode cX5_bring 34 = .ok (.aload_n 0, 1) := by decide +kernel
theorem dX5_bring_35 : decode cX5_bring 35 = .ok (.getfield 22, 3) := by decide +kernel
theorem dX5_bring_38 : decode cX5_bring 38 = .ok (.iload 5, 2) := by decide +kernel
theorem dX5_bring_40 : decode cX5_bring 40 = .ok (.iload_n 1, 1) := by decide +kernel
theorem dX5_bring_41 : decode cX5_bring 41 = .ok (.iastore, 1) := by decide +kernel
theorem dX5_bring_42 : decode cX5_bring 42 = .ok (.aload_n 0, 1) := by decide +kernel
theorem dX5_bring_43 : decode cX5_bring 43 = .ok (.getfield 26, 3) := by decide +kernel
theorem dX5_bring_46 : decode cX5_bring 46 = .ok (.iload 5, 2) := by decide +kernel
theorem dX5_bring_48 : decode cX5_bring 48 = .ok (.iload_n 2, 1) := by decide +kernel
theorem dX5_bring_49 : decode cX5_bring 49 = .ok (.iastore, 1) := by decide +kernel
theorem dX5_bring_50 : decode cX5_bring 50 = .ok (.aload_n 0, 1) := by decide +kernel
theorem dX5_bring_51 : decode cX5_bring 51 = .ok (.getfield 29, 3) := by decide +kernel
theorem dX5_bring_54 : decode cX5_bring 54 = .ok (.iload 5, 2) := by decide +kernel
theorem dX5_bring_56 : decode cX5_bring 56 = .ok (.iload_n 3, 1) := by decide +kernel
theorem dX5_bring_57 : decode cX5_bring 57 = .ok (.iastore, 1) := by decide +kernel
theorem dX5_bring_58 : decode cX5_bring 58 = .ok (.aload_n 0, 1) := by decide +kernel
theorem dX5_bring_59 : decode cX5_bring 59 = .ok (.getfield 35, 3) := by decide +kernel
theorem dX5_bring_62 : decode cX5_bring 62 = .ok (.iload 5, 2) := by decide +kernel
theorem dX5_bring_64 : decode cX5_bring 64 = .ok (.iconst 0, 1) := by decide +kernel
theorem dX5_bring_65 : decode cX5_bring 65 = .ok (.iastore, 1) := by decide +kernel
theorem dX5_bring_66 : decode cX5_bring 66 = .ok (.aload_n 0, 1) := by decide +kernel
theorem dX5_bring_67 : decode cX5_bring 67 = .ok (.iload 5, 2) := by decide +kernel
theorem dX5_bring_69 : decode cX5_bring 69 = .ok (.iload 4, 2) := by decide +kernel
theorem dX5_bring_71 : decode cX5_bring 71 = .ok (.invokevirtual 99, 3) := by decide +kernel
theorem dX5_bring_74 : decode cX5_bring 74 = .ok (.iload 5, 2) := by decide +kernel
theorem dX5_bring_76 : decode cX5_bring 76 = .ok (.ireturn, 1) := by decide +kernel
abbrev mX5_bring : KM := (RX5, cX5_bring, 6, (some .int), { frames := 2, cells := 0, slots := 0, locals := 43 }, 0, 0)
def fX5_bring (q0 : Nat) (a1 : Int32) (a2 : Int32) (a3 : Int32) (a4 : Int32) (σ : Sto) : Option (Int32 × Sto) :=
  if (σ q0 8) < 0 then
    some ((-1), σ)
  else
    if (σ q0 8) < 30 then
      klet (su σ q0 8 ((σ q0 8) + 1)) fun σ1 =>
      if kin (σ q0 8) 30 = true then
        klet (su σ1 (q0 + 3) (σ q0 8).toNatClampNeg a1) fun σ2 =>
        if kin (σ q0 8) 30 = true then
          klet (su σ2 (q0 + 4) (σ q0 8).toNatClampNeg a2) fun σ3 =>
          if kin (σ q0 8) 30 = true then
            klet (su σ3 (q0 + 5) (σ q0 8).toNatClampNeg a3) fun σ4 =>
            if kin (σ q0 8) 30 = true then
              klet (su σ4 (q0 + 7) (σ q0 8).toNatClampNeg 0) fun σ5 =>
              (fX5_put q0 (σ q0 8) a4 σ5).bind fun r6 =>
              some ((σ q0 8), r6)
            else none
          else none
        else none
      else none
    else
      some ((-1), σ)
set_option maxHeartbeats 4000000 in
set_option maxRecDepth 100000 in
theorem tX5_bring (sh : KSh) (hw : KWf sh) (l : Launch) (hst : l.stackTraces = false) (q0 : Nat) (h0 : sh q0 = .inl 5) (a1 : Int32) (a2 : Int32) (a3 : Int32) (a4 : Int32) (σ : Sto) (r : (Int32 × Sto)) (h : fX5_bring q0 a1 a2 a3 a4 σ = some r) : CT sh l mX5_bring yX5_bring [.ref q0, .int a1, .int a2, .int a3, .int a4] σ (0, .int r.1, r.2) := by
  refine kct [(0, .ref q0), (1, .int a1), (2, .int a2), (3, .int a3), (4, .int a4)] hst (by decide +kernel) rfl rfl (Nat.le_of_ble_eq_true rfl) ?_
  rw [fX5_bring] at h
  refine kv_aload_n (pc := 0) 0 dX5_bring_0 rfl rfl ?_
  refine kv_getI (pc := 1) dX5_bring_1 h0 rfl (i := 8) (by decide) rfl fl_X5_69 rfl ?_
  refine kv_if_lt (pc := 4) (tgt := 16) dX5_bring_4 (by decide) h (fun h => ?_) (fun h => ?_)
  · refine kv_iconst (pc := 16) (v := (-1)) dX5_bring_16 (by decide) ?_
    exact kv_iret (pc := 17) dX5_bring_17 rfl (by cases h; rfl) (by decide) (by decide)
  · refine kv_aload_n (pc := 7) 0 dX5_bring_7 rfl rfl ?_
    refine kv_getI (pc := 8) dX5_bring_8 h0 rfl (i := 8) (by decide) rfl fl_X5_69 rfl ?_
    refine kv_bipush (pc := 11) (v := 30) dX5_bring_11 (by decide) ?_
    refine kv_icmp_lt (pc := 13) (tgt := 18) dX5_bring_13 (by decide) h (fun h => ?_) (fun h => ?_)
    · refine kv_aload_n (pc := 18) 0 dX5_bring_18 rfl rfl ?_
      refine kv_getI (pc := 19) dX5_bring_19 h0 rfl (i := 8) (by decide) rfl fl_X5_69 rfl ?_
      refine kv_istore (pc := 22) [(5, .int (σ q0 8)), (0, .ref q0), (1, .int a1), (2, .int a2), (3, .int a3), (4, .int a4)] dX5_bring_22 (by decide) rfl ?_
      refine kv_aload_n (pc := 24) 1 dX5_bring_24 rfl rfl ?_
      refine kv_dup (pc := 25) dX5_bring_25 rfl ?_
      refine kv_getI (pc := 26) dX5_bring_26 h0 rfl (i := 8) (by decide) rfl fl_X5_69 rfl ?_
      refine kv_iconst (pc := 29) (v := 1) dX5_bring_29 (by decide) ?_
      refine kv_iadd (pc := 30) dX5_bring_30 ?_
      refine kv_put (pc := 31) tyX5 tyX5_ok nmX5 dX5_bring_31 h0 rfl (i := 8) (by decide) rfl fl_X5_69 rfl rfl rfl rfl rfl ?_
      refine kv_let h (fun σ1 h => ?_)
      refine kv_aload_n (pc := 34) 1 dX5_bring_34 rfl rfl ?_
      refine kv_getR (pc := 35) (q2 := q0 + 3) dX5_bring_35 h0 rfl (i := 9) (by decide) rfl fl_X5_22 rfl rfl ?_
      refine kv_iload (pc := 38) 0 dX5_bring_38 rfl ?_
      refine kv_iload_n (pc := 40) 2 dX5_bring_40 rfl rfl ?_
      refine kv_iast (pc := 41) dX5_bring_41 (show sh (q0 + 3) = _ from kso_5_3 hw h0) h (fun h => ?_)
      refine kv_let h (fun σ2 h => ?_)
      refine kv_aload_n (pc := 42) 1 dX5_bring_42 rfl rfl ?_
      refine kv_getR (pc := 43) (q2 := q0 + 4) dX5_bring_43 h0 rfl (i := 10) (by decide) rfl fl_X5_26 rfl rfl ?_
      refine kv_iload (pc := 46) 0 dX5_bring_46 rfl ?_
      refine kv_iload_n (pc := 48) 3 dX5_bring_48 rfl rfl ?_
      refine kv_iast (pc := 49) dX5_bring_49 (show sh (q0 + 4) = _ from kso_5_4 hw h0) h (fun h => ?_)
      refine kv_let h (fun σ3 h => ?_)
      refine kv_aload_n (pc := 50) 1 dX5_bring_50 rfl rfl ?_
      refine kv_getR (pc := 51) (q2 := q0 + 5) dX5_bring_51 h0 rfl (i := 11) (by decide) rfl fl_X5_29 rfl rfl ?_
      refine kv_iload (pc := 54) 0 dX5_bring_54 rfl ?_
      refine kv_iload_n (pc := 56) 4 dX5_bring_56 rfl rfl ?_
      refine kv_iast (pc := 57) dX5_bring_57 (show sh (q0 + 5) = _ from kso_5_5 hw h0) h (fun h => ?_)
      refine kv_let h (fun σ4 h => ?_)
      refine kv_aload_n (pc := 58) 1 dX5_bring_58 rfl rfl ?_
      refine kv_getR (pc := 59) (q2 := q0 + 7) dX5_bring_59 h0 rfl (i := 13) (by decide) rfl fl_X5_35 rfl rfl ?_
      refine kv_iload (pc := 62) 0 dX5_bring_62 rfl ?_
      refine kv_iconst (pc := 64) (v := 0) dX5_bring_64 (by decide) ?_
      refine kv_iast (pc := 65) dX5_bring_65 (show sh (q0 + 7) = _ from kso_5_7 hw h0) h (fun h => ?_)
      refine kv_let h (fun σ5 h => ?_)
      refine kv_aload_n (pc := 66) 1 dX5_bring_66 rfl rfl ?_
      refine kv_iload (pc := 67) 0 dX5_bring_67 rfl ?_
      refine kv_iload (pc := 69) 5 dX5_bring_69 rfl ?_
      refine kv_cV (pc := 71) [.int (σ q0 8), .int a4] (fun r6 => (0, .int 0, r6)) (fun r6 => []) (fun r6 => r6) 74 0 0 h (fun r6 g7 => tX5_put sh hw l hst q0 h0 (σ q0 8) a4 σ5 r6 g7) dX5_bring_71 rfl h0 rfl yw_X5_put lk_X5_99 (by decide) (Nat.le_of_ble_eq_true rfl) (by decide) (fun _ => rfl) (fun _ => rfl) ⟨rfl, rfl, rfl⟩ (fun _ _ h0 => absurd rfl h0) (fun r6 g7 z8 h => ?_)
      refine kv_iload (pc := 74) 0 dX5_bring_74 rfl ?_
      exact kv_iret (pc := 76) dX5_bring_76 rfl (by cases h; rfl) (by decide) (by decide)
    · refine kv_iconst (pc := 16) (v := (-1)) dX5_bring_16 (by decide) ?_
      exact kv_iret (pc := 17) dX5_bring_17 rfl (by cases h; rfl) (by decide) (by decide)
theorem yw_X5_bring : KMV yX5_bring mX5_bring RX5 4 := ⟨⟨rfl, by decide +kernel, by decide +kernel, by decide +kernel⟩, ⟨rfl, rfl⟩, kg_in 492 (by decide +kernel) (by decide +kernel), kg_in 493 (by decide +kernel) (by decide +kernel), kg_in 48 (by decide +kernel) (by decide +kernel), kg_in 494 (by decide +kernel) (by decide +kernel)⟩
theorem dX5_setCovered_0 : decode cX5_setCovered 0 = .ok (.aload_n 0, 1) := by decide +kernel
theorem dX5_setCovered_1 : decode cX5_setCovered 1 = .ok (.iload_n 2, 1) := by decide +kernel
theorem dX5_setCovered_2 : decode cX5_setCovered 2 = .ok (.ifCond .eq 14, 3) := by decide +kernel
theorem dX5_setCovered_5 : decode cX5_setCovered 5 = .ok (.aload_n 0, 1) := by decide +kernel
theorem dX5_setCovered_6 : decode cX5_setCovered 6 = .ok (.getfield 57, 3) := by decide +kernel
theorem dX5_setCovered_9 : decode cX5_setCovered 9 = .ok (.iconst 1, 1) := by decide +kernel
theorem dX5_setCovered_10 : decode cX5_setCovered 10 = .ok (.iload_n 1, 1) := by decide +kernel
theorem dX5_setCovered_11 : decode cX5_setCovered 11 = .ok (.ishl, 1) := by decide +kernel
theorem dX5_setCovered_12 : decode cX5_setCovered 12 = .ok (.ior, 1) := by decide +kernel
theorem dX5_setCovered_13 : decode cX5_setCovered 13 = .ok (.goto 13, 3) := by decide +kernel
theorem dX5_setCovered_16 : decode cX5_setCovered 16 = .ok (.aload_n 0, 1) := by decide +kernel
theorem dX5_setCovered_17 : decode cX5_setCovered 17 = .ok (.getfield 57, 3) := by decide +kernel
theorem dX5_setCovered_20 : decode cX5_setCovered 20 = .ok (.iconst 1, 1) := by decide +kernel
theorem dX5_setCovered_21 : decode cX5_setCovered 21 = .ok (.iload_n 1, 1) := by decide +kernel
theorem dX5_setCovered_22 : decode cX5_setCovered 22 = .ok (.ishl, 1) := by decide +kernel
theorem dX5_setCovered_23 : decode cX5_setCovered 23 = .ok (.iconst (-1), 1) := by decide +kernel
theorem dX5_setCovered_24 : decode cX5_setCovered 24 = .ok (.ixor, 1) := by decide +kernel
theorem dX5_setCovered_25 : decode cX5_setCovered 25 = .ok (.iand, 1) := by decide +kernel
theorem dX5_setCovered_26 : decode cX5_setCovered 26 = .ok (.putfield 57, 3) := by decide +kernel
theorem dX5_setCovered_29 : decode cX5_setCovered 29 = .ok (.return_, 1) := by decide +kernel
abbrev mX5_setCovered : KM := (RX5, cX5_setCovered, 3, none, { frames := 0, cells := 0, slots := 0, locals := 0 }, 0, 0)
def fX5_setCovered (q0 : Nat) (a1 : Int32) (a2 : Int32) (σ : Sto) : Sto :=
  if a2 = 0 then
    klet (su σ q0 4 ((σ q0 4) &&& ((1 <<< (a1 &&& 31)) ^^^ (-1)))) fun σ1 =>
    σ1
  else
    klet (su σ q0 4 ((σ q0 4) ||| (1 <<< (a1 &&& 31)))) fun σ2 =>
    σ2
set_option maxHeartbeats 4000000 in
set_option maxRecDepth 100000 in
theorem tX5_setCovered (sh : KSh) (hw : KWf sh) (l : Launch) (hst : l.stackTraces = false) (q0 : Nat) (h0 : sh q0 = .inl 5) (a1 : Int32) (a2 : Int32) (σ : Sto) : CT sh l mX5_setCovered yX5_setCovered [.ref q0, .int a1, .int a2] σ (0, .int 0, (fX5_setCovered q0 a1 a2 σ)) := by
  refine kct [(0, .ref q0), (1, .int a1), (2, .int a2)] hst (by decide +kernel) rfl rfl (Nat.le_of_ble_eq_true rfl) ?_
  generalize h : fX5_setCovered q0 a1 a2 σ = r
  rw [fX5_setCovered] at h
  refine kv_aload_n (pc := 0) 0 dX5_setCovered_0 rfl rfl ?_
  refine kv_iload_n (pc := 1) 2 dX5_setCovered_1 rfl rfl ?_
  refine kv_if_eq (pc := 2) (tgt := 16) dX5_setCovered_2 (by decide) h (fun h => ?_) (fun h => ?_)
  · refine kv_aload_n (pc := 16) 0 dX5_setCovered_16 rfl rfl ?_
    refine kv_getI (pc := 17) dX5_setCovered_17 h0 rfl (i := 4) (by decide) rfl fl_X5_57 rfl ?_
    refine kv_iconst (pc := 20) (v := 1) dX5_setCovered_20 (by decide) ?_
    refine kv_iload_n (pc := 21) 1 dX5_setCovered_21 rfl rfl ?_
    refine kv_ishl (pc := 22) dX5_setCovered_22 ?_
    refine kv_iconst (pc := 23) (v := (-1)) dX5_setCovered_23 (by decide) ?_
    refine kv_ixor (pc := 24) dX5_setCovered_24 ?_
    refine kv_iand (pc := 25) dX5_setCovered_25 ?_
    refine kv_put (pc := 26) tyX5 tyX5_ok nmX5 dX5_setCovered_26 h0 rfl (i := 4) (by decide) rfl fl_X5_57 rfl rfl rfl rfl rfl ?_
    refine kv_let h (fun σ1 h => ?_)
    exact kv_vret (pc := 29) (v := .int 0) dX5_setCovered_29 rfl (by subst h; rfl) (by decide) (by decide)
  · refine kv_aload_n (pc := 5) 0 dX5_setCovered_5 rfl rfl ?_
    refine kv_getI (pc := 6) dX5_setCovered_6 h0 rfl (i := 4) (by decide) rfl fl_X5_57 rfl ?_
    refine kv_iconst (pc := 9) (v := 1) dX5_setCovered_9 (by decide) ?_
    refine kv_iload_n (pc := 10) 1 dX5_setCovered_10 rfl rfl ?_
    refine kv_ishl (pc := 11) dX5_setCovered_11 ?_
    refine kv_ior (pc := 12) dX5_setCovered_12 ?_
    refine kv_goto (pc := 13) (tgt := 26) dX5_setCovered_13 (by decide) ?_
    refine kv_put (pc := 26) tyX5 tyX5_ok nmX5 dX5_setCovered_26 h0 rfl (i := 4) (by decide) rfl fl_X5_57 rfl rfl rfl rfl rfl ?_
    refine kv_let h (fun σ2 h => ?_)
    exact kv_vret (pc := 29) (v := .int 0) dX5_setCovered_29 rfl (by subst h; rfl) (by decide) (by decide)
theorem yw_X5_setCovered : KMV yX5_setCovered mX5_setCovered RX5 2 := ⟨⟨rfl, by decide +kernel, by decide +kernel, by decide +kernel⟩, ⟨rfl, rfl⟩, kg_in 531 (by decide +kernel) (by decide +kernel), kg_in 532 (by decide +kernel) (by decide +kernel), kg_in 48 (by decide +kernel) (by decide +kernel), kg_in 533 (by decide +kernel) (by decide +kernel)⟩
theorem dX5_copyFrom_0 : decode cX5_copyFrom 0 = .ok (.aload_n 0, 1) := by decide +kernel
theorem dX5_copyFrom_1 : decode cX5_copyFrom 1 = .ok (.getfield 12, 3) := by decide +kernel
theorem dX5_copyFrom_4 : decode cX5_copyFrom 4 = .ok (.aload_n 1, 1) := by decide +kernel
theorem dX5_copyFrom_5 : decode cX5_copyFrom 5 = .ok (.getfield 12, 3) := by decide +kernel
theorem dX5_copyFrom_8 : decode cX5_copyFrom 8 = .ok (.invokevirtual 72, 3) := by decide +kernel
theorem dX5_copyFrom_11 : decode cX5_copyFrom 11 = .ok (.aload_n 0, 1) := by decide +kernel
theorem dX5_copyFrom_12 : decode cX5_copyFrom 12 = .ok (.aload_n 1, 1) := by decide +kernel
theorem dX5_copyFrom_13 : decode cX5_copyFrom 13 = .ok (.getfield 51, 3) := by decide +kernel
theorem dX5_copyFrom_16 : decode cX5_copyFrom 16 = .ok (.putfield 51, 3) := by decide +kernel
theorem dX5_copyFrom_19 : decode cX5_copyFrom 19 = .ok (.aload_n 0, 1) := by decide +kernel
theorem dX5_copyFrom_20 : decode cX5_copyFrom 20 = .ok (.aload_n 1, 1) := by decide +kernel
theorem dX5_copyFrom_21 : decode cX5_copyFrom 21 = .ok (.getfield 18, 3) := by decide +kernel
theorem dX5_copyFrom_24 : decode cX5_copyFrom 24 = .ok (.putfield 18, 3) := by decide +kernel
theorem dX5_copyFrom_27 : decode cX5_copyFrom 27 = .ok (.aload_n 0, 1) := by decide +kernel
theorem dX5_copyFrom_28 : decode cX5_copyFrom 28 = .ok (.aload_n 1, 1) := by decide +kernel
theorem dX5_copyFrom_29 : decode cX5_copyFrom 29 = .ok (.getfield 54, 3) := by decide +kernel
theorem dX5_copyFrom_32 : decode cX5_copyFrom 32 = .ok (.putfield 54, 3) := by decide +kernel
theorem dX5_copyFrom_35 : decode cX5_copyFrom 35 = .ok (.aload_n 0, 1) := by decide +kernel
theorem dX5_copyFrom_36 : decode cX5_copyFrom 36 = .ok (.aload_n 1, 1) := by decide +kernel
theorem dX5_copyFrom_37 : decode cX5_copyFrom 37 = .ok (.getfield 57, 3) := by decide +kernel
theorem dX5_copyFrom_40 : decode cX5_copyFrom 40 = .ok (.putfield 57, 3) := by decide +kernel
theorem dX5_copyFrom_43 : decode cX5_copyFrom 43 = .ok (.aload_n 0, 1) := by decide +kernel
theorem dX5_copyFrom_44 : decode cX5_copyFrom 44 = .ok (.aload_n 1, 1) := by decide +kernel
theorem dX5_copyFrom_45 : decode cX5_copyFrom 45 = .ok (.getfield 60, 3) := by decide +kernel
theorem dX5_copyFrom_48 : decode cX5_copyFrom 48 = .ok (.putfield 60, 3) := by decide +kernel
theorem dX5_copyFrom_51 : decode cX5_copyFrom 51 = .ok (.aload_n 0, 1) := by decide +kernel
theorem dX5_copyFrom_52 : decode cX5_copyFrom 52 = .ok (.aload_n 1, 1) := by decide +kernel
theorem dX5_copyFrom_53 : decode cX5_copyFrom 53 = .ok (.getfield 63, 3) := by decide +kernel
theorem dX5_copyFrom_56 : decode cX5_copyFrom 56 = .ok (.putfield 63, 3) := by decide +kernel
theorem dX5_copyFrom_59 : decode cX5_copyFrom 59 = .ok (.aload_n 0, 1) := by decide +kernel
theorem dX5_copyFrom_60 : decode cX5_copyFrom 60 = .ok (.aload_n 1, 1) := by decide +kernel
theorem dX5_copyFrom_61 : decode cX5_copyFrom 61 = .ok (.getfield 66, 3) := by decide +kernel
theorem dX5_copyFrom_64 : decode cX5_copyFrom 64 = .ok (.putfield 66, 3) := by decide +kernel
theorem dX5_copyFrom_67 : decode cX5_copyFrom 67 = .ok (.aload_n 0, 1) := by decide +kernel
theorem dX5_copyFrom_68 : decode cX5_copyFrom 68 = .ok (.aload_n 1, 1) := by decide +kernel
theorem dX5_copyFrom_69 : decode cX5_copyFrom 69 = .ok (.getfield 69, 3) := by decide +kernel
theorem dX5_copyFrom_72 : decode cX5_copyFrom 72 = .ok (.putfield 69, 3) := by decide +kernel
theorem dX5_copyFrom_75 : decode cX5_copyFrom 75 = .ok (.aload_n 1, 1) := by decide +kernel
theorem dX5_copyFrom_76 : decode cX5_copyFrom 76 = .ok (.getfield 22, 3) := by decide +kernel
theorem dX5_copyFrom_79 : decode cX5_copyFrom 79 = .ok (.iconst 0, 1) := by decide +kernel
theorem dX5_copyFrom_80 : decode cX5_copyFrom 80 = .ok (.aload_n 0, 1) := by decide +kernel
theorem dX5_copyFrom_81 : decode cX5_copyFrom 81 = .ok (.getfield 22, 3) := by decide +kernel
theorem dX5_copyFrom_84 : decode cX5_copyFrom 84 = .ok (.iconst 0, 1) := by decide +kernel
theorem dX5_copyFrom_85 : decode cX5_copyFrom 85 = .ok (.bipush 30, 2) := by decide +kernel
theorem dX5_copyFrom_87 : decode cX5_copyFrom 87 = .ok (.invokestatic 76, 3) := by decide +kernel
theorem dX5_copyFrom_90 : decode cX5_copyFrom 90 = .ok (.aload_n 1, 1) := by decide +kernel
theorem dX5_copyFrom_91 : decode cX5_copyFrom 91 = .ok (.getfield 26, 3) := by decide +kernel
theorem dX5_copyFrom_94 : decode cX5_copyFrom 94 = .ok (.iconst 0, 1) := by decide +kernel
theorem dX5_copyFrom_95 : decode cX5_copyFrom 95 = .ok (.aload_n 0, 1) := by decide +kernel
theorem dX5_copyFrom_96 : decode cX5_copyFrom 96 = .ok (.getfield 26, 3) := by decide +kernel
theorem dX5_copyFrom_99 : decode cX5_copyFrom 99 = .ok (.iconst 0, 1) := by decide +kernel
theorem dX5_copyFrom_100 : decode cX5_copyFrom 100 = .ok (.bipush 30, 2) := by decide +kernel
theorem dX5_copyFrom_102 : decode cX5_copyFrom 102 = .ok (.invokestatic 76, 3) := by decide +kernel
theorem dX5_copyFrom_105 : decode cX5_copyFrom 105 = .ok (.aload_n 1, 1) := by decide +kernel
theorem dX5_copyFrom_106 : decode cX5_copyFrom 106 = .ok (.getfield 29, 3) := by decide +kernel
theorem dX5_copyFrom_109 : decode cX5_copyFrom 109 = .ok (.iconst 0, 1) := by decide +kernel
theorem dX5_copyFrom_110 : decode cX5_copyFrom 110 = .ok (.aload_n 0, 1) := by decide +kernel
theorem dX5_copyFrom_111 : decode cX5_copyFrom 111 = .ok (.getfield 29, 3) := by decide +kernel
theorem dX5_copyFrom_114 : decode cX5_copyFrom 114 = .ok (.iconst 0, 1) := by decide +kernel
theorem dX5_copyFrom_115 : decode cX5_copyFrom 115 = .ok (.bipush 30, 2) := by decide +kernel
theorem dX5_copyFrom_117 : decode cX5_copyFrom 117 = .ok (.invokestatic 76, 3) := by decide +kernel
theorem dX5_copyFrom_120 : decode cX5_copyFrom 120 = .ok (.aload_n 1, 1) := by decide +kernel
theorem dX5_copyFrom_121 : decode cX5_copyFrom 121 = .ok (.getfield 32, 3) := by decide +kernel
theorem dX5_copyFrom_124 : decode cX5_copyFrom 124 = .ok (.iconst 0, 1) := by decide +kernel
theorem dX5_copyFrom_125 : decode cX5_copyFrom 125 = .ok (.aload_n 0, 1) := by decide +kernel
theorem dX5_copyFrom_126 : decode cX5_copyFrom 126 = .ok (.getfield 32, 3) := by decide +kernel
theorem dX5_copyFrom_129 : decode cX5_copyFrom 129 = .ok (.iconst 0, 1) := by decide +kernel
theorem dX5_copyFrom_130 : decode cX5_copyFrom 130 = .ok (.bipush 30, 2) := by decide +kernel
theorem dX5_copyFrom_132 : decode cX5_copyFrom 132 = .ok (.invokestatic 76, 3) := by decide +kernel
theorem dX5_copyFrom_135 : decode cX5_copyFrom 135 = .ok (.aload_n 1, 1) := by decide +kernel
theorem dX5_copyFrom_136 : decode cX5_copyFrom 136 = .ok (.getfield 35, 3) := by decide +kernel
theorem dX5_copyFrom_139 : decode cX5_copyFrom 139 = .ok (.iconst 0, 1) := by decide +kernel
theorem dX5_copyFrom_140 : decode cX5_copyFrom 140 = .ok (.aload_n 0, 1) := by decide +kernel
theorem dX5_copyFrom_141 : decode cX5_copyFrom 141 = .ok (.getfield 35, 3) := by decide +kernel
theorem dX5_copyFrom_144 : decode cX5_copyFrom 144 = .ok (.iconst 0, 1) := by decide +kernel
theorem dX5_copyFrom_145 : decode cX5_copyFrom 145 = .ok (.bipush 30, 2) := by decide +kernel
theorem dX5_copyFrom_147 : decode cX5_copyFrom 147 = .ok (.invokestatic 76, 3) := by decide +kernel
theorem dX5_copyFrom_150 : decode cX5_copyFrom 150 = .ok (.aload_n 1, 1) := by decide +kernel
theorem dX5_copyFrom_151 : decode cX5_copyFrom 151 = .ok (.getfield 38, 3) := by decide +kernel
theorem dX5_copyFrom_154 : decode cX5_copyFrom 154 = .ok (.iconst 0, 1) := by decide +kernel
theorem dX5_copyFrom_155 : decode cX5_copyFrom 155 = .ok (.aload_n 0, 1) := by decide +kernel
theorem dX5_copyFrom_156 : decode cX5_copyFrom 156 = .ok (.getfield 38, 3) := by decide +kernel
theorem dX5_copyFrom_159 : decode cX5_copyFrom 159 = .ok (.iconst 0, 1) := by decide +kernel
theorem dX5_copyFrom_160 : decode cX5_copyFrom 160 = .ok (.sipush 225, 3) := by decide +kernel
theorem dX5_copyFrom_163 : decode cX5_copyFrom 163 = .ok (.invokestatic 76, 3) := by decide +kernel
theorem dX5_copyFrom_166 : decode cX5_copyFrom 166 = .ok (.return_, 1) := by decide +kernel
abbrev mX5_copyFrom : KM := (RX5, cX5_copyFrom, 2, none, { frames := 2, cells := 0, slots := 0, locals := 85 }, 0, 0)
def fX5_copyFrom (q0 : Nat) (q1 : Nat) (σ : Sto) : Option Sto :=
  (fX1_copyFrom (q0 + 1) (q1 + 1) σ).bind fun r1 =>
  klet (su r1 q0 1 (r1 q1 1)) fun σ4 =>
  klet (su σ4 q0 2 (σ4 q1 2)) fun σ5 =>
  klet (su σ5 q0 3 (σ5 q1 3)) fun σ6 =>
  klet (su σ6 q0 4 (σ6 q1 4)) fun σ7 =>
  klet (su σ7 q0 5 (σ7 q1 5)) fun σ8 =>
  klet (su σ8 q0 6 (σ8 q1 6)) fun σ9 =>
  klet (su σ9 q0 7 (σ9 q1 7)) fun σ10 =>
  klet (su σ10 q0 8 (σ10 q1 8)) fun σ11 =>
  klet (kcp σ11 (q1 + 3) (q0 + 3) 30) fun σ12 =>
  klet (kcp σ12 (q1 + 4) (q0 + 4) 30) fun σ13 =>
  klet (kcp σ13 (q1 + 5) (q0 + 5) 30) fun σ14 =>
  klet (kcp σ14 (q1 + 6) (q0 + 6) 30) fun σ15 =>
  klet (kcp σ15 (q1 + 7) (q0 + 7) 30) fun σ16 =>
  klet (kcp σ16 (q1 + 8) (q0 + 8) 225) fun σ17 =>
  some σ17
set_option maxHeartbeats 4000000 in
set_option maxRecDepth 100000 in
theorem tX5_copyFrom (sh : KSh) (hw : KWf sh) (l : Launch) (hst : l.stackTraces = false) (q0 : Nat) (h0 : sh q0 = .inl 5) (q1 : Nat) (h1 : sh q1 = .inl 5) (σ : Sto) (r : Sto) (h : fX5_copyFrom q0 q1 σ = some r) : CT sh l mX5_copyFrom yX5_copyFrom [.ref q0, .ref q1] σ (0, .int 0, r) := by
  refine kct [(0, .ref q0), (1, .ref q1)] hst (by decide +kernel) rfl rfl (Nat.le_of_ble_eq_true rfl) ?_
  rw [fX5_copyFrom] at h
  refine kv_aload_n (pc := 0) 0 dX5_copyFrom_0 rfl rfl ?_
  refine kv_getR (pc := 1) (q2 := q0 + 1) dX5_copyFrom_1 h0 rfl (i := 0) (by decide) rfl fl_X5_12 rfl rfl ?_
  refine kv_aload_n (pc := 4) 1 dX5_copyFrom_4 rfl rfl ?_
  refine kv_getR (pc := 5) (q2 := q1 + 1) dX5_copyFrom_5 h1 rfl (i := 0) (by decide) rfl fl_X5_12 rfl rfl ?_
  refine kv_cV (pc := 8) [.ref (q1 + 1)] (fun r1 => (0, .int 0, r1)) (fun r1 => []) (fun r1 => r1) 11 0 0 h (fun r1 g2 => tX1_copyFrom sh hw l hst (q0 + 1) (show sh (q0 + 1) = _ from kso_5_1 hw h0) (q1 + 1) (show sh (q1 + 1) = _ from kso_5_1 hw h1) σ r1 g2) dX5_copyFrom_8 rfl (show sh (q0 + 1) = _ from kso_5_1 hw h0) rfl yw_X1_copyFrom lk_X5_72 (by decide) (Nat.le_of_ble_eq_true rfl) (by decide) (fun _ => rfl) (fun _ => rfl) ⟨rfl, rfl, rfl⟩ (fun _ _ h0 => absurd rfl h0) (fun r1 g2 z3 h => ?_)
  refine kv_aload_n (pc := 11) 0 dX5_copyFrom_11 rfl rfl ?_
  refine kv_aload_n (pc := 12) 1 dX5_copyFrom_12 rfl rfl ?_
  refine kv_getI (pc := 13) dX5_copyFrom_13 h1 rfl (i := 1) (by decide) rfl fl_X5_51 rfl ?_
  refine kv_put (pc := 16) tyX5 tyX5_ok nmX5 dX5_copyFrom_16 h0 rfl (i := 1) (by decide) rfl fl_X5_51 rfl rfl rfl rfl rfl ?_
  refine kv_let h (fun σ4 h => ?_)
  refine kv_aload_n (pc := 19) 0 dX5_copyFrom_19 rfl rfl ?_
  refine kv_aload_n (pc := 20) 1 dX5_copyFrom_20 rfl rfl ?_
  refine kv_getI (pc := 21) dX5_copyFrom_21 h1 rfl (i := 2) (by decide) rfl fl_X5_18 rfl ?_
  refine kv_put (pc := 24) tyX5 tyX5_ok nmX5 dX5_copyFrom_24 h0 rfl (i := 2) (by decide) rfl fl_X5_18 rfl rfl rfl rfl rfl ?_
  refine kv_let h (fun σ5 h => ?_)
  refine kv_aload_n (pc := 27) 0 dX5_copyFrom_27 rfl rfl ?_
  refine kv_aload_n (pc := 28) 1 dX5_copyFrom_28 rfl rfl ?_
  refine kv_getI (pc := 29) dX5_copyFrom_29 h1 rfl (i := 3) (by decide) rfl fl_X5_54 rfl ?_
  refine kv_put (pc := 32) tyX5 tyX5_ok nmX5 dX5_copyFrom_32 h0 rfl (i := 3) (by decide) rfl fl_X5_54 rfl rfl rfl rfl rfl ?_
  refine kv_let h (fun σ6 h => ?_)
  refine kv_aload_n (pc := 35) 0 dX5_copyFrom_35 rfl rfl ?_
  refine kv_aload_n (pc := 36) 1 dX5_copyFrom_36 rfl rfl ?_
  refine kv_getI (pc := 37) dX5_copyFrom_37 h1 rfl (i := 4) (by decide) rfl fl_X5_57 rfl ?_
  refine kv_put (pc := 40) tyX5 tyX5_ok nmX5 dX5_copyFrom_40 h0 rfl (i := 4) (by decide) rfl fl_X5_57 rfl rfl rfl rfl rfl ?_
  refine kv_let h (fun σ7 h => ?_)
  refine kv_aload_n (pc := 43) 0 dX5_copyFrom_43 rfl rfl ?_
  refine kv_aload_n (pc := 44) 1 dX5_copyFrom_44 rfl rfl ?_
  refine kv_getI (pc := 45) dX5_copyFrom_45 h1 rfl (i := 5) (by decide) rfl fl_X5_60 rfl ?_
  refine kv_put (pc := 48) tyX5 tyX5_ok nmX5 dX5_copyFrom_48 h0 rfl (i := 5) (by decide) rfl fl_X5_60 rfl rfl rfl rfl rfl ?_
  refine kv_let h (fun σ8 h => ?_)
  refine kv_aload_n (pc := 51) 0 dX5_copyFrom_51 rfl rfl ?_
  refine kv_aload_n (pc := 52) 1 dX5_copyFrom_52 rfl rfl ?_
  refine kv_getI (pc := 53) dX5_copyFrom_53 h1 rfl (i := 6) (by decide) rfl fl_X5_63 rfl ?_
  refine kv_put (pc := 56) tyX5 tyX5_ok nmX5 dX5_copyFrom_56 h0 rfl (i := 6) (by decide) rfl fl_X5_63 rfl rfl rfl rfl rfl ?_
  refine kv_let h (fun σ9 h => ?_)
  refine kv_aload_n (pc := 59) 0 dX5_copyFrom_59 rfl rfl ?_
  refine kv_aload_n (pc := 60) 1 dX5_copyFrom_60 rfl rfl ?_
  refine kv_getI (pc := 61) dX5_copyFrom_61 h1 rfl (i := 7) (by decide) rfl fl_X5_66 rfl ?_
  refine kv_put (pc := 64) tyX5 tyX5_ok nmX5 dX5_copyFrom_64 h0 rfl (i := 7) (by decide) rfl fl_X5_66 rfl rfl rfl rfl rfl ?_
  refine kv_let h (fun σ10 h => ?_)
  refine kv_aload_n (pc := 67) 0 dX5_copyFrom_67 rfl rfl ?_
  refine kv_aload_n (pc := 68) 1 dX5_copyFrom_68 rfl rfl ?_
  refine kv_getI (pc := 69) dX5_copyFrom_69 h1 rfl (i := 8) (by decide) rfl fl_X5_69 rfl ?_
  refine kv_put (pc := 72) tyX5 tyX5_ok nmX5 dX5_copyFrom_72 h0 rfl (i := 8) (by decide) rfl fl_X5_69 rfl rfl rfl rfl rfl ?_
  refine kv_let h (fun σ11 h => ?_)
  refine kv_aload_n (pc := 75) 1 dX5_copyFrom_75 rfl rfl ?_
  refine kv_getR (pc := 76) (q2 := q1 + 3) dX5_copyFrom_76 h1 rfl (i := 9) (by decide) rfl fl_X5_22 rfl rfl ?_
  refine kv_iconst (pc := 79) (v := 0) dX5_copyFrom_79 (by decide) ?_
  refine kv_aload_n (pc := 80) 0 dX5_copyFrom_80 rfl rfl ?_
  refine kv_getR (pc := 81) (q2 := q0 + 3) dX5_copyFrom_81 h0 rfl (i := 9) (by decide) rfl fl_X5_22 rfl rfl ?_
  refine kv_iconst (pc := 84) (v := 0) dX5_copyFrom_84 (by decide) ?_
  refine kv_bipush (pc := 85) (v := 30) dX5_copyFrom_85 (by decide) ?_
  refine kv_copy (pc := 87) (N := 30) (by decide) (by decide) dX5_copyFrom_87 lk_X5_76 kw_copy (show sh (q1 + 3) = _ from kso_5_3 hw h1) (show sh (q0 + 3) = _ from kso_5_3 hw h0) (by decide) (Nat.le_of_ble_eq_true rfl) ?_
  refine kv_let h (fun σ12 h => ?_)
  refine kv_aload_n (pc := 90) 1 dX5_copyFrom_90 rfl rfl ?_
  refine kv_getR (pc := 91) (q2 := q1 + 4) dX5_copyFrom_91 h1 rfl (i := 10) (by decide) rfl fl_X5_26 rfl rfl ?_
  refine kv_iconst (pc := 94) (v := 0) dX5_copyFrom_94 (by decide) ?_
  refine kv_aload_n (pc := 95) 0 dX5_copyFrom_95 rfl rfl ?_
  refine kv_getR (pc := 96) (q2 := q0 + 4) dX5_copyFrom_96 h0 rfl (i := 10) (by decide) rfl fl_X5_26 rfl rfl ?_
  refine kv_iconst (pc := 99) (v := 0) dX5_copyFrom_99 (by decide) ?_
  refine kv_bipush (pc := 100) (v := 30) dX5_copyFrom_100 (by decide) ?_
  refine kv_copy (pc := 102) (N := 30) (by decide) (by decide) dX5_copyFrom_102 lk_X5_76 kw_copy (show sh (q1 + 4) = _ from kso_5_4 hw h1) (show sh (q0 + 4) = _ from kso_5_4 hw h0) (by decide) (Nat.le_of_ble_eq_true rfl) ?_
  refine kv_let h (fun σ13 h => ?_)
  refine kv_aload_n (pc := 105) 1 dX5_copyFrom_105 rfl rfl ?_
  refine kv_getR (pc := 106) (q2 := q1 + 5) dX5_copyFrom_106 h1 rfl (i := 11) (by decide) rfl fl_X5_29 rfl rfl ?_
  refine kv_iconst (pc := 109) (v := 0) dX5_copyFrom_109 (by decide) ?_
  refine kv_aload_n (pc := 110) 0 dX5_copyFrom_110 rfl rfl ?_
  refine kv_getR (pc := 111) (q2 := q0 + 5) dX5_copyFrom_111 h0 rfl (i := 11) (by decide) rfl fl_X5_29 rfl rfl ?_
  refine kv_iconst (pc := 114) (v := 0) dX5_copyFrom_114 (by decide) ?_
  refine kv_bipush (pc := 115) (v := 30) dX5_copyFrom_115 (by decide) ?_
  refine kv_copy (pc := 117) (N := 30) (by decide) (by decide) dX5_copyFrom_117 lk_X5_76 kw_copy (show sh (q1 + 5) = _ from kso_5_5 hw h1) (show sh (q0 + 5) = _ from kso_5_5 hw h0) (by decide) (Nat.le_of_ble_eq_true rfl) ?_
  refine kv_let h (fun σ14 h => ?_)
  refine kv_aload_n (pc := 120) 1 dX5_copyFrom_120 rfl rfl ?_
  refine kv_getR (pc := 121) (q2 := q1 + 6) dX5_copyFrom_121 h1 rfl (i := 12) (by decide) rfl fl_X5_32 rfl rfl ?_
  refine kv_iconst (pc := 124) (v := 0) dX5_copyFrom_124 (by decide) ?_
  refine kv_aload_n (pc := 125) 0 dX5_copyFrom_125 rfl rfl ?_
  refine kv_getR (pc := 126) (q2 := q0 + 6) dX5_copyFrom_126 h0 rfl (i := 12) (by decide) rfl fl_X5_32 rfl rfl ?_
  refine kv_iconst (pc := 129) (v := 0) dX5_copyFrom_129 (by decide) ?_
  refine kv_bipush (pc := 130) (v := 30) dX5_copyFrom_130 (by decide) ?_
  refine kv_copy (pc := 132) (N := 30) (by decide) (by decide) dX5_copyFrom_132 lk_X5_76 kw_copy (show sh (q1 + 6) = _ from kso_5_6 hw h1) (show sh (q0 + 6) = _ from kso_5_6 hw h0) (by decide) (Nat.le_of_ble_eq_true rfl) ?_
  refine kv_let h (fun σ15 h => ?_)
  refine kv_aload_n (pc := 135) 1 dX5_copyFrom_135 rfl rfl ?_
  refine kv_getR (pc := 136) (q2 := q1 + 7) dX5_copyFrom_136 h1 rfl (i := 13) (by decide) rfl fl_X5_35 rfl rfl ?_
  refine kv_iconst (pc := 139) (v := 0) dX5_copyFrom_139 (by decide) ?_
  refine kv_aload_n (pc := 140) 0 dX5_copyFrom_140 rfl rfl ?_
  refine kv_getR (pc := 141) (q2 := q0 + 7) dX5_copyFrom_141 h0 rfl (i := 13) (by decide) rfl fl_X5_35 rfl rfl ?_
  refine kv_iconst (pc := 144) (v := 0) dX5_copyFrom_144 (by decide) ?_
  refine kv_bipush (pc := 145) (v := 30) dX5_copyFrom_145 (by decide) ?_
  refine kv_copy (pc := 147) (N := 30) (by decide) (by decide) dX5_copyFrom_147 lk_X5_76 kw_copy (show sh (q1 + 7) = _ from kso_5_7 hw h1) (show sh (q0 + 7) = _ from kso_5_7 hw h0) (by decide) (Nat.le_of_ble_eq_true rfl) ?_
  refine kv_let h (fun σ16 h => ?_)
  refine kv_aload_n (pc := 150) 1 dX5_copyFrom_150 rfl rfl ?_
  refine kv_getR (pc := 151) (q2 := q1 + 8) dX5_copyFrom_151 h1 rfl (i := 14) (by decide) rfl fl_X5_38 rfl rfl ?_
  refine kv_iconst (pc := 154) (v := 0) dX5_copyFrom_154 (by decide) ?_
  refine kv_aload_n (pc := 155) 0 dX5_copyFrom_155 rfl rfl ?_
  refine kv_getR (pc := 156) (q2 := q0 + 8) dX5_copyFrom_156 h0 rfl (i := 14) (by decide) rfl fl_X5_38 rfl rfl ?_
  refine kv_iconst (pc := 159) (v := 0) dX5_copyFrom_159 (by decide) ?_
  refine kv_sipush (pc := 160) (v := 225) dX5_copyFrom_160 (by decide) ?_
  refine kv_copy (pc := 163) (N := 225) (by decide) (by decide) dX5_copyFrom_163 lk_X5_76 kw_copy (show sh (q1 + 8) = _ from kso_5_8 hw h1) (show sh (q0 + 8) = _ from kso_5_8 hw h0) (by decide) (Nat.le_of_ble_eq_true rfl) ?_
  refine kv_let h (fun σ17 h => ?_)
  exact kv_vret (pc := 166) (v := .int 0) dX5_copyFrom_166 rfl (by cases h; rfl) (by decide) (by decide)
theorem yw_X5_copyFrom : KMV yX5_copyFrom mX5_copyFrom RX5 1 := ⟨⟨rfl, by decide +kernel, by decide +kernel, by decide +kernel⟩, ⟨rfl, rfl⟩, kg_in 535 (by decide +kernel) (by decide +kernel), kg_in 536 (by decide +kernel) (by decide +kernel), kg_in 48 (by decide +kernel) (by decide +kernel), kg_in 537 (by decide +kernel) (by decide +kernel)⟩
theorem dX5_ownMovesOf_0 : decode cX5_ownMovesOf 0 = .ok (.aload_n 0, 1) := by decide +kernel
theorem dX5_ownMovesOf_1 : decode cX5_ownMovesOf 1 = .ok (.iload_n 1, 1) := by decide +kernel
theorem dX5_ownMovesOf_2 : decode cX5_ownMovesOf 2 = .ok (.invokevirtual 82, 3) := by decide +kernel
theorem dX5_ownMovesOf_5 : decode cX5_ownMovesOf 5 = .ok (.ifCond .eq 12, 3) := by decide +kernel
theorem dX5_ownMovesOf_8 : decode cX5_ownMovesOf 8 = .ok (.aload_n 0, 1) := by decide +kernel
theorem dX5_ownMovesOf_9 : decode cX5_ownMovesOf 9 = .ok (.getfield 35, 3) := by decide +kernel
theorem dX5_ownMovesOf_12 : decode cX5_ownMovesOf 12 = .ok (.iload_n 1, 1) := by decide +kernel
theorem dX5_ownMovesOf_13 : decode cX5_ownMovesOf 13 = .ok (.iaload, 1) := by decide +kernel
theorem dX5_ownMovesOf_14 : decode cX5_ownMovesOf 14 = .ok (.goto 4, 3) := by decide +kernel
theorem dX5_ownMovesOf_17 : decode cX5_ownMovesOf 17 = .ok (.iconst 0, 1) := by decide +kernel
theorem dX5_ownMovesOf_18 : decode cX5_ownMovesOf 18 = .ok (.ireturn, 1) := by decide +kernel
abbrev mX5_ownMovesOf : KM := (RX5, cX5_ownMovesOf, 2, (some .int), { frames := 1, cells := 0, slots := 0, locals := 21 }, 0, 0)
def fX5_ownMovesOf (q0 : Nat) (a1 : Int32) (σ : Sto) : Option Int32 :=
  if (fX5_isChip q0 a1 σ) = true then
    if kin a1 30 = true then
      some (σ (q0 + 7) a1.toNatClampNeg)
    else none
  else
    some 0
set_option maxHeartbeats 4000000 in
set_option maxRecDepth 100000 in
theorem tX5_ownMovesOf (sh : KSh) (hw : KWf sh) (l : Launch) (hst : l.stackTraces = false) (q0 : Nat) (h0 : sh q0 = .inl 5) (a1 : Int32) (σ : Sto) (r : Int32) (h : fX5_ownMovesOf q0 a1 σ = some r) : CT sh l mX5_ownMovesOf yX5_ownMovesOf [.ref q0, .int a1] σ (0, .int r, σ) := by
  refine kct [(0, .ref q0), (1, .int a1)] hst (by decide +kernel) rfl rfl (Nat.le_of_ble_eq_true rfl) ?_
  rw [fX5_ownMovesOf] at h
  refine kv_aload_n (pc := 0) 0 dX5_ownMovesOf_0 rfl rfl ?_
  refine kv_iload_n (pc := 1) 1 dX5_ownMovesOf_1 rfl rfl ?_
  refine kv_tV (pc := 2) (v := .int (kb (fX5_isChip q0 a1 σ))) [.int a1] (.int (kb (fX5_isChip q0 a1 σ)) :: []) 5 0 0 (tX5_isChip sh hw l hst q0 h0 a1 σ) dX5_ownMovesOf_2 rfl h0 rfl yw_X5_isChip lk_X5_82 (by decide) (Nat.le_of_ble_eq_true rfl) (by decide) rfl ⟨rfl, rfl, rfl⟩ ?_
  refine kv_ifb_eq (pc := 5) (tgt := 17) dX5_ownMovesOf_5 (by decide) h (fun h => ?_) (fun h => ?_)
  · refine kv_iconst (pc := 17) (v := 0) dX5_ownMovesOf_17 (by decide) ?_
    exact kv_iret (pc := 18) dX5_ownMovesOf_18 rfl (by cases h; rfl) (by decide) (by decide)
  · refine kv_aload_n (pc := 8) 0 dX5_ownMovesOf_8 rfl rfl ?_
    refine kv_getR (pc := 9) (q2 := q0 + 7) dX5_ownMovesOf_9 h0 rfl (i := 13) (by decide) rfl fl_X5_35 rfl rfl ?_
    refine kv_iload_n (pc := 12) 1 dX5_ownMovesOf_12 rfl rfl ?_
    refine kv_iald (pc := 13) dX5_ownMovesOf_13 (show sh (q0 + 7) = _ from kso_5_7 hw h0) h (fun h => ?_)
    refine kv_goto (pc := 14) (tgt := 18) dX5_ownMovesOf_14 (by decide) ?_
    exact kv_iret (pc := 18) dX5_ownMovesOf_18 rfl (by cases h; rfl) (by decide) (by decide)
theorem yw_X5_ownMovesOf : KMV yX5_ownMovesOf mX5_ownMovesOf RX5 1 := ⟨⟨rfl, by decide +kernel, by decide +kernel, by decide +kernel⟩, ⟨rfl, rfl⟩, kg_in 965 (by decide +kernel) (by decide +kernel), kg_in 966 (by decide +kernel) (by decide +kernel), kg_in 48 (by decide +kernel) (by decide +kernel), kg_in 967 (by decide +kernel) (by decide +kernel)⟩
theorem dX5_chipsInBox_0 : decode cX5_chipsInBox 0 = .ok (.iconst 0, 1) := by decide +kernel
theorem dX5_chipsInBox_1 : decode cX5_chipsInBox 1 = .ok (.istore_n 1, 1) := by decide +kernel
theorem dX5_chipsInBox_2 : decode cX5_chipsInBox 2 = .ok (.iconst 0, 1) := by decide +kernel
theorem dX5_chipsInBox_3 : decode cX5_chipsInBox 3 = .ok (.istore_n 2, 1) := by decide +kernel
theorem dX5_chipsInBox_4 : decode cX5_chipsInBox 4 = .ok (.iload_n 2, 1) := by decide +kernel
theorem dX5_chipsInBox_5 : decode cX5_chipsInBox 5 = .ok (.aload_n 0, 1) := by decide +kernel
theorem dX5_chipsInBox_6 : decode cX5_chipsInBox 6 = .ok (.getfield 69, 3) := by decide +kernel
theorem dX5_chipsInBox_9 : decode cX5_chipsInBox 9 = .ok (.if_icmp .ge 21, 3) := by decide +kernel
theorem dX5_chipsInBox_12 : decode cX5_chipsInBox 12 = .ok (.aload_n 0, 1) := by decide +kernel
theorem dX5_chipsInBox_13 : decode cX5_chipsInBox 13 = .ok (.iload_n 2, 1) := by decide +kernel
theorem dX5_chipsInBox_14 : decode cX5_chipsInBox 14 = .ok (.invokevirtual 96, 3) := by decide +kernel
theorem dX5_chipsInBox_17 : decode cX5_chipsInBox 17 = .ok (.iconst (-1), 1) := by decide +kernel
theorem dX5_chipsInBox_18 : decode cX5_chipsInBox 18 = .ok (.if_icmp .eq 6, 3) := by decide +kernel
theorem dX5_chipsInBox_21 : decode cX5_chipsInBox 21 = .ok (.iinc 1 1, 3) := by decide +kernel
theorem dX5_chipsInBox_24 : decode cX5_chipsInBox 24 = .ok (.iinc 2 1, 3) := by decide +kernel
theorem dX5_chipsInBox_27 : decode cX5_chipsInBox 27 = .ok (.goto (-23), 3) := by decide +kernel
theorem dX5_chipsInBox_30 : decode cX5_chipsInBox 30 = .ok (.iload_n 1, 1) := by decide +kernel
theorem dX5_chipsInBox_31 : decode cX5_chipsInBox 31 = .ok (.ireturn, 1) := by decide +kernel
abbrev mX5_chipsInBox : KM := (RX5, cX5_chipsInBox, 3, (some .int), { frames := 2, cells := 0, slots := 0, locals := 42 }, 0, 0)
def fX5_chipsInBox_L24 (q0 : Nat) (K4 : Int32 → Int32 → Sto → Option Int32) (v1 : Int32) (v2 : Int32) (σ : Sto) : Option Int32 :=
  K4 v1 (v2 + 1) σ
def fX5_chipsInBox_L4 (q0 : Nat) : Nat → Int32 → Int32 → Sto → Option Int32
  | 0, _, _, _ => none
  | fu + 1, v1, v2, σ =>
    if (σ q0 8) ≤ v2 then
      some v1
    else
      (fX5_cellOf q0 v2 σ).bind fun r1 =>
      if r1 = (-1) then
        fX5_chipsInBox_L24 q0 (fX5_chipsInBox_L4 q0 fu) v1 v2 σ
      else
        fX5_chipsInBox_L24 q0 (fX5_chipsInBox_L4 q0 fu) (v1 + 1) v2 σ
def fX5_chipsInBox (q0 : Nat) (σ : Sto) : Option Int32 :=
  fX5_chipsInBox_L4 q0 kFU 0 0 σ
set_option maxHeartbeats 4000000 in
set_option maxRecDepth 100000 in
theorem wX5_chipsInBox_L24 (sh : KSh) (hw : KWf sh) (l : Launch) (hst : l.stackTraces = false) (q0 : Nat) (h0 : sh q0 = .inl 5) (K4 : Int32 → Int32 → Sto → Option Int32) (hK4 : ∀ (v1 : Int32), ∀ (v2 : Int32), ∀ (σ : Sto), ∀ (r : Int32), K4 v1 v2 σ = some r → VV sh l mX5_chipsInBox 0 0 4 [(0, .ref q0), (1, .int v1), (2, .int v2)] [] σ (0, .int r, σ)) : ∀ (v1 : Int32), ∀ (v2 : Int32), ∀ (σ : Sto), ∀ (r : Int32), fX5_chipsInBox_L24 q0 K4 v1 v2 σ = some r → VV sh l mX5_chipsInBox 0 0 24 [(0, .ref q0), (1, .int v1), (2, .int v2)] [] σ (0, .int r, σ) := by
  intro v1 v2 σ r h
  rw [fX5_chipsInBox_L24] at h
  refine kv_iinc (pc := 24) (v := v2 + 1) 2 [(2, .int (v2 + 1)), (0, .ref q0), (1, .int v1)] dX5_chipsInBox_24 rfl rfl (by decide) rfl ?_
  refine kv_goto (pc := 27) (tgt := 4) dX5_chipsInBox_27 (by decide) ?_
  refine kv_sub (pc := 4) [(0, .ref q0), (1, .int v1), (2, .int (v2 + 1))] [1, 2, 0] rfl ?_
  exact hK4 v1 (v2 + 1) σ r h
set_option maxHeartbeats 4000000 in
set_option maxRecDepth 100000 in
theorem wX5_chipsInBox_L4 (sh : KSh) (hw : KWf sh) (l : Launch) (hst : l.stackTraces = false) (q0 : Nat) (h0 : sh q0 = .inl 5) : ∀ (fu : Nat), ∀ (v1 : Int32), ∀ (v2 : Int32), ∀ (σ : Sto), ∀ (r : Int32), fX5_chipsInBox_L4 q0 fu v1 v2 σ = some r → VV sh l mX5_chipsInBox 0 0 4 [(0, .ref q0), (1, .int v1), (2, .int v2)] [] σ (0, .int r, σ) := by
  intro fu
  induction fu with
  | zero => intro v1 v2 σ r h; rw [fX5_chipsInBox_L4] at h; cases h
  | succ fu ih =>
    intro v1 v2 σ r h
    rw [fX5_chipsInBox_L4] at h
    refine kv_iload_n (pc := 4) 2 dX5_chipsInBox_4 rfl rfl ?_
    refine kv_aload_n (pc := 5) 0 dX5_chipsInBox_5 rfl rfl ?_
    refine kv_getI (pc := 6) dX5_chipsInBox_6 h0 rfl (i := 8) (by decide) rfl fl_X5_69 rfl ?_
    refine kv_icmp_ge (pc := 9) (tgt := 30) dX5_chipsInBox_9 (by decide) h (fun h => ?_) (fun h => ?_)
    · refine kv_iload_n (pc := 30) 1 dX5_chipsInBox_30 rfl rfl ?_
      exact kv_iret (pc := 31) dX5_chipsInBox_31 rfl (by cases h; rfl) (by decide) (by decide)
    · refine kv_aload_n (pc := 12) 0 dX5_chipsInBox_12 rfl rfl ?_
      refine kv_iload_n (pc := 13) 2 dX5_chipsInBox_13 rfl rfl ?_
      refine kv_cV (pc := 14) [.int v2] (fun r1 => (0, .int r1, σ)) (fun r1 => (.int r1 :: [])) (fun r1 => σ) 17 0 0 h (fun r1 g2 => tX5_cellOf sh hw l hst q0 h0 v2 σ r1 g2) dX5_chipsInBox_14 rfl h0 rfl yw_X5_cellOf lk_X5_96 (by decide) (Nat.le_of_ble_eq_true rfl) (by decide) (fun _ => rfl) (fun _ => rfl) ⟨rfl, rfl, rfl⟩ (fun _ _ h0 => absurd rfl h0) (fun r1 g2 z3 h => ?_)
      refine kv_iconst (pc := 17) (v := (-1)) dX5_chipsInBox_17 (by decide) ?_
      refine kv_icmp_eq (pc := 18) (tgt := 24) dX5_chipsInBox_18 (by decide) h (fun h => ?_) (fun h => ?_)
      · refine kv_sub (pc := 24) [(0, .ref q0), (1, .int v1), (2, .int v2)] [0, 1, 2] rfl ?_
        exact wX5_chipsInBox_L24 sh hw l hst q0 h0 (fX5_chipsInBox_L4 q0 fu) ih v1 v2 σ r h
      · refine kv_iinc (pc := 21) (v := v1 + 1) 1 [(1, .int (v1 + 1)), (0, .ref q0), (2, .int v2)] dX5_chipsInBox_21 rfl rfl (by decide) rfl ?_
        refine kv_sub (pc := 24) [(0, .ref q0), (1, .int (v1 + 1)), (2, .int v2)] [1, 0, 2] rfl ?_
        exact wX5_chipsInBox_L24 sh hw l hst q0 h0 (fX5_chipsInBox_L4 q0 fu) ih (v1 + 1) v2 σ r h
set_option maxHeartbeats 4000000 in
set_option maxRecDepth 100000 in
theorem tX5_chipsInBox (sh : KSh) (hw : KWf sh) (l : Launch) (hst : l.stackTraces = false) (q0 : Nat) (h0 : sh q0 = .inl 5) (σ : Sto) (r : Int32) (h : fX5_chipsInBox q0 σ = some r) : CT sh l mX5_chipsInBox yX5_chipsInBox [.ref q0] σ (0, .int r, σ) := by
  refine kct [(0, .ref q0)] hst (by decide +kernel) rfl rfl (Nat.le_of_ble_eq_true rfl) ?_
  rw [fX5_chipsInBox] at h
  refine kv_iconst (pc := 0) (v := 0) dX5_chipsInBox_0 (by decide) ?_
  refine kv_istore_n (pc := 1) [(1, .int 0), (0, .ref q0)] dX5_chipsInBox_1 rfl (by decide) rfl ?_
  refine kv_iconst (pc := 2) (v := 0) dX5_chipsInBox_2 (by decide) ?_
  refine kv_istore_n (pc := 3) [(2, .int 0), (1, .int 0), (0, .ref q0)] dX5_chipsInBox_3 rfl (by decide) rfl ?_
  refine kv_sub (pc := 4) [(0, .ref q0), (1, .int 0), (2, .int 0)] [2, 1, 0] rfl ?_
  exact wX5_chipsInBox_L4 sh hw l hst q0 h0 kFU 0 0 σ r h
theorem yw_X5_chipsInBox : KMV yX5_chipsInBox mX5_chipsInBox RX5 0 := ⟨⟨rfl, by decide +kernel, by decide +kernel, by decide +kernel⟩, ⟨rfl, rfl⟩, kg_in 618 (by decide +kernel) (by decide +kernel), kg_in 619 (by decide +kernel) (by decide +kernel), kg_in 48 (by decide +kernel) (by decide +kernel), kg_in 620 (by decide +kernel) (by decide +kernel)⟩
theorem dX5_takeOut_0 : decode cX5_takeOut 0 = .ok (.aload_n 0, 1) := by decide +kernel
theorem dX5_takeOut_1 : decode cX5_takeOut 1 = .ok (.iload_n 1, 1) := by decide +kernel
theorem dX5_takeOut_2 : decode cX5_takeOut 2 = .ok (.invokevirtual 96, 3) := by decide +kernel
theorem dX5_takeOut_5 : decode cX5_takeOut 5 = .ok (.istore_n 2, 1) := by decide +kernel
theorem dX5_takeOut_6 : decode cX5_takeOut 6 = .ok (.iload_n 2, 1) := by decide +kernel
theorem dX5_takeOut_7 : decode cX5_takeOut 7 = .ok (.invokestatic 86, 3) := by decide +kernel
theorem dX5_takeOut_10 : decode cX5_takeOut 10 = .ok (.ifCond .eq 17, 3) := by decide +kernel
theorem dX5_takeOut_13 : decode cX5_takeOut 13 = .ok (.aload_n 0, 1) := by decide +kernel
theorem dX5_takeOut_14 : decode cX5_takeOut 14 = .ok (.getfield 38, 3) := by decide +kernel
theorem dX5_takeOut_17 : decode cX5_takeOut 17 = .ok (.iload_n 2, 1) := by decide +kernel
theorem dX5_takeOut_18 : decode cX5_takeOut 18 = .ok (.iconst (-1), 1) := by decide +kernel
theorem dX5_takeOut_19 : decode cX5_takeOut 19 = .ok (.iastore, 1) := by decide +kernel
theorem dX5_takeOut_20 : decode cX5_takeOut 20 = .ok (.aload_n 0, 1) := by decide +kernel
theorem dX5_takeOut_21 : decode cX5_takeOut 21 = .ok (.getfield 32, 3) := by decide +kernel
theorem dX5_takeOut_24 : decode cX5_takeOut 24 = .ok (.iload_n 1, 1) := by decide +kernel
theorem dX5_takeOut_25 : decode cX5_takeOut 25 = .ok (.iconst (-1), 1) := by decide +kernel
theorem dX5_takeOut_26 : decode cX5_takeOut 26 = .ok (.iastore, 1) := by decide +kernel
theorem dX5_takeOut_27 : decode cX5_takeOut 27 = .ok (.return_, 1) := by decide +kernel
abbrev mX5_takeOut : KM := (RX5, cX5_takeOut, 3, none, { frames := 2, cells := 0, slots := 0, locals := 42 }, 0, 0)
def fX5_takeOut (q0 : Nat) (a1 : Int32) (σ : Sto) : Option Sto :=
  (fX5_cellOf q0 a1 σ).bind fun r1 =>
  if (fX1_isCell r1) = true then
    if kin r1 225 = true then
      klet (su σ (q0 + 8) r1.toNatClampNeg (-1)) fun σ4 =>
      if kin a1 30 = true then
        klet (su σ4 (q0 + 6) a1.toNatClampNeg (-1)) fun σ5 =>
        some σ5
      else none
    else none
  else
    some σ
set_option maxHeartbeats 4000000 in
set_option maxRecDepth 100000 in
theorem tX5_takeOut (sh : KSh) (hw : KWf sh) (l : Launch) (hst : l.stackTraces = false) (q0 : Nat) (h0 : sh q0 = .inl 5) (a1 : Int32) (σ : Sto) (r : Sto) (h : fX5_takeOut q0 a1 σ = some r) : CT sh l mX5_takeOut yX5_takeOut [.ref q0, .int a1] σ (0, .int 0, r) := by
  refine kct [(0, .ref q0), (1, .int a1)] hst (by decide +kernel) rfl rfl (Nat.le_of_ble_eq_true rfl) ?_
  rw [fX5_takeOut] at h
  refine kv_aload_n (pc := 0) 0 dX5_takeOut_0 rfl rfl ?_
  refine kv_iload_n (pc := 1) 1 dX5_takeOut_1 rfl rfl ?_
  refine kv_cV (pc := 2) [.int a1] (fun r1 => (0, .int r1, σ)) (fun r1 => (.int r1 :: [])) (fun r1 => σ) 5 0 0 h (fun r1 g2 => tX5_cellOf sh hw l hst q0 h0 a1 σ r1 g2) dX5_takeOut_2 rfl h0 rfl yw_X5_cellOf lk_X5_96 (by decide) (Nat.le_of_ble_eq_true rfl) (by decide) (fun _ => rfl) (fun _ => rfl) ⟨rfl, rfl, rfl⟩ (fun _ _ h0 => absurd rfl h0) (fun r1 g2 z3 h => ?_)
  refine kv_istore_n (pc := 5) [(2, .int r1), (0, .ref q0), (1, .int a1)] dX5_takeOut_5 rfl (by decide) rfl ?_
  refine kv_iload_n (pc := 6) 0 dX5_takeOut_6 rfl rfl ?_
  refine kv_tS (pc := 7) (v := .int (kb (fX1_isCell r1))) [.int r1] (.int (kb (fX1_isCell r1)) :: []) 10 0 0 (tX1_isCell sh hw l hst r1 σ) dX5_takeOut_7 rfl yw_X1_isCell lk_X5_86 (by decide) (Nat.le_of_ble_eq_true rfl) (by decide) rfl ⟨rfl, rfl, rfl⟩ ?_
  refine kv_ifb_eq (pc := 10) (tgt := 27) dX5_takeOut_10 (by decide) h (fun h => ?_) (fun h => ?_)
  · exact kv_vret (pc := 27) (v := .int 0) dX5_takeOut_27 rfl (by cases h; rfl) (by decide) (by decide)
  · refine kv_aload_n (pc := 13) 1 dX5_takeOut_13 rfl rfl ?_
    refine kv_getR (pc := 14) (q2 := q0 + 8) dX5_takeOut_14 h0 rfl (i := 14) (by decide) rfl fl_X5_38 rfl rfl ?_
    refine kv_iload_n (pc := 17) 0 dX5_takeOut_17 rfl rfl ?_
    refine kv_iconst (pc := 18) (v := (-1)) dX5_takeOut_18 (by decide) ?_
    refine kv_iast (pc := 19) dX5_takeOut_19 (show sh (q0 + 8) = _ from kso_5_8 hw h0) h (fun h => ?_)
    refine kv_let h (fun σ4 h => ?_)
    refine kv_aload_n (pc := 20) 1 dX5_takeOut_20 rfl rfl ?_
    refine kv_getR (pc := 21) (q2 := q0 + 6) dX5_takeOut_21 h0 rfl (i := 12) (by decide) rfl fl_X5_32 rfl rfl ?_
    refine kv_iload_n (pc := 24) 2 dX5_takeOut_24 rfl rfl ?_
    refine kv_iconst (pc := 25) (v := (-1)) dX5_takeOut_25 (by decide) ?_
    refine kv_iast (pc := 26) dX5_takeOut_26 (show sh (q0 + 6) = _ from kso_5_6 hw h0) h (fun h => ?_)
    refine kv_let h (fun σ5 h => ?_)
    exact kv_vret (pc := 27) (v := .int 0) dX5_takeOut_27 rfl (by cases h; rfl) (by decide) (by decide)
theorem yw_X5_takeOut : KMV yX5_takeOut mX5_takeOut RX5 1 := ⟨⟨rfl, by decide +kernel, by decide +kernel, by decide +kernel⟩, ⟨rfl, rfl⟩, kg_in 1141 (by decide +kernel) (by decide +kernel), kg_in 1142 (by decide +kernel) (by decide +kernel), kg_in 48 (by decide +kernel) (by decide +kernel), kg_in 1143 (by decide +kernel) (by decide +kernel)⟩
theorem dX5_recolour_0 : decode cX5_recolour 0 = .ok (.aload_n 0, 1) := by decide +kernel
theorem dX5_recolour_1 : decode cX5_recolour 1 = .ok (.iload_n 1, 1) := by decide +kernel
theorem dX5_recolour_2 : decode cX5_recolour 2 = .ok (.invokevirtual 82, 3) := by decide +kernel
theorem dX5_recolour_5 : decode cX5_recolour 5 = .ok (.ifCond .eq 10, 3) := by decide +kernel
theorem dX5_recolour_8 : decode cX5_recolour 8 = .ok (.aload_n 0, 1) := by decide +kernel
theorem dX5_recolour_9 : decode cX5_recolour 9 = .ok (.getfield 26, 3) := by decide +kernel
theorem dX5_recolour_12 : decode cX5_recolour 12 = .ok (.iload_n 1, 1) := by decide +kernel
theorem dX5_recolour_13 : decode cX5_recolour 13 = .ok (.iload_n 2, 1) := by decide +kernel
theorem dX5_recolour_14 : decode cX5_recolour 14 = .ok (.iastore, 1) := by decide +kernel
theorem dX5_recolour_15 : decode cX5_recolour 15 = .ok (.return_, 1) := by decide +kernel
abbrev mX5_recolour : KM := (RX5, cX5_recolour, 3, none, { frames := 1, cells := 0, slots := 0, locals := 21 }, 0, 0)
def fX5_recolour (q0 : Nat) (a1 : Int32) (a2 : Int32) (σ : Sto) : Option Sto :=
  if (fX5_isChip q0 a1 σ) = true then
    if kin a1 30 = true then
      klet (su σ (q0 + 4) a1.toNatClampNeg a2) fun σ1 =>
      some σ1
    else none
  else
    some σ
set_option maxHeartbeats 4000000 in
set_option maxRecDepth 100000 in
theorem tX5_recolour (sh : KSh) (hw : KWf sh) (l : Launch) (hst : l.stackTraces = false) (q0 : Nat) (h0 : sh q0 = .inl 5) (a1 : Int32) (a2 : Int32) (σ : Sto) (r : Sto) (h : fX5_recolour q0 a1 a2 σ = some r) : CT sh l mX5_recolour yX5_recolour [.ref q0, .int a1, .int a2] σ (0, .int 0, r) := by
  refine kct [(0, .ref q0), (1, .int a1), (2, .int a2)] hst (by decide +kernel) rfl rfl (Nat.le_of_ble_eq_true rfl) ?_
  rw [fX5_recolour] at h
  refine kv_aload_n (pc := 0) 0 dX5_recolour_0 rfl rfl ?_
  refine kv_iload_n (pc := 1) 1 dX5_recolour_1 rfl rfl ?_
  refine kv_tV (pc := 2) (v := .int (kb (fX5_isChip q0 a1 σ))) [.int a1] (.int (kb (fX5_isChip q0 a1 σ)) :: []) 5 0 0 (tX5_isChip sh hw l hst q0 h0 a1 σ) dX5_recolour_2 rfl h0 rfl yw_X5_isChip lk_X5_82 (by decide) (Nat.le_of_ble_eq_true rfl) (by decide) rfl ⟨rfl, rfl, rfl⟩ ?_
  refine kv_ifb_eq (pc := 5) (tgt := 15) dX5_recolour_5 (by decide) h (fun h => ?_) (fun h => ?_)
  · exact kv_vret (pc := 15) (v := .int 0) dX5_recolour_15 rfl (by cases h; rfl) (by decide) (by decide)
  · refine kv_aload_n (pc := 8) 0 dX5_recolour_8 rfl rfl ?_
    refine kv_getR (pc := 9) (q2 := q0 + 4) dX5_recolour_9 h0 rfl (i := 10) (by decide) rfl fl_X5_26 rfl rfl ?_
    refine kv_iload_n (pc := 12) 1 dX5_recolour_12 rfl rfl ?_
    refine kv_iload_n (pc := 13) 2 dX5_recolour_13 rfl rfl ?_
    refine kv_iast (pc := 14) dX5_recolour_14 (show sh (q0 + 4) = _ from kso_5_4 hw h0) h (fun h => ?_)
    refine kv_let h (fun σ1 h => ?_)
    exact kv_vret (pc := 15) (v := .int 0) dX5_recolour_15 rfl (by cases h; rfl) (by decide) (by decide)
theorem yw_X5_recolour : KMV yX5_recolour mX5_recolour RX5 2 := ⟨⟨rfl, by decide +kernel, by decide +kernel, by decide +kernel⟩, ⟨rfl, rfl⟩, kg_in 1133 (by decide +kernel) (by decide +kernel), kg_in 1134 (by decide +kernel) (by decide +kernel), kg_in 48 (by decide +kernel) (by decide +kernel), kg_in 1135 (by decide +kernel) (by decide +kernel)⟩
theorem dX5_turnBy_0 : decode cX5_turnBy 0 = .ok (.aload_n 0, 1) := by decide +kernel
theorem dX5_turnBy_1 : decode cX5_turnBy 1 = .ok (.aload_n 0, 1) := by decide +kernel
theorem dX5_turnBy_2 : decode cX5_turnBy 2 = .ok (.getfield 12, 3) := by decide +kernel
theorem dX5_turnBy_5 : decode cX5_turnBy 5 = .ok (.aload_n 0, 1) := by decide +kernel
theorem dX5_turnBy_6 : decode cX5_turnBy 6 = .ok (.getfield 51, 3) := by decide +kernel
theorem dX5_turnBy_9 : decode cX5_turnBy 9 = .ok (.iload_n 1, 1) := by decide +kernel
theorem dX5_turnBy_10 : decode cX5_turnBy 10 = .ok (.iadd, 1) := by decide +kernel
theorem dX5_turnBy_11 : decode cX5_turnBy 11 = .ok (.invokevirtual 102, 3) := by decide +kernel
theorem dX5_turnBy_14 : decode cX5_turnBy 14 = .ok (.putfield 51, 3) := by decide +kernel
theorem dX5_turnBy_17 : decode cX5_turnBy 17 = .ok (.return_, 1) := by decide +kernel
abbrev mX5_turnBy : KM := (RX5, cX5_turnBy, 2, none, { frames := 1, cells := 0, slots := 0, locals := 21 }, 0, 0)
def fX5_turnBy (q0 : Nat) (a1 : Int32) (σ : Sto) : Sto :=
  klet (su σ q0 1 (fX1_wrapped (q0 + 1) ((σ q0 1) + a1) σ)) fun σ1 =>
  σ1
set_option maxHeartbeats 4000000 in
set_option maxRecDepth 100000 in
theorem tX5_turnBy (sh : KSh) (hw : KWf sh) (l : Launch) (hst : l.stackTraces = false) (q0 : Nat) (h0 : sh q0 = .inl 5) (a1 : Int32) (σ : Sto) : CT sh l mX5_turnBy yX5_turnBy [.ref q0, .int a1] σ (0, .int 0, (fX5_turnBy q0 a1 σ)) := by
  refine kct [(0, .ref q0), (1, .int a1)] hst (by decide +kernel) rfl rfl (Nat.le_of_ble_eq_true rfl) ?_
  generalize h : fX5_turnBy q0 a1 σ = r
  rw [fX5_turnBy] at h
  refine kv_aload_n (pc := 0) 0 dX5_turnBy_0 rfl rfl ?_
  refine kv_aload_n (pc := 1) 0 dX5_turnBy_1 rfl rfl ?_
  refine kv_getR (pc := 2) (q2 := q0 + 1) dX5_turnBy_2 h0 rfl (i := 0) (by decide) rfl fl_X5_12 rfl rfl ?_
  refine kv_aload_n (pc := 5) 0 dX5_turnBy_5 rfl rfl ?_
  refine kv_getI (pc := 6) dX5_turnBy_6 h0 rfl (i := 1) (by decide) rfl fl_X5_51 rfl ?_
  refine kv_iload_n (pc := 9) 1 dX5_turnBy_9 rfl rfl ?_
  refine kv_iadd (pc := 10) dX5_turnBy_10 ?_
  refine kv_tV (pc := 11) (v := .int (fX1_wrapped (q0 + 1) ((σ q0 1) + a1) σ)) [.int ((σ q0 1) + a1)] (.int (fX1_wrapped (q0 + 1) ((σ q0 1) + a1) σ) :: [.ref q0]) 14 0 0 (tX1_wrapped sh hw l hst (q0 + 1) (show sh (q0 + 1) = _ from kso_5_1 hw h0) ((σ q0 1) + a1) σ) dX5_turnBy_11 rfl (show sh (q0 + 1) = _ from kso_5_1 hw h0) rfl yw_X1_wrapped lk_X5_102 (by decide) (Nat.le_of_ble_eq_true rfl) (by decide) rfl ⟨rfl, rfl, rfl⟩ ?_
  refine kv_put (pc := 14) tyX5 tyX5_ok nmX5 dX5_turnBy_14 h0 rfl (i := 1) (by decide) rfl fl_X5_51 rfl rfl rfl rfl rfl ?_
  refine kv_let h (fun σ1 h => ?_)
  exact kv_vret (pc := 17) (v := .int 0) dX5_turnBy_17 rfl (by subst h; rfl) (by decide) (by decide)
theorem yw_X5_turnBy : KMV yX5_turnBy mX5_turnBy RX5 1 := ⟨⟨rfl, by decide +kernel, by decide +kernel, by decide +kernel⟩, ⟨rfl, rfl⟩, kg_in 1107 (by decide +kernel) (by decide +kernel), kg_in 1108 (by decide +kernel) (by decide +kernel), kg_in 48 (by decide +kernel) (by decide +kernel), kg_in 1109 (by decide +kernel) (by decide +kernel)⟩
theorem dX5_sumOfDepths_0 : decode cX5_sumOfDepths 0 = .ok (.iconst 0, 1) := by decide +kernel
theorem dX5_sumOfDepths_1 : decode cX5_sumOfDepths 1 = .ok (.istore_n 1, 1) := by decide +kernel
theorem dX5_sumOfDepths_2 : decode cX5_sumOfDepths 2 = .ok (.iconst 0, 1) := by decide +kernel
theorem dX5_sumOfDepths_3 : decode cX5_sumOfDepths 3 = .ok (.istore_n 2, 1) := by decide +kernel
theorem dX5_sumOfDepths_4 : decode cX5_sumOfDepths 4 = .ok (.iload_n 2, 1) := by decide +kernel
theorem dX5_sumOfDepths_5 : decode cX5_sumOfDepths 5 = .ok (.aload_n 0, 1) := by decide +kernel
theorem dX5_sumOfDepths_6 : decode cX5_sumOfDepths 6 = .ok (.getfield 69, 3) := by decide +kernel
theorem dX5_sumOfDepths_9 : decode cX5_sumOfDepths 9 = .ok (.if_icmp .ge 35, 3) := by decide +kernel
theorem dX5_sumOfDepths_12 : decode cX5_sumOfDepths 12 = .ok (.aload_n 0, 1) := by decide +kernel
theorem dX5_sumOfDepths_13 : decode cX5_sumOfDepths 13 = .ok (.iload_n 2, 1) := by decide +kernel
theorem dX5_sumOfDepths_14 : decode cX5_sumOfDepths 14 = .ok (.invokevirtual 96, 3) := by decide +kernel
theorem dX5_sumOfDepths_17 : decode cX5_sumOfDepths 17 = .ok (.istore_n 3, 1) := by decide +kernel
theorem dX5_sumOfDepths_18 : decode cX5_sumOfDepths 18 = .ok (.iload_n 3, 1) := by decide +kernel
theorem dX5_sumOfDepths_19 : decode cX5_sumOfDepths 19 = .ok (.iconst (-1), 1) := by decide +kernel
theorem dX5_sumOfDepths_20 : decode cX5_sumOfDepths 20 = .ok (.if_icmp .eq 18, 3) := by decide +kernel
theorem dX5_sumOfDepths_23 : decode cX5_sumOfDepths 23 = .ok (.iload_n 1, 1) := by decide +kernel
theorem dX5_sumOfDepths_24 : decode cX5_sumOfDepths 24 = .ok (.aload_n 0, 1) := by decide +kernel
theorem dX5_sumOfDepths_25 : decode cX5_sumOfDepths 25 = .ok (.getfield 12, 3) := by decide +kernel
theorem dX5_sumOfDepths_28 : decode cX5_sumOfDepths 28 = .ok (.iload_n 3, 1) := by decide +kernel
theorem dX5_sumOfDepths_29 : decode cX5_sumOfDepths 29 = .ok (.aload_n 0, 1) := by decide +kernel
theorem dX5_sumOfDepths_30 : decode cX5_sumOfDepths 30 = .ok (.getfield 51, 3) := by decide +kernel
theorem dX5_sumOfDepths_33 : decode cX5_sumOfDepths 33 = .ok (.invokevirtual 105, 3) := by decide +kernel
theorem dX5_sumOfDepths_36 : decode cX5_sumOfDepths 36 = .ok (.iadd, 1) := by decide +kernel
theorem dX5_sumOfDepths_37 : decode cX5_sumOfDepths 37 = .ok (.istore_n 1, 1) := by decide +kernel
theorem dX5_sumOfDepths_38 : decode cX5_sumOfDepths 38 = .ok (.iinc 2 1, 3) := by decide +kernel
theorem dX5_sumOfDepths_41 : decode cX5_sumOfDepths 41 = .ok (.goto (-37), 3) := by decide +kernel
theorem dX5_sumOfDepths_44 : decode cX5_sumOfDepths 44 = .ok (.iload_n 1, 1) := by decide +kernel
theorem dX5_sumOfDepths_45 : decode cX5_sumOfDepths 45 = .ok (.ireturn, 1) := by decide +kernel
abbrev mX5_sumOfDepths : KM := (RX5, cX5_sumOfDepths, 4, (some .int), { frames := 2, cells := 0, slots := 0, locals := 47 }, 0, 0)
def fX5_sumOfDepths_L38 (q0 : Nat) (K4 : Int32 → Int32 → Sto → Option Int32) (v1 : Int32) (v2 : Int32) (σ : Sto) : Option Int32 :=
  K4 v1 (v2 + 1) σ
def fX5_sumOfDepths_L4 (q0 : Nat) : Nat → Int32 → Int32 → Sto → Option Int32
  | 0, _, _, _ => none
  | fu + 1, v1, v2, σ =>
    if (σ q0 8) ≤ v2 then
      some v1
    else
      (fX5_cellOf q0 v2 σ).bind fun r1 =>
      if r1 = (-1) then
        fX5_sumOfDepths_L38 q0 (fX5_sumOfDepths_L4 q0 fu) v1 v2 σ
      else
        (fX1_depthOf (q0 + 1) r1 (σ q0 1) σ).bind fun r4 =>
        fX5_sumOfDepths_L38 q0 (fX5_sumOfDepths_L4 q0 fu) (v1 + r4) v2 σ
def fX5_sumOfDepths (q0 : Nat) (σ : Sto) : Option Int32 :=
  fX5_sumOfDepths_L4 q0 kFU 0 0 σ
set_option maxHeartbeats 4000000 in
set_option maxRecDepth 100000 in
theorem wX5_sumOfDepths_L38 (sh : KSh) (hw : KWf sh) (l : Launch) (hst : l.stackTraces = false) (q0 : Nat) (h0 : sh q0 = .inl 5) (K4 : Int32 → Int32 → Sto → Option Int32) (hK4 : ∀ (v1 : Int32), ∀ (v2 : Int32), ∀ (σ : Sto), ∀ (r : Int32), K4 v1 v2 σ = some r → VV sh l mX5_sumOfDepths 0 0 4 [(0, .ref q0), (1, .int v1), (2, .int v2)] [] σ (0, .int r, σ)) : ∀ (v1 : Int32), ∀ (v2 : Int32), ∀ (σ : Sto), ∀ (r : Int32), fX5_sumOfDepths_L38 q0 K4 v1 v2 σ = some r → VV sh l mX5_sumOfDepths 0 0 38 [(0, .ref q0), (1, .int v1), (2, .int v2)] [] σ (0, .int r, σ) := by
  intro v1 v2 σ r h
  rw [fX5_sumOfDepths_L38] at h
  refine kv_iinc (pc := 38) (v := v2 + 1) 2 [(2, .int (v2 + 1)), (0, .ref q0), (1, .int v1)] dX5_sumOfDepths_38 rfl rfl (by decide) rfl ?_
  refine kv_goto (pc := 41) (tgt := 4) dX5_sumOfDepths_41 (by decide) ?_
  refine kv_sub (pc := 4) [(0, .ref q0), (1, .int v1), (2, .int (v2 + 1))] [1, 2, 0] rfl ?_
  exact hK4 v1 (v2 + 1) σ r h
set_option maxHeartbeats 4000000 in
set_option maxRecDepth 100000 in
theorem wX5_sumOfDepths_L4 (sh : KSh) (hw : KWf sh) (l : Launch) (hst : l.stackTraces = false) (q0 : Nat) (h0 : sh q0 = .inl 5) : ∀ (fu : Nat), ∀ (v1 : Int32), ∀ (v2 : Int32), ∀ (σ : Sto), ∀ (r : Int32), fX5_sumOfDepths_L4 q0 fu v1 v2 σ = some r → VV sh l mX5_sumOfDepths 0 0 4 [(0, .ref q0), (1, .int v1), (2, .int v2)] [] σ (0, .int r, σ) := by
  intro fu
  induction fu with
  | zero => intro v1 v2 σ r h; rw [fX5_sumOfDepths_L4] at h; cases h
  | succ fu ih =>
    intro v1 v2 σ r h
    rw [fX5_sumOfDepths_L4] at h
    refine kv_iload_n (pc := 4) 2 dX5_sumOfDepths_4 rfl rfl ?_
    refine kv_aload_n (pc := 5) 0 dX5_sumOfDepths_5 rfl rfl ?_
    refine kv_getI (pc := 6) dX5_sumOfDepths_6 h0 rfl (i := 8) (by decide) rfl fl_X5_69 rfl ?_
    refine kv_icmp_ge (pc := 9) (tgt := 44) dX5_sumOfDepths_9 (by decide) h (fun h => ?_) (fun h => ?_)
    · refine kv_iload_n (pc := 44) 1 dX5_sumOfDepths_44 rfl rfl ?_
      exact kv_iret (pc := 45) dX5_sumOfDepths_45 rfl (by cases h; rfl) (by decide) (by decide)
    · refine kv_aload_n (pc := 12) 0 dX5_sumOfDepths_12 rfl rfl ?_
      refine kv_iload_n (pc := 13) 2 dX5_sumOfDepths_13 rfl rfl ?_
      refine kv_cV (pc := 14) [.int v2] (fun r1 => (0, .int r1, σ)) (fun r1 => (.int r1 :: [])) (fun r1 => σ) 17 0 0 h (fun r1 g2 => tX5_cellOf sh hw l hst q0 h0 v2 σ r1 g2) dX5_sumOfDepths_14 rfl h0 rfl yw_X5_cellOf lk_X5_96 (by decide) (Nat.le_of_ble_eq_true rfl) (by decide) (fun _ => rfl) (fun _ => rfl) ⟨rfl, rfl, rfl⟩ (fun _ _ h0 => absurd rfl h0) (fun r1 g2 z3 h => ?_)
      refine kv_istore_n (pc := 17) [(3, .int r1), (0, .ref q0), (1, .int v1), (2, .int v2)] dX5_sumOfDepths_17 rfl (by decide) rfl ?_
      refine kv_iload_n (pc := 18) 0 dX5_sumOfDepths_18 rfl rfl ?_
      refine kv_iconst (pc := 19) (v := (-1)) dX5_sumOfDepths_19 (by decide) ?_
      refine kv_icmp_eq (pc := 20) (tgt := 38) dX5_sumOfDepths_20 (by decide) h (fun h => ?_) (fun h => ?_)
      · refine kv_sub (pc := 38) [(0, .ref q0), (1, .int v1), (2, .int v2)] [1, 2, 3] rfl ?_
        exact wX5_sumOfDepths_L38 sh hw l hst q0 h0 (fX5_sumOfDepths_L4 q0 fu) ih v1 v2 σ r h
      · refine kv_iload_n (pc := 23) 2 dX5_sumOfDepths_23 rfl rfl ?_
        refine kv_aload_n (pc := 24) 1 dX5_sumOfDepths_24 rfl rfl ?_
        refine kv_getR (pc := 25) (q2 := q0 + 1) dX5_sumOfDepths_25 h0 rfl (i := 0) (by decide) rfl fl_X5_12 rfl rfl ?_
        refine kv_iload_n (pc := 28) 0 dX5_sumOfDepths_28 rfl rfl ?_
        refine kv_aload_n (pc := 29) 1 dX5_sumOfDepths_29 rfl rfl ?_
        refine kv_getI (pc := 30) dX5_sumOfDepths_30 h0 rfl (i := 1) (by decide) rfl fl_X5_51 rfl ?_
        refine kv_cV (pc := 33) [.int r1, .int (σ q0 1)] (fun r4 => (0, .int r4, σ)) (fun r4 => (.int r4 :: [.int v1])) (fun r4 => σ) 36 0 0 h (fun r4 g5 => tX1_depthOf sh hw l hst (q0 + 1) (show sh (q0 + 1) = _ from kso_5_1 hw h0) r1 (σ q0 1) σ r4 g5) dX5_sumOfDepths_33 rfl (show sh (q0 + 1) = _ from kso_5_1 hw h0) rfl yw_X1_depthOf lk_X5_105 (by decide) (Nat.le_of_ble_eq_true rfl) (by decide) (fun _ => rfl) (fun _ => rfl) ⟨rfl, rfl, rfl⟩ (fun _ _ h0 => absurd rfl h0) (fun r4 g5 z6 h => ?_)
        refine kv_iadd (pc := 36) dX5_sumOfDepths_36 ?_
        refine kv_istore_n (pc := 37) [(1, .int (v1 + r4)), (3, .int r1), (0, .ref q0), (2, .int v2)] dX5_sumOfDepths_37 rfl (by decide) rfl ?_
        refine kv_sub (pc := 38) [(0, .ref q0), (1, .int (v1 + r4)), (2, .int v2)] [2, 0, 3] rfl ?_
        exact wX5_sumOfDepths_L38 sh hw l hst q0 h0 (fX5_sumOfDepths_L4 q0 fu) ih (v1 + r4) v2 σ r h
set_option maxHeartbeats 4000000 in
set_option maxRecDepth 100000 in
theorem tX5_sumOfDepths (sh : KSh) (hw : KWf sh) (l : Launch) (hst : l.stackTraces = false) (q0 : Nat) (h0 : sh q0 = .inl 5) (σ : Sto) (r : Int32) (h : fX5_sumOfDepths q0 σ = some r) : CT sh l mX5_sumOfDepths yX5_sumOfDepths [.ref q0] σ (0, .int r, σ) := by
  refine kct [(0, .ref q0)] hst (by decide +kernel) rfl rfl (Nat.le_of_ble_eq_true rfl) ?_
  rw [fX5_sumOfDepths] at h
  refine kv_iconst (pc := 0) (v := 0) dX5_sumOfDepths_0 (by decide) ?_
  refine kv_istore_n (pc := 1) [(1, .int 0), (0, .ref q0)] dX5_sumOfDepths_1 rfl (by decide) rfl ?_
  refine kv_iconst (pc := 2) (v := 0) dX5_sumOfDepths_2 (by decide) ?_
  refine kv_istore_n (pc := 3) [(2, .int 0), (1, .int 0), (0, .ref q0)] dX5_sumOfDepths_3 rfl (by decide) rfl ?_
  refine kv_sub (pc := 4) [(0, .ref q0), (1, .int 0), (2, .int 0)] [2, 1, 0] rfl ?_
  exact wX5_sumOfDepths_L4 sh hw l hst q0 h0 kFU 0 0 σ r h
theorem yw_X5_sumOfDepths : KMV yX5_sumOfDepths mX5_sumOfDepths RX5 0 := ⟨⟨rfl, by decide +kernel, by decide +kernel, by decide +kernel⟩, ⟨rfl, rfl⟩, kg_in 1112 (by decide +kernel) (by decide +kernel), kg_in 1113 (by decide +kernel) (by decide +kernel), kg_in 48 (by decide +kernel) (by decide +kernel), kg_in 1114 (by decide +kernel) (by decide +kernel)⟩
