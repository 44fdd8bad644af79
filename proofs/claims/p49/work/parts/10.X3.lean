theorem dX3_find_0 : decode cX3_find 0 = .ok (.iload_n 1, 1) := by decide +kernel
theorem dX3_find_1 : decode cX3_find 1 = .ok (.invokestatic 61, 3) := by decide +kernel
theorem dX3_find_4 : decode cX3_find 4 = .ok (.ifCond .eq 37, 3) := by decide +kernel
theorem dX3_find_7 : decode cX3_find 7 = .ok (.aload_n 0, 1) := by decide +kernel
theorem dX3_find_8 : decode cX3_find 8 = .ok (.getfield 15, 3) := by decide +kernel
theorem dX3_find_11 : decode cX3_find 11 = .ok (.iload_n 1, 1) := by decide +kernel
theorem dX3_find_12 : decode cX3_find 12 = .ok (.iaload, 1) := by decide +kernel
theorem dX3_find_13 : decode cX3_find 13 = .ok (.iconst (-1), 1) := by decide +kernel
theorem dX3_find_14 : decode cX3_find 14 = .ok (.if_icmp .eq 13, 3) := by decide +kernel
theorem dX3_find_17 : decode cX3_find 17 = .ok (.iload_n 3, 1) := by decide +kernel
theorem dX3_find_18 : decode cX3_find 18 = .ok (.aload_n 0, 1) := by decide +kernel
theorem dX3_find_19 : decode cX3_find 19 = .ok (.getfield 15, 3) := by decide +kernel
theorem dX3_find_22 : decode cX3_find 22 = .ok (.iload_n 1, 1) := by decide +kernel
theorem dX3_find_23 : decode cX3_find 23 = .ok (.iaload, 1) := by decide +kernel
theorem dX3_find_24 : decode cX3_find 24 = .ok (.if_icmp .ge 17, 3) := by decide +kernel
theorem dX3_find_27 : decode cX3_find 27 = .ok (.aload_n 0, 1) := by decide +kernel
theorem dX3_find_28 : decode cX3_find 28 = .ok (.getfield 9, 3) := by decide +kernel
theorem dX3_find_31 : decode cX3_find 31 = .ok (.iload_n 1, 1) := by decide +kernel
theorem dX3_find_32 : decode cX3_find 32 = .ok (.iload_n 2, 1) := by decide +kernel
theorem dX3_find_33 : decode cX3_find 33 = .ok (.iastore, 1) := by decide +kernel
theorem dX3_find_34 : decode cX3_find 34 = .ok (.aload_n 0, 1) := by decide +kernel
theorem dX3_find_35 : decode cX3_find 35 = .ok (.getfield 15, 3) := by decide +kernel
theorem dX3_find_38 : decode cX3_find 38 = .ok (.iload_n 1, 1) := by decide +kernel
theorem dX3_find_39 : decode cX3_find 39 = .ok (.iload_n 3, 1) := by decide +kernel
theorem dX3_find_40 : decode cX3_find 40 = .ok (.iastore, 1) := by decide +kernel
theorem dX3_find_41 : decode cX3_find 41 = .ok (.return_, 1) := by decide +kernel
abbrev mX3_find : KM := (RX3, cX3_find, 4, none, { frames := 1, cells := 0, slots := 0, locals := 20 }, 0, 0)
def fX3_find_L27 (q0 : Nat) (a1 : Int32) (a2 : Int32) (a3 : Int32) (σ : Sto) : Option Sto :=
  if kin a1 225 = true then
    klet (su σ (q0 + 1) a1.toNatClampNeg a2) fun σ1 =>
    if kin a1 225 = true then
      klet (su σ1 (q0 + 2) a1.toNatClampNeg a3) fun σ2 =>
      some σ2
    else none
  else none
def fX3_find (q0 : Nat) (a1 : Int32) (a2 : Int32) (a3 : Int32) (σ : Sto) : Option Sto :=
  if (fX1_isCell a1) = true then
    if kin a1 225 = true then
      if (σ (q0 + 2) a1.toNatClampNeg) = (-1) then
        fX3_find_L27 q0 a1 a2 a3 σ
      else
        if kin a1 225 = true then
          if (σ (q0 + 2) a1.toNatClampNeg) ≤ a3 then
            some σ
          else
            fX3_find_L27 q0 a1 a2 a3 σ
        else none
    else none
  else
    some σ
set_option maxHeartbeats 4000000 in
set_option maxRecDepth 100000 in
theorem wX3_find_L27 (sh : KSh) (hw : KWf sh) (l : Launch) (hst : l.stackTraces = false) (q0 : Nat) (h0 : sh q0 = .inl 3) (a1 : Int32) (a2 : Int32) (a3 : Int32) : ∀ (σ : Sto), ∀ (r : Sto), fX3_find_L27 q0 a1 a2 a3 σ = some r → VV sh l mX3_find 0 0 27 [(0, .ref q0), (1, .int a1), (2, .int a2), (3, .int a3)] [] σ (0, .int 0, r) := by
  intro σ r h
  rw [fX3_find_L27] at h
  refine kv_aload_n (pc := 27) 0 dX3_find_27 rfl rfl ?_
  refine kv_getR (pc := 28) (q2 := q0 + 1) dX3_find_28 h0 rfl (i := 0) (by decide) rfl fl_X3_9 rfl rfl ?_
  refine kv_iload_n (pc := 31) 1 dX3_find_31 rfl rfl ?_
  refine kv_iload_n (pc := 32) 2 dX3_find_32 rfl rfl ?_
  refine kv_iast (pc := 33) dX3_find_33 (show sh (q0 + 1) = _ from kso_3_1 hw h0) h (fun h => ?_)
  refine kv_let h (fun σ1 h => ?_)
  refine kv_aload_n (pc := 34) 0 dX3_find_34 rfl rfl ?_
  refine kv_getR (pc := 35) (q2 := q0 + 2) dX3_find_35 h0 rfl (i := 1) (by decide) rfl fl_X3_15 rfl rfl ?_
  refine kv_iload_n (pc := 38) 1 dX3_find_38 rfl rfl ?_
  refine kv_iload_n (pc := 39) 3 dX3_find_39 rfl rfl ?_
  refine kv_iast (pc := 40) dX3_find_40 (show sh (q0 + 2) = _ from kso_3_2 hw h0) h (fun h => ?_)
  refine kv_let h (fun σ2 h => ?_)
  exact kv_vret (pc := 41) (v := .int 0) dX3_find_41 rfl (by cases h; rfl) (by decide) (by decide)
set_option maxHeartbeats 4000000 in
set_option maxRecDepth 100000 in
theorem tX3_find (sh : KSh) (hw : KWf sh) (l : Launch) (hst : l.stackTraces = false) (q0 : Nat) (h0 : sh q0 = .inl 3) (a1 : Int32) (a2 : Int32) (a3 : Int32) (σ : Sto) (r : Sto) (h : fX3_find q0 a1 a2 a3 σ = some r) : CT sh l mX3_find yX3_find [.ref q0, .int a1, .int a2, .int a3] σ (0, .int 0, r) := by
  refine kct [(0, .ref q0), (1, .int a1), (2, .int a2), (3, .int a3)] hst (by decide +kernel) rfl rfl (Nat.le_of_ble_eq_true rfl) ?_
  rw [fX3_find] at h
  refine kv_iload_n (pc := 0) 1 dX3_find_0 rfl rfl ?_
  refine kv_tS (pc := 1) (v := .int (kb (fX1_isCell a1))) [.int a1] (.int (kb (fX1_isCell a1)) :: []) 4 0 0 (tX1_isCell sh hw l hst a1 σ) dX3_find_1 rfl yw_X1_isCell lk_X3_61 (by decide) (Nat.le_of_ble_eq_true rfl) (by decide) rfl ⟨rfl, rfl, rfl⟩ ?_
  refine kv_ifb_eq (pc := 4) (tgt := 41) dX3_find_4 (by decide) h (fun h => ?_) (fun h => ?_)
  · exact kv_vret (pc := 41) (v := .int 0) dX3_find_41 rfl (by cases h; rfl) (by decide) (by decide)
  · refine kv_aload_n (pc := 7) 0 dX3_find_7 rfl rfl ?_
    refine kv_getR (pc := 8) (q2 := q0 + 2) dX3_find_8 h0 rfl (i := 1) (by decide) rfl fl_X3_15 rfl rfl ?_
    refine kv_iload_n (pc := 11) 1 dX3_find_11 rfl rfl ?_
    refine kv_iald (pc := 12) dX3_find_12 (show sh (q0 + 2) = _ from kso_3_2 hw h0) h (fun h => ?_)
    refine kv_iconst (pc := 13) (v := (-1)) dX3_find_13 (by decide) ?_
    refine kv_icmp_eq (pc := 14) (tgt := 27) dX3_find_14 (by decide) h (fun h => ?_) (fun h => ?_)
    · refine kv_sub (pc := 27) [(0, .ref q0), (1, .int a1), (2, .int a2), (3, .int a3)] [0, 1, 2, 3] rfl ?_
      exact wX3_find_L27 sh hw l hst q0 h0 a1 a2 a3 σ r h
    · refine kv_iload_n (pc := 17) 3 dX3_find_17 rfl rfl ?_
      refine kv_aload_n (pc := 18) 0 dX3_find_18 rfl rfl ?_
      refine kv_getR (pc := 19) (q2 := q0 + 2) dX3_find_19 h0 rfl (i := 1) (by decide) rfl fl_X3_15 rfl rfl ?_
      refine kv_iload_n (pc := 22) 1 dX3_find_22 rfl rfl ?_
      refine kv_iald (pc := 23) dX3_find_23 (show sh (q0 + 2) = _ from kso_3_2 hw h0) h (fun h => ?_)
      refine kv_icmp_ge (pc := 24) (tgt := 41) dX3_find_24 (by decide) h (fun h => ?_) (fun h => ?_)
      · exact kv_vret (pc := 41) (v := .int 0) dX3_find_41 rfl (by cases h; rfl) (by decide) (by decide)
      · refine kv_sub (pc := 27) [(0, .ref q0), (1, .int a1), (2, .int a2), (3, .int a3)] [0, 1, 2, 3] rfl ?_
        exact wX3_find_L27 sh hw l hst q0 h0 a1 a2 a3 σ r h
theorem yw_X3_find : KMV yX3_find mX3_find RX3 3 := ⟨⟨rfl, by decide +kernel, by decide +kernel, by decide +kernel⟩, ⟨rfl, rfl⟩, kg_in 665 (by decide +kernel) (by decide +kernel), kg_in 24 (by decide +kernel) (by decide +kernel), kg_in 53 (by decide +kernel) (by decide +kernel), kg_in 666 (by decide +kernel) (by decide +kernel)⟩
theorem dX3_follow_0 : decode cX3_follow 0 = .ok (.iload_n 2, 1) := by decide +kernel
theorem dX3_follow_1 : decode cX3_follow 1 = .ok (.istore 4, 2) := by decide +kernel
theorem dX3_follow_3 : decode cX3_follow 3 = .ok (.iload_n 3, 1) := by decide +kernel
theorem dX3_follow_4 : decode cX3_follow 4 = .ok (.istore 5, 2) := by decide +kernel
theorem dX3_follow_6 : decode cX3_follow 6 = .ok (.iconst 1, 1) := by decide +kernel
theorem dX3_follow_7 : decode cX3_follow 7 = .ok (.istore 6, 2) := by decide +kernel
theorem dX3_follow_9 : decode cX3_follow 9 = .ok (.iload 6, 2) := by decide +kernel
theorem dX3_follow_11 : decode cX3_follow 11 = .ok (.bipush 6, 2) := by decide +kernel
theorem dX3_follow_13 : decode cX3_follow 13 = .ok (.if_icmp .gt 59, 3) := by decide +kernel
theorem dX3_follow_16 : decode cX3_follow 16 = .ok (.aload_n 1, 1) := by decide +kernel
theorem dX3_follow_17 : decode cX3_follow 17 = .ok (.iload 5, 2) := by decide +kernel
theorem dX3_follow_19 : decode cX3_follow 19 = .ok (.invokevirtual 71, 3) := by decide +kernel
theorem dX3_follow_22 : decode cX3_follow 22 = .ok (.ifCond .eq 50, 3) := by decide +kernel
theorem dX3_follow_25 : decode cX3_follow 25 = .ok (.aload_n 1, 1) := by decide +kernel
theorem dX3_follow_26 : decode cX3_follow 26 = .ok (.getfield 37, 3) := by decide +kernel
theorem dX3_follow_29 : decode cX3_follow 29 = .ok (.iload 5, 2) := by decide +kernel
theorem dX3_follow_31 : decode cX3_follow 31 = .ok (.iload 4, 2) := by decide +kernel
theorem dX3_follow_33 : decode cX3_follow 33 = .ok (.invokevirtual 74, 3) := by decide +kernel
theorem dX3_follow_36 : decode cX3_follow 36 = .ok (.istore 4, 2) := by decide +kernel
theorem dX3_follow_38 : decode cX3_follow 38 = .ok (.aload_n 1, 1) := by decide +kernel
theorem dX3_follow_39 : decode cX3_follow 39 = .ok (.getfield 37, 3) := by decide +kernel
theorem dX3_follow_42 : decode cX3_follow 42 = .ok (.iload 4, 2) := by decide +kernel
theorem dX3_follow_44 : decode cX3_follow 44 = .ok (.invokevirtual 64, 3) := by decide +kernel
theorem dX3_follow_47 : decode cX3_follow 47 = .ok (.ifCond .eq 13, 3) := by decide +kernel
theorem dX3_follow_50 : decode cX3_follow 50 = .ok (.aload_n 0, 1) := by decide +kernel
theorem dX3_follow_51 : decode cX3_follow 51 = .ok (.iload_n 2, 1) := by decide +kernel
theorem dX3_follow_52 : decode cX3_follow 52 = .ok (.iload 4, 2) := by decide +kernel
theorem dX3_follow_54 : decode cX3_follow 54 = .ok (.iload 6, 2) := by decide +kernel
theorem dX3_follow_56 : decode cX3_follow 56 = .ok (.invokevirtual 78, 3) := by decide +kernel
theorem dX3_follow_59 : decode cX3_follow 59 = .ok (.return_, 1) := by decide +kernel
theorem dX3_follow_60 : decode cX3_follow 60 = .ok (.iconst 1, 1) := by decide +kernel
theorem dX3_follow_61 : decode cX3_follow 61 = .ok (.iload 5, 2) := by decide +kernel
theorem dX3_follow_63 : decode cX3_follow 63 = .ok (.isub, 1) := by decide +kernel
theorem dX3_follow_64 : decode cX3_follow 64 = .ok (.istore 5, 2) := by decide +kernel
theorem dX3_follow_66 : decode cX3_follow 66 = .ok (.iinc 6 1, 3) := by decide +kernel
theorem dX3_follow_69 : decode cX3_follow 69 = .ok (.goto (-60), 3) := by decide +kernel
theorem dX3_follow_72 : decode cX3_follow 72 = .ok (.return_, 1) := by decide +kernel
abbrev mX3_follow : KM := (RX3, cX3_follow, 7, none, { frames := 2, cells := 0, slots := 0, locals := 45 }, 0, 0)
def fX3_follow_L9 (q0 : Nat) (q1 : Nat) (a2 : Int32) (a3 : Int32) : Nat → Int32 → Int32 → Int32 → Sto → Option Sto
  | 0, _, _, _, _ => none
  | fu + 1, v4, v5, v6, σ =>
    if 6 < v6 then
      some σ
    else
      if (fX5_canReflect q1 v5 σ) = true then
        (fX1_isInBox (q1 + 1) (fX1_mirrorCell (q1 + 1) v5 v4 σ) σ).bind fun r1 =>
        if r1 = true then
          (fX3_find q0 a2 (fX1_mirrorCell (q1 + 1) v5 v4 σ) v6 σ).bind fun r4 =>
          some r4
        else
          fX3_follow_L9 q0 q1 a2 a3 fu (fX1_mirrorCell (q1 + 1) v5 v4 σ) (1 - v5) (v6 + 1) σ
      else
        some σ
def fX3_follow (q0 : Nat) (q1 : Nat) (a2 : Int32) (a3 : Int32) (σ : Sto) : Option Sto :=
  fX3_follow_L9 q0 q1 a2 a3 kFU a2 a3 1 σ
set_option maxHeartbeats 4000000 in
set_option maxRecDepth 100000 in
theorem wX3_follow_L9 (sh : KSh) (hw : KWf sh) (l : Launch) (hst : l.stackTraces = false) (q0 : Nat) (h0 : sh q0 = .inl 3) (q1 : Nat) (h1 : sh q1 = .inl 5) (a2 : Int32) (a3 : Int32) : ∀ (fu : Nat), ∀ (v4 : Int32), ∀ (v5 : Int32), ∀ (v6 : Int32), ∀ (σ : Sto), ∀ (r : Sto), fX3_follow_L9 q0 q1 a2 a3 fu v4 v5 v6 σ = some r → VV sh l mX3_follow 0 0 9 [(0, .ref q0), (1, .ref q1), (2, .int a2), (4, .int v4), (5, .int v5), (6, .int v6)] [] σ (0, .int 0, r) := by
  intro fu
  induction fu with
  | zero => intro v4 v5 v6 σ r h; rw [fX3_follow_L9] at h; cases h
  | succ fu ih =>
    intro v4 v5 v6 σ r h
    rw [fX3_follow_L9] at h
    refine kv_iload (pc := 9) 5 dX3_follow_9 rfl ?_
    refine kv_bipush (pc := 11) (v := 6) dX3_follow_11 (by decide) ?_
    refine kv_icmp_gt (pc := 13) (tgt := 72) dX3_follow_13 (by decide) h (fun h => ?_) (fun h => ?_)
    · exact kv_vret (pc := 72) (v := .int 0) dX3_follow_72 rfl (by cases h; rfl) (by decide) (by decide)
    · refine kv_aload_n (pc := 16) 1 dX3_follow_16 rfl rfl ?_
      refine kv_iload (pc := 17) 4 dX3_follow_17 rfl ?_
      refine kv_tV (pc := 19) (v := .int (kb (fX5_canReflect q1 v5 σ))) [.int v5] (.int (kb (fX5_canReflect q1 v5 σ)) :: []) 22 0 0 (tX5_canReflect sh hw l hst q1 h1 v5 σ) dX3_follow_19 rfl h1 rfl yw_X5_canReflect lk_X3_71 (by decide) (Nat.le_of_ble_eq_true rfl) (by decide) rfl ⟨rfl, rfl, rfl⟩ ?_
      refine kv_ifb_eq (pc := 22) (tgt := 72) dX3_follow_22 (by decide) h (fun h => ?_) (fun h => ?_)
      · exact kv_vret (pc := 72) (v := .int 0) dX3_follow_72 rfl (by cases h; rfl) (by decide) (by decide)
      · refine kv_aload_n (pc := 25) 1 dX3_follow_25 rfl rfl ?_
        refine kv_getR (pc := 26) (q2 := q1 + 1) dX3_follow_26 h1 rfl (i := 0) (by decide) rfl fl_X3_37 rfl rfl ?_
        refine kv_iload (pc := 29) 4 dX3_follow_29 rfl ?_
        refine kv_iload (pc := 31) 3 dX3_follow_31 rfl ?_
        refine kv_tV (pc := 33) (v := .int (fX1_mirrorCell (q1 + 1) v5 v4 σ)) [.int v5, .int v4] (.int (fX1_mirrorCell (q1 + 1) v5 v4 σ) :: []) 36 0 0 (tX1_mirrorCell sh hw l hst (q1 + 1) (show sh (q1 + 1) = _ from kso_5_1 hw h1) v5 v4 σ) dX3_follow_33 rfl (show sh (q1 + 1) = _ from kso_5_1 hw h1) rfl yw_X1_mirrorCell lk_X3_74 (by decide) (Nat.le_of_ble_eq_true rfl) (by decide) rfl ⟨rfl, rfl, rfl⟩ ?_
        refine kv_istore (pc := 36) [(4, .int (fX1_mirrorCell (q1 + 1) v5 v4 σ)), (0, .ref q0), (1, .ref q1), (2, .int a2), (5, .int v5), (6, .int v6)] dX3_follow_36 (by decide) rfl ?_
        refine kv_aload_n (pc := 38) 2 dX3_follow_38 rfl rfl ?_
        refine kv_getR (pc := 39) (q2 := q1 + 1) dX3_follow_39 h1 rfl (i := 0) (by decide) rfl fl_X3_37 rfl rfl ?_
        refine kv_iload (pc := 42) 0 dX3_follow_42 rfl ?_
        refine kv_cV (pc := 44) [.int (fX1_mirrorCell (q1 + 1) v5 v4 σ)] (fun r1 => (0, .int (kb r1), σ)) (fun r1 => (.int (kb r1) :: [])) (fun r1 => σ) 47 0 0 h (fun r1 g2 => tX1_isInBox sh hw l hst (q1 + 1) (show sh (q1 + 1) = _ from kso_5_1 hw h1) (fX1_mirrorCell (q1 + 1) v5 v4 σ) σ r1 g2) dX3_follow_44 rfl (show sh (q1 + 1) = _ from kso_5_1 hw h1) rfl yw_X1_isInBox lk_X3_64 (by decide) (Nat.le_of_ble_eq_true rfl) (by decide) (fun _ => rfl) (fun _ => rfl) ⟨rfl, rfl, rfl⟩ (fun _ _ h0 => absurd rfl h0) (fun r1 g2 z3 h => ?_)
        refine kv_ifb_eq (pc := 47) (tgt := 60) dX3_follow_47 (by decide) h (fun h => ?_) (fun h => ?_)
        · refine kv_iconst (pc := 60) (v := 1) dX3_follow_60 (by decide) ?_
          refine kv_iload (pc := 61) 4 dX3_follow_61 rfl ?_
          refine kv_isub (pc := 63) dX3_follow_63 ?_
          refine kv_istore (pc := 64) [(5, .int (1 - v5)), (4, .int (fX1_mirrorCell (q1 + 1) v5 v4 σ)), (0, .ref q0), (1, .ref q1), (2, .int a2), (6, .int v6)] dX3_follow_64 (by decide) rfl ?_
          refine kv_iinc (pc := 66) (v := v6 + 1) 5 [(6, .int (v6 + 1)), (5, .int (1 - v5)), (4, .int (fX1_mirrorCell (q1 + 1) v5 v4 σ)), (0, .ref q0), (1, .ref q1), (2, .int a2)] dX3_follow_66 rfl rfl (by decide) rfl ?_
          refine kv_goto (pc := 69) (tgt := 9) dX3_follow_69 (by decide) ?_
          refine kv_sub (pc := 9) [(0, .ref q0), (1, .ref q1), (2, .int a2), (4, .int (fX1_mirrorCell (q1 + 1) v5 v4 σ)), (5, .int (1 - v5)), (6, .int (v6 + 1))] [3, 4, 5, 2, 1, 0] rfl ?_
          exact ih (fX1_mirrorCell (q1 + 1) v5 v4 σ) (1 - v5) (v6 + 1) σ r h
        · refine kv_aload_n (pc := 50) 1 dX3_follow_50 rfl rfl ?_
          refine kv_iload_n (pc := 51) 3 dX3_follow_51 rfl rfl ?_
          refine kv_iload (pc := 52) 0 dX3_follow_52 rfl ?_
          refine kv_iload (pc := 54) 5 dX3_follow_54 rfl ?_
          refine kv_cV (pc := 56) [.int a2, .int (fX1_mirrorCell (q1 + 1) v5 v4 σ), .int v6] (fun r4 => (0, .int 0, r4)) (fun r4 => []) (fun r4 => r4) 59 0 0 h (fun r4 g5 => tX3_find sh hw l hst q0 h0 a2 (fX1_mirrorCell (q1 + 1) v5 v4 σ) v6 σ r4 g5) dX3_follow_56 rfl h0 rfl yw_X3_find lk_X3_78 (by decide) (Nat.le_of_ble_eq_true rfl) (by decide) (fun _ => rfl) (fun _ => rfl) ⟨rfl, rfl, rfl⟩ (fun _ _ h0 => absurd rfl h0) (fun r4 g5 z6 h => ?_)
          exact kv_vret (pc := 59) (v := .int 0) dX3_follow_59 rfl (by cases h; rfl) (by decide) (by decide)
set_option maxHeartbeats 4000000 in
set_option maxRecDepth 100000 in
theorem tX3_follow (sh : KSh) (hw : KWf sh) (l : Launch) (hst : l.stackTraces = false) (q0 : Nat) (h0 : sh q0 = .inl 3) (q1 : Nat) (h1 : sh q1 = .inl 5) (a2 : Int32) (a3 : Int32) (σ : Sto) (r : Sto) (h : fX3_follow q0 q1 a2 a3 σ = some r) : CT sh l mX3_follow yX3_follow [.ref q0, .ref q1, .int a2, .int a3] σ (0, .int 0, r) := by
  refine kct [(0, .ref q0), (1, .ref q1), (2, .int a2), (3, .int a3)] hst (by decide +kernel) rfl rfl (Nat.le_of_ble_eq_true rfl) ?_
  rw [fX3_follow] at h
  refine kv_iload_n (pc := 0) 2 dX3_follow_0 rfl rfl ?_
  refine kv_istore (pc := 1) [(4, .int a2), (0, .ref q0), (1, .ref q1), (2, .int a2), (3, .int a3)] dX3_follow_1 (by decide) rfl ?_
  refine kv_iload_n (pc := 3) 4 dX3_follow_3 rfl rfl ?_
  refine kv_istore (pc := 4) [(5, .int a3), (4, .int a2), (0, .ref q0), (1, .ref q1), (2, .int a2), (3, .int a3)] dX3_follow_4 (by decide) rfl ?_
  refine kv_iconst (pc := 6) (v := 1) dX3_follow_6 (by decide) ?_
  refine kv_istore (pc := 7) [(6, .int 1), (5, .int a3), (4, .int a2), (0, .ref q0), (1, .ref q1), (2, .int a2), (3, .int a3)] dX3_follow_7 (by decide) rfl ?_
  refine kv_sub (pc := 9) [(0, .ref q0), (1, .ref q1), (2, .int a2), (4, .int a2), (5, .int a3), (6, .int 1)] [3, 4, 5, 2, 1, 0] rfl ?_
  exact wX3_follow_L9 sh hw l hst q0 h0 q1 h1 a2 a3 kFU a2 a3 1 σ r h
theorem yw_X3_follow : KMV yX3_follow mX3_follow RX3 3 := ⟨⟨rfl, by decide +kernel, by decide +kernel, by decide +kernel⟩, ⟨rfl, rfl⟩, kg_in 651 (by decide +kernel) (by decide +kernel), kg_in 23 (by decide +kernel) (by decide +kernel), kg_in 53 (by decide +kernel) (by decide +kernel), kg_in 652 (by decide +kernel) (by decide +kernel)⟩
theorem dX3_trace_0 : decode cX3_trace 0 = .ok (.iload_n 2, 1) := by decide +kernel
theorem dX3_trace_1 : decode cX3_trace 1 = .ok (.invokestatic 61, 3) := by decide +kernel
theorem dX3_trace_4 : decode cX3_trace 4 = .ok (.ifCond .ne 4, 3) := by decide +kernel
theorem dX3_trace_7 : decode cX3_trace 7 = .ok (.return_, 1) := by decide +kernel
theorem dX3_trace_8 : decode cX3_trace 8 = .ok (.aload_n 0, 1) := by decide +kernel
theorem dX3_trace_9 : decode cX3_trace 9 = .ok (.getfield 9, 3) := by decide +kernel
theorem dX3_trace_12 : decode cX3_trace 12 = .ok (.iload_n 2, 1) := by decide +kernel
theorem dX3_trace_13 : decode cX3_trace 13 = .ok (.iconst (-1), 1) := by decide +kernel
theorem dX3_trace_14 : decode cX3_trace 14 = .ok (.iastore, 1) := by decide +kernel
theorem dX3_trace_15 : decode cX3_trace 15 = .ok (.aload_n 0, 1) := by decide +kernel
theorem dX3_trace_16 : decode cX3_trace 16 = .ok (.getfield 15, 3) := by decide +kernel
theorem dX3_trace_19 : decode cX3_trace 19 = .ok (.iload_n 2, 1) := by decide +kernel
theorem dX3_trace_20 : decode cX3_trace 20 = .ok (.iconst (-1), 1) := by decide +kernel
theorem dX3_trace_21 : decode cX3_trace 21 = .ok (.iastore, 1) := by decide +kernel
theorem dX3_trace_22 : decode cX3_trace 22 = .ok (.aload_n 1, 1) := by decide +kernel
theorem dX3_trace_23 : decode cX3_trace 23 = .ok (.getfield 37, 3) := by decide +kernel
theorem dX3_trace_26 : decode cX3_trace 26 = .ok (.iload_n 2, 1) := by decide +kernel
theorem dX3_trace_27 : decode cX3_trace 27 = .ok (.invokevirtual 64, 3) := by decide +kernel
theorem dX3_trace_30 : decode cX3_trace 30 = .ok (.ifCond .eq 18, 3) := by decide +kernel
theorem dX3_trace_33 : decode cX3_trace 33 = .ok (.aload_n 0, 1) := by decide +kernel
theorem dX3_trace_34 : decode cX3_trace 34 = .ok (.getfield 9, 3) := by decide +kernel
theorem dX3_trace_37 : decode cX3_trace 37 = .ok (.iload_n 2, 1) := by decide +kernel
theorem dX3_trace_38 : decode cX3_trace 38 = .ok (.iload_n 2, 1) := by decide +kernel
theorem dX3_trace_39 : decode cX3_trace 39 = .ok (.iastore, 1) := by decide +kernel
theorem dX3_trace_40 : decode cX3_trace 40 = .ok (.aload_n 0, 1) := by decide +kernel
theorem dX3_trace_41 : decode cX3_trace 41 = .ok (.getfield 15, 3) := by decide +kernel
theorem dX3_trace_44 : decode cX3_trace 44 = .ok (.iload_n 2, 1) := by decide +kernel
theorem dX3_trace_45 : decode cX3_trace 45 = .ok (.iconst 0, 1) := by decide +kernel
theorem dX3_trace_46 : decode cX3_trace 46 = .ok (.iastore, 1) := by decide +kernel
theorem dX3_trace_47 : decode cX3_trace 47 = .ok (.return_, 1) := by decide +kernel
theorem dX3_trace_48 : decode cX3_trace 48 = .ok (.aload_n 0, 1) := by decide +kernel
theorem dX3_trace_49 : decode cX3_trace 49 = .ok (.aload_n 1, 1) := by decide +kernel
theorem dX3_trace_50 : decode cX3_trace 50 = .ok (.iload_n 2, 1) := by decide +kernel
theorem dX3_trace_51 : decode cX3_trace 51 = .ok (.iconst 0, 1) := by decide +kernel
theorem dX3_trace_52 : decode cX3_trace 52 = .ok (.invokevirtual 67, 3) := by decide +kernel
theorem dX3_trace_55 : decode cX3_trace 55 = .ok (.aload_n 0, 1) := by decide +kernel
theorem dX3_trace_56 : decode cX3_trace 56 = .ok (.aload_n 1, 1) := by decide +kernel
theorem dX3_trace_57 : decode cX3_trace 57 = .ok (.iload_n 2, 1) := by decide +kernel
theorem dX3_trace_58 : decode cX3_trace 58 = .ok (.iconst 1, 1) := by decide +kernel
theorem dX3_trace_59 : decode cX3_trace 59 = .ok (.invokevirtual 67, 3) := by decide +kernel
theorem dX3_trace_62 : decode cX3_trace 62 = .ok (.return_, 1) := by decide +kernel
abbrev mX3_trace : KM := (RX3, cX3_trace, 3, none, { frames := 3, cells := 0, slots := 0, locals := 71 }, 0, 0)
def fX3_trace (q0 : Nat) (q1 : Nat) (a2 : Int32) (σ : Sto) : Option Sto :=
  if (fX1_isCell a2) = true then
    if kin a2 225 = true then
      klet (su σ (q0 + 1) a2.toNatClampNeg (-1)) fun σ1 =>
      if kin a2 225 = true then
        klet (su σ1 (q0 + 2) a2.toNatClampNeg (-1)) fun σ2 =>
        (fX1_isInBox (q1 + 1) a2 σ2).bind fun r3 =>
        if r3 = true then
          if kin a2 225 = true then
            klet (su σ2 (q0 + 1) a2.toNatClampNeg a2) fun σ12 =>
            if kin a2 225 = true then
              klet (su σ12 (q0 + 2) a2.toNatClampNeg 0) fun σ13 =>
              some σ13
            else none
          else none
        else
          (fX3_follow q0 q1 a2 0 σ2).bind fun r6 =>
          (fX3_follow q0 q1 a2 1 r6).bind fun r9 =>
          some r9
      else none
    else none
  else
    some σ
set_option maxHeartbeats 4000000 in
set_option maxRecDepth 100000 in
theorem tX3_trace (sh : KSh) (hw : KWf sh) (l : Launch) (hst : l.stackTraces = false) (q0 : Nat) (h0 : sh q0 = .inl 3) (q1 : Nat) (h1 : sh q1 = .inl 5) (a2 : Int32) (σ : Sto) (r : Sto) (h : fX3_trace q0 q1 a2 σ = some r) : CT sh l mX3_trace yX3_trace [.ref q0, .ref q1, .int a2] σ (0, .int 0, r) := by
  refine kct [(0, .ref q0), (1, .ref q1), (2, .int a2)] hst (by decide +kernel) rfl rfl (Nat.le_of_ble_eq_true rfl) ?_
  rw [fX3_trace] at h
  refine kv_iload_n (pc := 0) 2 dX3_trace_0 rfl rfl ?_
  refine kv_tS (pc := 1) (v := .int (kb (fX1_isCell a2))) [.int a2] (.int (kb (fX1_isCell a2)) :: []) 4 0 0 (tX1_isCell sh hw l hst a2 σ) dX3_trace_1 rfl yw_X1_isCell lk_X3_61 (by decide) (Nat.le_of_ble_eq_true rfl) (by decide) rfl ⟨rfl, rfl, rfl⟩ ?_
  refine kv_ifb_ne (pc := 4) (tgt := 8) dX3_trace_4 (by decide) h (fun h => ?_) (fun h => ?_)
  · refine kv_aload_n (pc := 8) 0 dX3_trace_8 rfl rfl ?_
    refine kv_getR (pc := 9) (q2 := q0 + 1) dX3_trace_9 h0 rfl (i := 0) (by decide) rfl fl_X3_9 rfl rfl ?_
    refine kv_iload_n (pc := 12) 2 dX3_trace_12 rfl rfl ?_
    refine kv_iconst (pc := 13) (v := (-1)) dX3_trace_13 (by decide) ?_
    refine kv_iast (pc := 14) dX3_trace_14 (show sh (q0 + 1) = _ from kso_3_1 hw h0) h (fun h => ?_)
    refine kv_let h (fun σ1 h => ?_)
    refine kv_aload_n (pc := 15) 0 dX3_trace_15 rfl rfl ?_
    refine kv_getR (pc := 16) (q2 := q0 + 2) dX3_trace_16 h0 rfl (i := 1) (by decide) rfl fl_X3_15 rfl rfl ?_
    refine kv_iload_n (pc := 19) 2 dX3_trace_19 rfl rfl ?_
    refine kv_iconst (pc := 20) (v := (-1)) dX3_trace_20 (by decide) ?_
    refine kv_iast (pc := 21) dX3_trace_21 (show sh (q0 + 2) = _ from kso_3_2 hw h0) h (fun h => ?_)
    refine kv_let h (fun σ2 h => ?_)
    refine kv_aload_n (pc := 22) 1 dX3_trace_22 rfl rfl ?_
    refine kv_getR (pc := 23) (q2 := q1 + 1) dX3_trace_23 h1 rfl (i := 0) (by decide) rfl fl_X3_37 rfl rfl ?_
    refine kv_iload_n (pc := 26) 2 dX3_trace_26 rfl rfl ?_
    refine kv_cV (pc := 27) [.int a2] (fun r3 => (0, .int (kb r3), σ2)) (fun r3 => (.int (kb r3) :: [])) (fun r3 => σ2) 30 0 0 h (fun r3 g4 => tX1_isInBox sh hw l hst (q1 + 1) (show sh (q1 + 1) = _ from kso_5_1 hw h1) a2 σ2 r3 g4) dX3_trace_27 rfl (show sh (q1 + 1) = _ from kso_5_1 hw h1) rfl yw_X1_isInBox lk_X3_64 (by decide) (Nat.le_of_ble_eq_true rfl) (by decide) (fun _ => rfl) (fun _ => rfl) ⟨rfl, rfl, rfl⟩ (fun _ _ h0 => absurd rfl h0) (fun r3 g4 z5 h => ?_)
    refine kv_ifb_eq (pc := 30) (tgt := 48) dX3_trace_30 (by decide) h (fun h => ?_) (fun h => ?_)
    · refine kv_aload_n (pc := 48) 0 dX3_trace_48 rfl rfl ?_
      refine kv_aload_n (pc := 49) 1 dX3_trace_49 rfl rfl ?_
      refine kv_iload_n (pc := 50) 2 dX3_trace_50 rfl rfl ?_
      refine kv_iconst (pc := 51) (v := 0) dX3_trace_51 (by decide) ?_
      refine kv_cV (pc := 52) [.ref q1, .int a2, .int 0] (fun r6 => (0, .int 0, r6)) (fun r6 => []) (fun r6 => r6) 55 0 0 h (fun r6 g7 => tX3_follow sh hw l hst q0 h0 q1 h1 a2 0 σ2 r6 g7) dX3_trace_52 rfl h0 rfl yw_X3_follow lk_X3_67 (by decide) (Nat.le_of_ble_eq_true rfl) (by decide) (fun _ => rfl) (fun _ => rfl) ⟨rfl, rfl, rfl⟩ (fun _ _ h0 => absurd rfl h0) (fun r6 g7 z8 h => ?_)
      refine kv_aload_n (pc := 55) 0 dX3_trace_55 rfl rfl ?_
      refine kv_aload_n (pc := 56) 1 dX3_trace_56 rfl rfl ?_
      refine kv_iload_n (pc := 57) 2 dX3_trace_57 rfl rfl ?_
      refine kv_iconst (pc := 58) (v := 1) dX3_trace_58 (by decide) ?_
      refine kv_cV (pc := 59) [.ref q1, .int a2, .int 1] (fun r9 => (0, .int 0, r9)) (fun r9 => []) (fun r9 => r9) 62 0 0 h (fun r9 g10 => tX3_follow sh hw l hst q0 h0 q1 h1 a2 1 r6 r9 g10) dX3_trace_59 rfl h0 rfl yw_X3_follow lk_X3_67 (by decide) (Nat.le_of_ble_eq_true rfl) (by decide) (fun _ => rfl) (fun _ => rfl) ⟨rfl, rfl, rfl⟩ (fun _ _ h0 => absurd rfl h0) (fun r9 g10 z11 h => ?_)
      exact kv_vret (pc := 62) (v := .int 0) dX3_trace_62 rfl (by cases h; rfl) (by decide) (by decide)
    · refine kv_aload_n (pc := 33) 0 dX3_trace_33 rfl rfl ?_
      refine kv_getR (pc := 34) (q2 := q0 + 1) dX3_trace_34 h0 rfl (i := 0) (by decide) rfl fl_X3_9 rfl rfl ?_
      refine kv_iload_n (pc := 37) 2 dX3_trace_37 rfl rfl ?_
      refine kv_iload_n (pc := 38) 2 dX3_trace_38 rfl rfl ?_
      refine kv_iast (pc := 39) dX3_trace_39 (show sh (q0 + 1) = _ from kso_3_1 hw h0) h (fun h => ?_)
      refine kv_let h (fun σ12 h => ?_)
      refine kv_aload_n (pc := 40) 0 dX3_trace_40 rfl rfl ?_
      refine kv_getR (pc := 41) (q2 := q0 + 2) dX3_trace_41 h0 rfl (i := 1) (by decide) rfl fl_X3_15 rfl rfl ?_
      refine kv_iload_n (pc := 44) 2 dX3_trace_44 rfl rfl ?_
      refine kv_iconst (pc := 45) (v := 0) dX3_trace_45 (by decide) ?_
      refine kv_iast (pc := 46) dX3_trace_46 (show sh (q0 + 2) = _ from kso_3_2 hw h0) h (fun h => ?_)
      refine kv_let h (fun σ13 h => ?_)
      exact kv_vret (pc := 47) (v := .int 0) dX3_trace_47 rfl (by cases h; rfl) (by decide) (by decide)
  · exact kv_vret (pc := 7) (v := .int 0) dX3_trace_7 rfl (by cases h; rfl) (by decide) (by decide)
theorem yw_X3_trace : KMV yX3_trace mX3_trace RX3 2 := ⟨⟨rfl, by decide +kernel, by decide +kernel, by decide +kernel⟩, ⟨rfl, rfl⟩, kg_in 644 (by decide +kernel) (by decide +kernel), kg_in 645 (by decide +kernel) (by decide +kernel), kg_in 53 (by decide +kernel) (by decide +kernel), kg_in 646 (by decide +kernel) (by decide +kernel)⟩
theorem dX3_countCell_0 : decode cX3_countCell 0 = .ok (.iload_n 1, 1) := by decide +kernel
theorem dX3_countCell_1 : decode cX3_countCell 1 = .ok (.ifCond .lt 19, 3) := by decide +kernel
theorem dX3_countCell_4 : decode cX3_countCell 4 = .ok (.iload_n 1, 1) := by decide +kernel
theorem dX3_countCell_5 : decode cX3_countCell 5 = .ok (.bipush 10, 2) := by decide +kernel
theorem dX3_countCell_7 : decode cX3_countCell 7 = .ok (.if_icmp .ge 13, 3) := by decide +kernel
theorem dX3_countCell_10 : decode cX3_countCell 10 = .ok (.aload_n 0, 1) := by decide +kernel
theorem dX3_countCell_11 : decode cX3_countCell 11 = .ok (.getfield 21, 3) := by decide +kernel
theorem dX3_countCell_14 : decode cX3_countCell 14 = .ok (.iload_n 1, 1) := by decide +kernel
theorem dX3_countCell_15 : decode cX3_countCell 15 = .ok (.dup2, 1) := by decide +kernel
theorem dX3_countCell_16 : decode cX3_countCell 16 = .ok (.iaload, 1) := by decide +kernel
theorem dX3_countCell_17 : decode cX3_countCell 17 = .ok (.iconst 1, 1) := by decide +kernel
theorem dX3_countCell_18 : decode cX3_countCell 18 = .ok (.iadd, 1) := by decide +kernel
theorem dX3_countCell_19 : decode cX3_countCell 19 = .ok (.iastore, 1) := by decide +kernel
theorem dX3_countCell_20 : decode cX3_countCell 20 = .ok (.return_, 1) := by decide +kernel
abbrev mX3_countCell : KM := (RX3, cX3_countCell, 2, none, { frames := 0, cells := 0, slots := 0, locals := 0 }, 0, 0)
def fX3_countCell (q0 : Nat) (a1 : Int32) (σ : Sto) : Option Sto :=
  if a1 < 0 then
    some σ
  else
    if 10 ≤ a1 then
      some σ
    else
      if kin a1 10 = true then
        if kin a1 10 = true then
          klet (su σ (q0 + 4) a1.toNatClampNeg ((σ (q0 + 4) a1.toNatClampNeg) + 1)) fun σ1 =>
          some σ1
        else none
      else none
set_option maxHeartbeats 4000000 in
set_option maxRecDepth 100000 in
theorem tX3_countCell (sh : KSh) (hw : KWf sh) (l : Launch) (hst : l.stackTraces = false) (q0 : Nat) (h0 : sh q0 = .inl 3) (a1 : Int32) (σ : Sto) (r : Sto) (h : fX3_countCell q0 a1 σ = some r) : CT sh l mX3_countCell yX3_countCell [.ref q0, .int a1] σ (0, .int 0, r) := by
  refine kct [(0, .ref q0), (1, .int a1)] hst (by decide +kernel) rfl rfl (Nat.le_of_ble_eq_true rfl) ?_
  rw [fX3_countCell] at h
  refine kv_iload_n (pc := 0) 1 dX3_countCell_0 rfl rfl ?_
  refine kv_if_lt (pc := 1) (tgt := 20) dX3_countCell_1 (by decide) h (fun h => ?_) (fun h => ?_)
  · exact kv_vret (pc := 20) (v := .int 0) dX3_countCell_20 rfl (by cases h; rfl) (by decide) (by decide)
  · refine kv_iload_n (pc := 4) 1 dX3_countCell_4 rfl rfl ?_
    refine kv_bipush (pc := 5) (v := 10) dX3_countCell_5 (by decide) ?_
    refine kv_icmp_ge (pc := 7) (tgt := 20) dX3_countCell_7 (by decide) h (fun h => ?_) (fun h => ?_)
    · exact kv_vret (pc := 20) (v := .int 0) dX3_countCell_20 rfl (by cases h; rfl) (by decide) (by decide)
    · refine kv_aload_n (pc := 10) 0 dX3_countCell_10 rfl rfl ?_
      refine kv_getR (pc := 11) (q2 := q0 + 4) dX3_countCell_11 h0 rfl (i := 3) (by decide) rfl fl_X3_21 rfl rfl ?_
      refine kv_iload_n (pc := 14) 1 dX3_countCell_14 rfl rfl ?_
      refine kv_dup2 (pc := 15) dX3_countCell_15 rfl rfl ?_
      refine kv_iald (pc := 16) dX3_countCell_16 (show sh (q0 + 4) = _ from kso_3_4 hw h0) h (fun h => ?_)
      refine kv_iconst (pc := 17) (v := 1) dX3_countCell_17 (by decide) ?_
      refine kv_iadd (pc := 18) dX3_countCell_18 ?_
      refine kv_iast (pc := 19) dX3_countCell_19 (show sh (q0 + 4) = _ from kso_3_4 hw h0) h (fun h => ?_)
      refine kv_let h (fun σ1 h => ?_)
      exact kv_vret (pc := 20) (v := .int 0) dX3_countCell_20 rfl (by cases h; rfl) (by decide) (by decide)
theorem yw_X3_countCell : KMV yX3_countCell mX3_countCell RX3 1 := ⟨⟨rfl, by decide +kernel, by decide +kernel, by decide +kernel⟩, ⟨rfl, rfl⟩, kg_in 678 (by decide +kernel) (by decide +kernel), kg_in 25 (by decide +kernel) (by decide +kernel), kg_in 53 (by decide +kernel) (by decide +kernel), kg_in 679 (by decide +kernel) (by decide +kernel)⟩
theorem dX3_look_0 : decode cX3_look 0 = .ok (.aload_n 0, 1) := by decide +kernel
theorem dX3_look_1 : decode cX3_look 1 = .ok (.getfield 21, 3) := by decide +kernel
theorem dX3_look_4 : decode cX3_look 4 = .ok (.iconst 0, 1) := by decide +kernel
theorem dX3_look_5 : decode cX3_look 5 = .ok (.invokestatic 31, 3) := by decide +kernel
theorem dX3_look_8 : decode cX3_look 8 = .ok (.iconst 0, 1) := by decide +kernel
theorem dX3_look_9 : decode cX3_look 9 = .ok (.istore_n 2, 1) := by decide +kernel
theorem dX3_look_10 : decode cX3_look 10 = .ok (.iload_n 2, 1) := by decide +kernel
theorem dX3_look_11 : decode cX3_look 11 = .ok (.sipush 225, 3) := by decide +kernel
theorem dX3_look_14 : decode cX3_look 14 = .ok (.if_icmp .ge 73, 3) := by decide +kernel
theorem dX3_look_17 : decode cX3_look 17 = .ok (.aload_n 0, 1) := by decide +kernel
theorem dX3_look_18 : decode cX3_look 18 = .ok (.getfield 9, 3) := by decide +kernel
theorem dX3_look_21 : decode cX3_look 21 = .ok (.iload_n 2, 1) := by decide +kernel
theorem dX3_look_22 : decode cX3_look 22 = .ok (.iconst (-1), 1) := by decide +kernel
theorem dX3_look_23 : decode cX3_look 23 = .ok (.iastore, 1) := by decide +kernel
theorem dX3_look_24 : decode cX3_look 24 = .ok (.aload_n 0, 1) := by decide +kernel
theorem dX3_look_25 : decode cX3_look 25 = .ok (.getfield 15, 3) := by decide +kernel
theorem dX3_look_28 : decode cX3_look 28 = .ok (.iload_n 2, 1) := by decide +kernel
theorem dX3_look_29 : decode cX3_look 29 = .ok (.iconst (-1), 1) := by decide +kernel
theorem dX3_look_30 : decode cX3_look 30 = .ok (.iastore, 1) := by decide +kernel
theorem dX3_look_31 : decode cX3_look 31 = .ok (.aload_n 0, 1) := by decide +kernel
theorem dX3_look_32 : decode cX3_look 32 = .ok (.getfield 18, 3) := by decide +kernel
theorem dX3_look_35 : decode cX3_look 35 = .ok (.iload_n 2, 1) := by decide +kernel
theorem dX3_look_36 : decode cX3_look 36 = .ok (.iconst (-1), 1) := by decide +kernel
theorem dX3_look_37 : decode cX3_look 37 = .ok (.iastore, 1) := by decide +kernel
theorem dX3_look_38 : decode cX3_look 38 = .ok (.aload_n 1, 1) := by decide +kernel
theorem dX3_look_39 : decode cX3_look 39 = .ok (.getfield 37, 3) := by decide +kernel
theorem dX3_look_42 : decode cX3_look 42 = .ok (.iload_n 2, 1) := by decide +kernel
theorem dX3_look_43 : decode cX3_look 43 = .ok (.invokevirtual 43, 3) := by decide +kernel
theorem dX3_look_46 : decode cX3_look 46 = .ok (.ifCond .eq 35, 3) := by decide +kernel
theorem dX3_look_49 : decode cX3_look 49 = .ok (.aload_n 0, 1) := by decide +kernel
theorem dX3_look_50 : decode cX3_look 50 = .ok (.aload_n 1, 1) := by decide +kernel
theorem dX3_look_51 : decode cX3_look 51 = .ok (.iload_n 2, 1) := by decide +kernel
theorem dX3_look_52 : decode cX3_look 52 = .ok (.invokevirtual 49, 3) := by decide +kernel
theorem dX3_look_55 : decode cX3_look 55 = .ok (.aload_n 0, 1) := by decide +kernel
theorem dX3_look_56 : decode cX3_look 56 = .ok (.getfield 18, 3) := by decide +kernel
theorem dX3_look_59 : decode cX3_look 59 = .ok (.iload_n 2, 1) := by decide +kernel
theorem dX3_look_60 : decode cX3_look 60 = .ok (.aload_n 1, 1) := by decide +kernel
theorem dX3_look_61 : decode cX3_look 61 = .ok (.aload_n 0, 1) := by decide +kernel
theorem dX3_look_62 : decode cX3_look 62 = .ok (.getfield 9, 3) := by decide +kernel
theorem dX3_look_65 : decode cX3_look 65 = .ok (.iload_n 2, 1) := by decide +kernel
theorem dX3_look_66 : decode cX3_look 66 = .ok (.iaload, 1) := by decide +kernel
theorem dX3_look_67 : decode cX3_look 67 = .ok (.invokevirtual 53, 3) := by decide +kernel
theorem dX3_look_70 : decode cX3_look 70 = .ok (.iastore, 1) := by decide +kernel
theorem dX3_look_71 : decode cX3_look 71 = .ok (.aload_n 0, 1) := by decide +kernel
theorem dX3_look_72 : decode cX3_look 72 = .ok (.aload_n 0, 1) := by decide +kernel
theorem dX3_look_73 : decode cX3_look 73 = .ok (.getfield 18, 3) := by decide +kernel
theorem dX3_look_76 : decode cX3_look 76 = .ok (.iload_n 2, 1) := by decide +kernel
theorem dX3_look_77 : decode cX3_look 77 = .ok (.iaload, 1) := by decide +kernel
theorem dX3_look_78 : decode cX3_look 78 = .ok (.invokevirtual 57, 3) := by decide +kernel
theorem dX3_look_81 : decode cX3_look 81 = .ok (.iinc 2 1, 3) := by decide +kernel
theorem dX3_look_84 : decode cX3_look 84 = .ok (.goto (-74), 3) := by decide +kernel
theorem dX3_look_87 : decode cX3_look 87 = .ok (.return_, 1) := by decide +kernel
abbrev mX3_look : KM := (RX3, cX3_look, 3, none, { frames := 4, cells := 0, slots := 0, locals := 93 }, 0, 0)
def fX3_look_L81 (q0 : Nat) (q1 : Nat) (K10 : Int32 → Sto → Option Sto) (v2 : Int32) (σ : Sto) : Option Sto :=
  K10 (v2 + 1) σ
def fX3_look_L10 (q0 : Nat) (q1 : Nat) : Nat → Int32 → Sto → Option Sto
  | 0, _, _ => none
  | fu + 1, v2, σ =>
    if 225 ≤ v2 then
      some σ
    else
      if kin v2 225 = true then
        klet (su σ (q0 + 1) v2.toNatClampNeg (-1)) fun σ4 =>
        if kin v2 225 = true then
          klet (su σ4 (q0 + 2) v2.toNatClampNeg (-1)) fun σ5 =>
          if kin v2 225 = true then
            klet (su σ5 (q0 + 3) v2.toNatClampNeg (-1)) fun σ6 =>
            (fX1_isInPicture (q1 + 1) v2 σ6).bind fun r7 =>
            if r7 = true then
              (fX3_trace q0 q1 v2 σ6).bind fun r10 =>
              if kin v2 225 = true then
                (fX5_colourOn q1 (r10 (q0 + 1) v2.toNatClampNeg) r10).bind fun r13 =>
                if kin v2 225 = true then
                  klet (su r10 (q0 + 3) v2.toNatClampNeg r13) fun σ16 =>
                  if kin v2 225 = true then
                    (fX3_countCell q0 (σ16 (q0 + 3) v2.toNatClampNeg) σ16).bind fun r17 =>
                    fX3_look_L81 q0 q1 (fX3_look_L10 q0 q1 fu) v2 r17
                  else none
                else none
              else none
            else
              fX3_look_L81 q0 q1 (fX3_look_L10 q0 q1 fu) v2 σ6
          else none
        else none
      else none
def fX3_look (q0 : Nat) (q1 : Nat) (σ : Sto) : Option Sto :=
  (fJ7_fill_53178 (q0 + 4) 10 0 σ).bind fun r1 =>
  fX3_look_L10 q0 q1 kFU 0 r1
set_option maxHeartbeats 4000000 in
set_option maxRecDepth 100000 in
theorem wX3_look_L81 (sh : KSh) (hw : KWf sh) (l : Launch) (hst : l.stackTraces = false) (q0 : Nat) (h0 : sh q0 = .inl 3) (q1 : Nat) (h1 : sh q1 = .inl 5) (K10 : Int32 → Sto → Option Sto) (hK10 : ∀ (v2 : Int32), ∀ (σ : Sto), ∀ (r : Sto), K10 v2 σ = some r → VV sh l mX3_look 0 0 10 [(0, .ref q0), (1, .ref q1), (2, .int v2)] [] σ (0, .int 0, r)) : ∀ (v2 : Int32), ∀ (σ : Sto), ∀ (r : Sto), fX3_look_L81 q0 q1 K10 v2 σ = some r → VV sh l mX3_look 0 0 81 [(0, .ref q0), (1, .ref q1), (2, .int v2)] [] σ (0, .int 0, r) := by
  intro v2 σ r h
  rw [fX3_look_L81] at h
  refine kv_iinc (pc := 81) (v := v2 + 1) 2 [(2, .int (v2 + 1)), (0, .ref q0), (1, .ref q1)] dX3_look_81 rfl rfl (by decide) rfl ?_
  refine kv_goto (pc := 84) (tgt := 10) dX3_look_84 (by decide) ?_
  refine kv_sub (pc := 10) [(0, .ref q0), (1, .ref q1), (2, .int (v2 + 1))] [1, 2, 0] rfl ?_
  exact hK10 (v2 + 1) σ r h
set_option maxHeartbeats 4000000 in
set_option maxRecDepth 100000 in
theorem wX3_look_L10 (sh : KSh) (hw : KWf sh) (l : Launch) (hst : l.stackTraces = false) (q0 : Nat) (h0 : sh q0 = .inl 3) (q1 : Nat) (h1 : sh q1 = .inl 5) : ∀ (fu : Nat), ∀ (v2 : Int32), ∀ (σ : Sto), ∀ (r : Sto), fX3_look_L10 q0 q1 fu v2 σ = some r → VV sh l mX3_look 0 0 10 [(0, .ref q0), (1, .ref q1), (2, .int v2)] [] σ (0, .int 0, r) := by
  intro fu
  induction fu with
  | zero => intro v2 σ r h; rw [fX3_look_L10] at h; cases h
  | succ fu ih =>
    intro v2 σ r h
    rw [fX3_look_L10] at h
    refine kv_iload_n (pc := 10) 2 dX3_look_10 rfl rfl ?_
    refine kv_sipush (pc := 11) (v := 225) dX3_look_11 (by decide) ?_
    refine kv_icmp_ge (pc := 14) (tgt := 87) dX3_look_14 (by decide) h (fun h => ?_) (fun h => ?_)
    · exact kv_vret (pc := 87) (v := .int 0) dX3_look_87 rfl (by cases h; rfl) (by decide) (by decide)
    · refine kv_aload_n (pc := 17) 0 dX3_look_17 rfl rfl ?_
      refine kv_getR (pc := 18) (q2 := q0 + 1) dX3_look_18 h0 rfl (i := 0) (by decide) rfl fl_X3_9 rfl rfl ?_
      refine kv_iload_n (pc := 21) 2 dX3_look_21 rfl rfl ?_
      refine kv_iconst (pc := 22) (v := (-1)) dX3_look_22 (by decide) ?_
      refine kv_iast (pc := 23) dX3_look_23 (show sh (q0 + 1) = _ from kso_3_1 hw h0) h (fun h => ?_)
      refine kv_let h (fun σ4 h => ?_)
      refine kv_aload_n (pc := 24) 0 dX3_look_24 rfl rfl ?_
      refine kv_getR (pc := 25) (q2 := q0 + 2) dX3_look_25 h0 rfl (i := 1) (by decide) rfl fl_X3_15 rfl rfl ?_
      refine kv_iload_n (pc := 28) 2 dX3_look_28 rfl rfl ?_
      refine kv_iconst (pc := 29) (v := (-1)) dX3_look_29 (by decide) ?_
      refine kv_iast (pc := 30) dX3_look_30 (show sh (q0 + 2) = _ from kso_3_2 hw h0) h (fun h => ?_)
      refine kv_let h (fun σ5 h => ?_)
      refine kv_aload_n (pc := 31) 0 dX3_look_31 rfl rfl ?_
      refine kv_getR (pc := 32) (q2 := q0 + 3) dX3_look_32 h0 rfl (i := 2) (by decide) rfl fl_X3_18 rfl rfl ?_
      refine kv_iload_n (pc := 35) 2 dX3_look_35 rfl rfl ?_
      refine kv_iconst (pc := 36) (v := (-1)) dX3_look_36 (by decide) ?_
      refine kv_iast (pc := 37) dX3_look_37 (show sh (q0 + 3) = _ from kso_3_3 hw h0) h (fun h => ?_)
      refine kv_let h (fun σ6 h => ?_)
      refine kv_aload_n (pc := 38) 1 dX3_look_38 rfl rfl ?_
      refine kv_getR (pc := 39) (q2 := q1 + 1) dX3_look_39 h1 rfl (i := 0) (by decide) rfl fl_X3_37 rfl rfl ?_
      refine kv_iload_n (pc := 42) 2 dX3_look_42 rfl rfl ?_
      refine kv_cV (pc := 43) [.int v2] (fun r7 => (0, .int (kb r7), σ6)) (fun r7 => (.int (kb r7) :: [])) (fun r7 => σ6) 46 0 0 h (fun r7 g8 => tX1_isInPicture sh hw l hst (q1 + 1) (show sh (q1 + 1) = _ from kso_5_1 hw h1) v2 σ6 r7 g8) dX3_look_43 rfl (show sh (q1 + 1) = _ from kso_5_1 hw h1) rfl yw_X1_isInPicture lk_X3_43 (by decide) (Nat.le_of_ble_eq_true rfl) (by decide) (fun _ => rfl) (fun _ => rfl) ⟨rfl, rfl, rfl⟩ (fun _ _ h0 => absurd rfl h0) (fun r7 g8 z9 h => ?_)
      refine kv_ifb_eq (pc := 46) (tgt := 81) dX3_look_46 (by decide) h (fun h => ?_) (fun h => ?_)
      · refine kv_sub (pc := 81) [(0, .ref q0), (1, .ref q1), (2, .int v2)] [0, 1, 2] rfl ?_
        exact wX3_look_L81 sh hw l hst q0 h0 q1 h1 (fX3_look_L10 q0 q1 fu) ih v2 σ6 r h
      · refine kv_aload_n (pc := 49) 0 dX3_look_49 rfl rfl ?_
        refine kv_aload_n (pc := 50) 1 dX3_look_50 rfl rfl ?_
        refine kv_iload_n (pc := 51) 2 dX3_look_51 rfl rfl ?_
        refine kv_cV (pc := 52) [.ref q1, .int v2] (fun r10 => (0, .int 0, r10)) (fun r10 => []) (fun r10 => r10) 55 0 0 h (fun r10 g11 => tX3_trace sh hw l hst q0 h0 q1 h1 v2 σ6 r10 g11) dX3_look_52 rfl h0 rfl yw_X3_trace lk_X3_49 (by decide) (Nat.le_of_ble_eq_true rfl) (by decide) (fun _ => rfl) (fun _ => rfl) ⟨rfl, rfl, rfl⟩ (fun _ _ h0 => absurd rfl h0) (fun r10 g11 z12 h => ?_)
        refine kv_aload_n (pc := 55) 0 dX3_look_55 rfl rfl ?_
        refine kv_getR (pc := 56) (q2 := q0 + 3) dX3_look_56 h0 rfl (i := 2) (by decide) rfl fl_X3_18 rfl rfl ?_
        refine kv_iload_n (pc := 59) 2 dX3_look_59 rfl rfl ?_
        refine kv_aload_n (pc := 60) 1 dX3_look_60 rfl rfl ?_
        refine kv_aload_n (pc := 61) 0 dX3_look_61 rfl rfl ?_
        refine kv_getR (pc := 62) (q2 := q0 + 1) dX3_look_62 h0 rfl (i := 0) (by decide) rfl fl_X3_9 rfl rfl ?_
        refine kv_iload_n (pc := 65) 2 dX3_look_65 rfl rfl ?_
        refine kv_iald (pc := 66) dX3_look_66 (show sh (q0 + 1) = _ from kso_3_1 hw h0) h (fun h => ?_)
        refine kv_cV (pc := 67) [.int (r10 (q0 + 1) v2.toNatClampNeg)] (fun r13 => (0, .int r13, r10)) (fun r13 => (.int r13 :: [.int v2, .ref (q0 + 3)])) (fun r13 => r10) 70 0 0 h (fun r13 g14 => tX5_colourOn sh hw l hst q1 h1 (r10 (q0 + 1) v2.toNatClampNeg) r10 r13 g14) dX3_look_67 rfl h1 rfl yw_X5_colourOn lk_X3_53 (by decide) (Nat.le_of_ble_eq_true rfl) (by decide) (fun _ => rfl) (fun _ => rfl) ⟨rfl, rfl, rfl⟩ (fun _ _ h0 => absurd rfl h0) (fun r13 g14 z15 h => ?_)
        refine kv_iast (pc := 70) dX3_look_70 (show sh (q0 + 3) = _ from kso_3_3 hw h0) h (fun h => ?_)
        refine kv_let h (fun σ16 h => ?_)
        refine kv_aload_n (pc := 71) 0 dX3_look_71 rfl rfl ?_
        refine kv_aload_n (pc := 72) 0 dX3_look_72 rfl rfl ?_
        refine kv_getR (pc := 73) (q2 := q0 + 3) dX3_look_73 h0 rfl (i := 2) (by decide) rfl fl_X3_18 rfl rfl ?_
        refine kv_iload_n (pc := 76) 2 dX3_look_76 rfl rfl ?_
        refine kv_iald (pc := 77) dX3_look_77 (show sh (q0 + 3) = _ from kso_3_3 hw h0) h (fun h => ?_)
        refine kv_cV (pc := 78) [.int (σ16 (q0 + 3) v2.toNatClampNeg)] (fun r17 => (0, .int 0, r17)) (fun r17 => []) (fun r17 => r17) 81 0 0 h (fun r17 g18 => tX3_countCell sh hw l hst q0 h0 (σ16 (q0 + 3) v2.toNatClampNeg) σ16 r17 g18) dX3_look_78 rfl h0 rfl yw_X3_countCell lk_X3_57 (by decide) (Nat.le_of_ble_eq_true rfl) (by decide) (fun _ => rfl) (fun _ => rfl) ⟨rfl, rfl, rfl⟩ (fun _ _ h0 => absurd rfl h0) (fun r17 g18 z19 h => ?_)
        refine kv_sub (pc := 81) [(0, .ref q0), (1, .ref q1), (2, .int v2)] [0, 1, 2] rfl ?_
        exact wX3_look_L81 sh hw l hst q0 h0 q1 h1 (fX3_look_L10 q0 q1 fu) ih v2 r17 r h
set_option maxHeartbeats 4000000 in
set_option maxRecDepth 100000 in
theorem tX3_look (sh : KSh) (hw : KWf sh) (l : Launch) (hst : l.stackTraces = false) (q0 : Nat) (h0 : sh q0 = .inl 3) (q1 : Nat) (h1 : sh q1 = .inl 5) (σ : Sto) (r : Sto) (h : fX3_look q0 q1 σ = some r) : CT sh l mX3_look yX3_look [.ref q0, .ref q1] σ (0, .int 0, r) := by
  refine kct [(0, .ref q0), (1, .ref q1)] hst (by decide +kernel) rfl rfl (Nat.le_of_ble_eq_true rfl) ?_
  rw [fX3_look] at h
  refine kv_aload_n (pc := 0) 0 dX3_look_0 rfl rfl ?_
  refine kv_getR (pc := 1) (q2 := q0 + 4) dX3_look_1 h0 rfl (i := 3) (by decide) rfl fl_X3_21 rfl rfl ?_
  refine kv_iconst (pc := 4) (v := 0) dX3_look_4 (by decide) ?_
  refine kv_cS (pc := 5) [.ref (q0 + 4), .int 0] (fun r1 => (0, .int 0, r1)) (fun r1 => []) (fun r1 => r1) 8 0 0 h (fun r1 g2 => tJ7_fill_53178 sh hw l hst (q0 + 4) 10 (show sh (q0 + 4) = _ from kso_3_4 hw h0) 0 σ r1 g2) dX3_look_5 rfl yw_J7_fill_53178 lk_X3_31 (by decide) (Nat.le_of_ble_eq_true rfl) (by decide) (fun _ => rfl) (fun _ => rfl) ⟨rfl, rfl, rfl⟩ (fun _ _ h0 => absurd rfl h0) (fun r1 g2 z3 h => ?_)
  refine kv_iconst (pc := 8) (v := 0) dX3_look_8 (by decide) ?_
  refine kv_istore_n (pc := 9) [(2, .int 0), (0, .ref q0), (1, .ref q1)] dX3_look_9 rfl (by decide) rfl ?_
  refine kv_sub (pc := 10) [(0, .ref q0), (1, .ref q1), (2, .int 0)] [1, 2, 0] rfl ?_
  exact wX3_look_L10 sh hw l hst q0 h0 q1 h1 kFU 0 r1 r h
theorem yw_X3_look : KMV yX3_look mX3_look RX3 1 := ⟨⟨rfl, by decide +kernel, by decide +kernel, by decide +kernel⟩, ⟨rfl, rfl⟩, kg_in 638 (by decide +kernel) (by decide +kernel), kg_in 639 (by decide +kernel) (by decide +kernel), kg_in 53 (by decide +kernel) (by decide +kernel), kg_in 640 (by decide +kernel) (by decide +kernel)⟩
theorem dX3_sourceOf_0 : decode cX3_sourceOf 0 = .ok (.iload_n 1, 1) := by decide +kernel
theorem dX3_sourceOf_1 : decode cX3_sourceOf 1 = .ok (.invokestatic 61, 3) := by decide +kernel
theorem dX3_sourceOf_4 : decode cX3_sourceOf 4 = .ok (.ifCond .eq 12, 3) := by decide +kernel
theorem dX3_sourceOf_7 : decode cX3_sourceOf 7 = .ok (.aload_n 0, 1) := by decide +kernel
theorem dX3_sourceOf_8 : decode cX3_sourceOf 8 = .ok (.getfield 9, 3) := by decide +kernel
theorem dX3_sourceOf_11 : decode cX3_sourceOf 11 = .ok (.iload_n 1, 1) := by decide +kernel
theorem dX3_sourceOf_12 : decode cX3_sourceOf 12 = .ok (.iaload, 1) := by decide +kernel
theorem dX3_sourceOf_13 : decode cX3_sourceOf 13 = .ok (.goto 4, 3) := by decide +kernel
theorem dX3_sourceOf_16 : decode cX3_sourceOf 16 = .ok (.iconst (-1), 1) := by decide +kernel
theorem dX3_sourceOf_17 : decode cX3_sourceOf 17 = .ok (.ireturn, 1) := by decide +kernel
abbrev mX3_sourceOf : KM := (RX3, cX3_sourceOf, 2, (some .int), { frames := 1, cells := 0, slots := 0, locals := 20 }, 0, 0)
def fX3_sourceOf (q0 : Nat) (a1 : Int32) (σ : Sto) : Option Int32 :=
  if (fX1_isCell a1) = true then
    if kin a1 225 = true then
      some (σ (q0 + 1) a1.toNatClampNeg)
    else none
  else
    some (-1)
set_option maxHeartbeats 4000000 in
set_option maxRecDepth 100000 in
theorem tX3_sourceOf (sh : KSh) (hw : KWf sh) (l : Launch) (hst : l.stackTraces = false) (q0 : Nat) (h0 : sh q0 = .inl 3) (a1 : Int32) (σ : Sto) (r : Int32) (h : fX3_sourceOf q0 a1 σ = some r) : CT sh l mX3_sourceOf yX3_sourceOf [.ref q0, .int a1] σ (0, .int r, σ) := by
  refine kct [(0, .ref q0), (1, .int a1)] hst (by decide +kernel) rfl rfl (Nat.le_of_ble_eq_true rfl) ?_
  rw [fX3_sourceOf] at h
  refine kv_iload_n (pc := 0) 1 dX3_sourceOf_0 rfl rfl ?_
  refine kv_tS (pc := 1) (v := .int (kb (fX1_isCell a1))) [.int a1] (.int (kb (fX1_isCell a1)) :: []) 4 0 0 (tX1_isCell sh hw l hst a1 σ) dX3_sourceOf_1 rfl yw_X1_isCell lk_X3_61 (by decide) (Nat.le_of_ble_eq_true rfl) (by decide) rfl ⟨rfl, rfl, rfl⟩ ?_
  refine kv_ifb_eq (pc := 4) (tgt := 16) dX3_sourceOf_4 (by decide) h (fun h => ?_) (fun h => ?_)
  · refine kv_iconst (pc := 16) (v := (-1)) dX3_sourceOf_16 (by decide) ?_
    exact kv_iret (pc := 17) dX3_sourceOf_17 rfl (by cases h; rfl) (by decide) (by decide)
  · refine kv_aload_n (pc := 7) 0 dX3_sourceOf_7 rfl rfl ?_
    refine kv_getR (pc := 8) (q2 := q0 + 1) dX3_sourceOf_8 h0 rfl (i := 0) (by decide) rfl fl_X3_9 rfl rfl ?_
    refine kv_iload_n (pc := 11) 1 dX3_sourceOf_11 rfl rfl ?_
    refine kv_iald (pc := 12) dX3_sourceOf_12 (show sh (q0 + 1) = _ from kso_3_1 hw h0) h (fun h => ?_)
    refine kv_goto (pc := 13) (tgt := 17) dX3_sourceOf_13 (by decide) ?_
    exact kv_iret (pc := 17) dX3_sourceOf_17 rfl (by cases h; rfl) (by decide) (by decide)
theorem yw_X3_sourceOf : KMV yX3_sourceOf mX3_sourceOf RX3 1 := ⟨⟨rfl, by decide +kernel, by decide +kernel, by decide +kernel⟩, ⟨rfl, rfl⟩, kg_in 909 (by decide +kernel) (by decide +kernel), kg_in 910 (by decide +kernel) (by decide +kernel), kg_in 53 (by decide +kernel) (by decide +kernel), kg_in 911 (by decide +kernel) (by decide +kernel)⟩
theorem dX3_reflectionsOf_0 : decode cX3_reflectionsOf 0 = .ok (.iload_n 1, 1) := by decide +kernel
theorem dX3_reflectionsOf_1 : decode cX3_reflectionsOf 1 = .ok (.invokestatic 61, 3) := by decide +kernel
theorem dX3_reflectionsOf_4 : decode cX3_reflectionsOf 4 = .ok (.ifCond .eq 12, 3) := by decide +kernel
theorem dX3_reflectionsOf_7 : decode cX3_reflectionsOf 7 = .ok (.aload_n 0, 1) := by decide +kernel
theorem dX3_reflectionsOf_8 : decode cX3_reflectionsOf 8 = .ok (.getfield 15, 3) := by decide +kernel
theorem dX3_reflectionsOf_11 : decode cX3_reflectionsOf 11 = .ok (.iload_n 1, 1) := by decide +kernel
theorem dX3_reflectionsOf_12 : decode cX3_reflectionsOf 12 = .ok (.iaload, 1) := by decide +kernel
theorem dX3_reflectionsOf_13 : decode cX3_reflectionsOf 13 = .ok (.goto 4, 3) := by decide +kernel
theorem dX3_reflectionsOf_16 : decode cX3_reflectionsOf 16 = .ok (.iconst (-1), 1) := by decide +kernel
theorem dX3_reflectionsOf_17 : decode cX3_reflectionsOf 17 = .ok (.ireturn, 1) := by decide +kernel
abbrev mX3_reflectionsOf : KM := (RX3, cX3_reflectionsOf, 2, (some .int), { frames := 1, cells := 0, slots := 0, locals := 20 }, 0, 0)
def fX3_reflectionsOf (q0 : Nat) (a1 : Int32) (σ : Sto) : Option Int32 :=
  if (fX1_isCell a1) = true then
    if kin a1 225 = true then
      some (σ (q0 + 2) a1.toNatClampNeg)
    else none
  else
    some (-1)
set_option maxHeartbeats 4000000 in
set_option maxRecDepth 100000 in
theorem tX3_reflectionsOf (sh : KSh) (hw : KWf sh) (l : Launch) (hst : l.stackTraces = false) (q0 : Nat) (h0 : sh q0 = .inl 3) (a1 : Int32) (σ : Sto) (r : Int32) (h : fX3_reflectionsOf q0 a1 σ = some r) : CT sh l mX3_reflectionsOf yX3_reflectionsOf [.ref q0, .int a1] σ (0, .int r, σ) := by
  refine kct [(0, .ref q0), (1, .int a1)] hst (by decide +kernel) rfl rfl (Nat.le_of_ble_eq_true rfl) ?_
  rw [fX3_reflectionsOf] at h
  refine kv_iload_n (pc := 0) 1 dX3_reflectionsOf_0 rfl rfl ?_
  refine kv_tS (pc := 1) (v := .int (kb (fX1_isCell a1))) [.int a1] (.int (kb (fX1_isCell a1)) :: []) 4 0 0 (tX1_isCell sh hw l hst a1 σ) dX3_reflectionsOf_1 rfl yw_X1_isCell lk_X3_61 (by decide) (Nat.le_of_ble_eq_true rfl) (by decide) rfl ⟨rfl, rfl, rfl⟩ ?_
  refine kv_ifb_eq (pc := 4) (tgt := 16) dX3_reflectionsOf_4 (by decide) h (fun h => ?_) (fun h => ?_)
  · refine kv_iconst (pc := 16) (v := (-1)) dX3_reflectionsOf_16 (by decide) ?_
    exact kv_iret (pc := 17) dX3_reflectionsOf_17 rfl (by cases h; rfl) (by decide) (by decide)
  · refine kv_aload_n (pc := 7) 0 dX3_reflectionsOf_7 rfl rfl ?_
    refine kv_getR (pc := 8) (q2 := q0 + 2) dX3_reflectionsOf_8 h0 rfl (i := 1) (by decide) rfl fl_X3_15 rfl rfl ?_
    refine kv_iload_n (pc := 11) 1 dX3_reflectionsOf_11 rfl rfl ?_
    refine kv_iald (pc := 12) dX3_reflectionsOf_12 (show sh (q0 + 2) = _ from kso_3_2 hw h0) h (fun h => ?_)
    refine kv_goto (pc := 13) (tgt := 17) dX3_reflectionsOf_13 (by decide) ?_
    exact kv_iret (pc := 17) dX3_reflectionsOf_17 rfl (by cases h; rfl) (by decide) (by decide)
theorem yw_X3_reflectionsOf : KMV yX3_reflectionsOf mX3_reflectionsOf RX3 1 := ⟨⟨rfl, by decide +kernel, by decide +kernel, by decide +kernel⟩, ⟨rfl, rfl⟩, kg_in 918 (by decide +kernel) (by decide +kernel), kg_in 919 (by decide +kernel) (by decide +kernel), kg_in 53 (by decide +kernel) (by decide +kernel), kg_in 920 (by decide +kernel) (by decide +kernel)⟩
theorem dX3_colourOf_0 : decode cX3_colourOf 0 = .ok (.iload_n 1, 1) := by decide +kernel
theorem dX3_colourOf_1 : decode cX3_colourOf 1 = .ok (.invokestatic 61, 3) := by decide +kernel
theorem dX3_colourOf_4 : decode cX3_colourOf 4 = .ok (.ifCond .eq 12, 3) := by decide +kernel
theorem dX3_colourOf_7 : decode cX3_colourOf 7 = .ok (.aload_n 0, 1) := by decide +kernel
theorem dX3_colourOf_8 : decode cX3_colourOf 8 = .ok (.getfield 18, 3) := by decide +kernel
theorem dX3_colourOf_11 : decode cX3_colourOf 11 = .ok (.iload_n 1, 1) := by decide +kernel
theorem dX3_colourOf_12 : decode cX3_colourOf 12 = .ok (.iaload, 1) := by decide +kernel
theorem dX3_colourOf_13 : decode cX3_colourOf 13 = .ok (.goto 4, 3) := by decide +kernel
theorem dX3_colourOf_16 : decode cX3_colourOf 16 = .ok (.iconst (-1), 1) := by decide +kernel
theorem dX3_colourOf_17 : decode cX3_colourOf 17 = .ok (.ireturn, 1) := by decide +kernel
abbrev mX3_colourOf : KM := (RX3, cX3_colourOf, 2, (some .int), { frames := 1, cells := 0, slots := 0, locals := 20 }, 0, 0)
def fX3_colourOf (q0 : Nat) (a1 : Int32) (σ : Sto) : Option Int32 :=
  if (fX1_isCell a1) = true then
    if kin a1 225 = true then
      some (σ (q0 + 3) a1.toNatClampNeg)
    else none
  else
    some (-1)
set_option maxHeartbeats 4000000 in
set_option maxRecDepth 100000 in
theorem tX3_colourOf (sh : KSh) (hw : KWf sh) (l : Launch) (hst : l.stackTraces = false) (q0 : Nat) (h0 : sh q0 = .inl 3) (a1 : Int32) (σ : Sto) (r : Int32) (h : fX3_colourOf q0 a1 σ = some r) : CT sh l mX3_colourOf yX3_colourOf [.ref q0, .int a1] σ (0, .int r, σ) := by
  refine kct [(0, .ref q0), (1, .int a1)] hst (by decide +kernel) rfl rfl (Nat.le_of_ble_eq_true rfl) ?_
  rw [fX3_colourOf] at h
  refine kv_iload_n (pc := 0) 1 dX3_colourOf_0 rfl rfl ?_
  refine kv_tS (pc := 1) (v := .int (kb (fX1_isCell a1))) [.int a1] (.int (kb (fX1_isCell a1)) :: []) 4 0 0 (tX1_isCell sh hw l hst a1 σ) dX3_colourOf_1 rfl yw_X1_isCell lk_X3_61 (by decide) (Nat.le_of_ble_eq_true rfl) (by decide) rfl ⟨rfl, rfl, rfl⟩ ?_
  refine kv_ifb_eq (pc := 4) (tgt := 16) dX3_colourOf_4 (by decide) h (fun h => ?_) (fun h => ?_)
  · refine kv_iconst (pc := 16) (v := (-1)) dX3_colourOf_16 (by decide) ?_
    exact kv_iret (pc := 17) dX3_colourOf_17 rfl (by cases h; rfl) (by decide) (by decide)
  · refine kv_aload_n (pc := 7) 0 dX3_colourOf_7 rfl rfl ?_
    refine kv_getR (pc := 8) (q2 := q0 + 3) dX3_colourOf_8 h0 rfl (i := 2) (by decide) rfl fl_X3_18 rfl rfl ?_
    refine kv_iload_n (pc := 11) 1 dX3_colourOf_11 rfl rfl ?_
    refine kv_iald (pc := 12) dX3_colourOf_12 (show sh (q0 + 3) = _ from kso_3_3 hw h0) h (fun h => ?_)
    refine kv_goto (pc := 13) (tgt := 17) dX3_colourOf_13 (by decide) ?_
    exact kv_iret (pc := 17) dX3_colourOf_17 rfl (by cases h; rfl) (by decide) (by decide)
theorem yw_X3_colourOf : KMV yX3_colourOf mX3_colourOf RX3 1 := ⟨⟨rfl, by decide +kernel, by decide +kernel, by decide +kernel⟩, ⟨rfl, rfl⟩, kg_in 735 (by decide +kernel) (by decide +kernel), kg_in 736 (by decide +kernel) (by decide +kernel), kg_in 53 (by decide +kernel) (by decide +kernel), kg_in 737 (by decide +kernel) (by decide +kernel)⟩
theorem dX3_brightnessOf_0 : decode cX3_brightnessOf 0 = .ok (.aload_n 0, 1) := by decide +kernel
theorem dX3_brightnessOf_1 : decode cX3_brightnessOf 1 = .ok (.iload_n 2, 1) := by decide +kernel
theorem dX3_brightnessOf_2 : decode cX3_brightnessOf 2 = .ok (.invokevirtual 82, 3) := by decide +kernel
theorem dX3_brightnessOf_5 : decode cX3_brightnessOf 5 = .ok (.istore_n 3, 1) := by decide +kernel
theorem dX3_brightnessOf_6 : decode cX3_brightnessOf 6 = .ok (.iload_n 3, 1) := by decide +kernel
theorem dX3_brightnessOf_7 : decode cX3_brightnessOf 7 = .ok (.iconst (-1), 1) := by decide +kernel
theorem dX3_brightnessOf_8 : decode cX3_brightnessOf 8 = .ok (.if_icmp .ne 5, 3) := by decide +kernel
theorem dX3_brightnessOf_11 : decode cX3_brightnessOf 11 = .ok (.iconst 0, 1) := by decide +kernel
theorem dX3_brightnessOf_12 : decode cX3_brightnessOf 12 = .ok (.ireturn, 1) := by decide +kernel
theorem dX3_brightnessOf_13 : decode cX3_brightnessOf 13 = .ok (.sipush 1000, 3) := by decide +kernel
theorem dX3_brightnessOf_16 : decode cX3_brightnessOf 16 = .ok (.istore 4, 2) := by decide +kernel
theorem dX3_brightnessOf_18 : decode cX3_brightnessOf 18 = .ok (.iconst 0, 1) := by decide +kernel
theorem dX3_brightnessOf_19 : decode cX3_brightnessOf 19 = .ok (.istore 5, 2) := by decide +kernel
theorem dX3_brightnessOf_21 : decode cX3_brightnessOf 21 = .ok (.iload 5, 2) := by decide +kernel
theorem dX3_brightnessOf_23 : decode cX3_brightnessOf 23 = .ok (.iload_n 3, 1) := by decide +kernel
theorem dX3_brightnessOf_24 : decode cX3_brightnessOf 24 = .ok (.if_icmp .ge 21, 3) := by decide +kernel
theorem dX3_brightnessOf_27 : decode cX3_brightnessOf 27 = .ok (.iload 4, 2) := by decide +kernel
theorem dX3_brightnessOf_29 : decode cX3_brightnessOf 29 = .ok (.aload_n 1, 1) := by decide +kernel
theorem dX3_brightnessOf_30 : decode cX3_brightnessOf 30 = .ok (.getfield 85, 3) := by decide +kernel
theorem dX3_brightnessOf_33 : decode cX3_brightnessOf 33 = .ok (.imul, 1) := by decide +kernel
theorem dX3_brightnessOf_34 : decode cX3_brightnessOf 34 = .ok (.bipush 100, 2) := by decide +kernel
theorem dX3_brightnessOf_36 : decode cX3_brightnessOf 36 = .ok (.idiv, 1) := by decide +kernel
theorem dX3_brightnessOf_37 : decode cX3_brightnessOf 37 = .ok (.istore 4, 2) := by decide +kernel
theorem dX3_brightnessOf_39 : decode cX3_brightnessOf 39 = .ok (.iinc 5 1, 3) := by decide +kernel
theorem dX3_brightnessOf_42 : decode cX3_brightnessOf 42 = .ok (.goto (-21), 3) := by decide +kernel
theorem dX3_brightnessOf_45 : decode cX3_brightnessOf 45 = .ok (.iload 4, 2) := by decide +kernel
theorem dX3_brightnessOf_47 : decode cX3_brightnessOf 47 = .ok (.ireturn, 1) := by decide +kernel
abbrev mX3_brightnessOf : KM := (RX3, cX3_brightnessOf, 6, (some .int), { frames := 2, cells := 0, slots := 0, locals := 41 }, 0, 0)
def fX3_brightnessOf_L21 (q0 : Nat) (q1 : Nat) (a2 : Int32) : Nat → Int32 → Int32 → Int32 → Sto → Option Int32
  | 0, _, _, _, _ => none
  | fu + 1, v3, v4, v5, σ =>
    if v3 ≤ v5 then
      some v4
    else
      fX3_brightnessOf_L21 q0 q1 a2 fu v3 ((v4 * (σ q1 2)) / 100) (v5 + 1) σ
def fX3_brightnessOf (q0 : Nat) (q1 : Nat) (a2 : Int32) (σ : Sto) : Option Int32 :=
  (fX3_reflectionsOf q0 a2 σ).bind fun r1 =>
  if r1 = (-1) then
    some 0
  else
    fX3_brightnessOf_L21 q0 q1 a2 kFU r1 1000 0 σ
set_option maxHeartbeats 4000000 in
set_option maxRecDepth 100000 in
theorem wX3_brightnessOf_L21 (sh : KSh) (hw : KWf sh) (l : Launch) (hst : l.stackTraces = false) (q0 : Nat) (h0 : sh q0 = .inl 3) (q1 : Nat) (h1 : sh q1 = .inl 5) (a2 : Int32) : ∀ (fu : Nat), ∀ (v3 : Int32), ∀ (v4 : Int32), ∀ (v5 : Int32), ∀ (σ : Sto), ∀ (r : Int32), fX3_brightnessOf_L21 q0 q1 a2 fu v3 v4 v5 σ = some r → VV sh l mX3_brightnessOf 0 0 21 [(1, .ref q1), (3, .int v3), (4, .int v4), (5, .int v5)] [] σ (0, .int r, σ) := by
  intro fu
  induction fu with
  | zero => intro v3 v4 v5 σ r h; rw [fX3_brightnessOf_L21] at h; cases h
  | succ fu ih =>
    intro v3 v4 v5 σ r h
    rw [fX3_brightnessOf_L21] at h
    refine kv_iload (pc := 21) 3 dX3_brightnessOf_21 rfl ?_
    refine kv_iload_n (pc := 23) 1 dX3_brightnessOf_23 rfl rfl ?_
    refine kv_icmp_ge (pc := 24) (tgt := 45) dX3_brightnessOf_24 (by decide) h (fun h => ?_) (fun h => ?_)
    · refine kv_iload (pc := 45) 2 dX3_brightnessOf_45 rfl ?_
      exact kv_iret (pc := 47) dX3_brightnessOf_47 rfl (by cases h; rfl) (by decide) (by decide)
    · refine kv_iload (pc := 27) 2 dX3_brightnessOf_27 rfl ?_
      refine kv_aload_n (pc := 29) 0 dX3_brightnessOf_29 rfl rfl ?_
      refine kv_getI (pc := 30) dX3_brightnessOf_30 h1 rfl (i := 2) (by decide) rfl fl_X3_85 rfl ?_
      refine kv_imul (pc := 33) dX3_brightnessOf_33 ?_
      refine kv_bipush (pc := 34) (v := 100) dX3_brightnessOf_34 (by decide) ?_
      refine kv_idiv (pc := 36) dX3_brightnessOf_36 (by decide) ?_
      refine kv_istore (pc := 37) [(4, .int ((v4 * (σ q1 2)) / 100)), (1, .ref q1), (3, .int v3), (5, .int v5)] dX3_brightnessOf_37 (by decide) rfl ?_
      refine kv_iinc (pc := 39) (v := v5 + 1) 3 [(5, .int (v5 + 1)), (4, .int ((v4 * (σ q1 2)) / 100)), (1, .ref q1), (3, .int v3)] dX3_brightnessOf_39 rfl rfl (by decide) rfl ?_
      refine kv_goto (pc := 42) (tgt := 21) dX3_brightnessOf_42 (by decide) ?_
      refine kv_sub (pc := 21) [(1, .ref q1), (3, .int v3), (4, .int ((v4 * (σ q1 2)) / 100)), (5, .int (v5 + 1))] [2, 3, 1, 0] rfl ?_
      exact ih v3 ((v4 * (σ q1 2)) / 100) (v5 + 1) σ r h
set_option maxHeartbeats 4000000 in
set_option maxRecDepth 100000 in
theorem tX3_brightnessOf (sh : KSh) (hw : KWf sh) (l : Launch) (hst : l.stackTraces = false) (q0 : Nat) (h0 : sh q0 = .inl 3) (q1 : Nat) (h1 : sh q1 = .inl 5) (a2 : Int32) (σ : Sto) (r : Int32) (h : fX3_brightnessOf q0 q1 a2 σ = some r) : CT sh l mX3_brightnessOf yX3_brightnessOf [.ref q0, .ref q1, .int a2] σ (0, .int r, σ) := by
  refine kct [(0, .ref q0), (1, .ref q1), (2, .int a2)] hst (by decide +kernel) rfl rfl (Nat.le_of_ble_eq_true rfl) ?_
  rw [fX3_brightnessOf] at h
  refine kv_aload_n (pc := 0) 0 dX3_brightnessOf_0 rfl rfl ?_
  refine kv_iload_n (pc := 1) 2 dX3_brightnessOf_1 rfl rfl ?_
  refine kv_cV (pc := 2) [.int a2] (fun r1 => (0, .int r1, σ)) (fun r1 => (.int r1 :: [])) (fun r1 => σ) 5 0 0 h (fun r1 g2 => tX3_reflectionsOf sh hw l hst q0 h0 a2 σ r1 g2) dX3_brightnessOf_2 rfl h0 rfl yw_X3_reflectionsOf lk_X3_82 (by decide) (Nat.le_of_ble_eq_true rfl) (by decide) (fun _ => rfl) (fun _ => rfl) ⟨rfl, rfl, rfl⟩ (fun _ _ h0 => absurd rfl h0) (fun r1 g2 z3 h => ?_)
  refine kv_istore_n (pc := 5) [(3, .int r1), (0, .ref q0), (1, .ref q1), (2, .int a2)] dX3_brightnessOf_5 rfl (by decide) rfl ?_
  refine kv_iload_n (pc := 6) 0 dX3_brightnessOf_6 rfl rfl ?_
  refine kv_iconst (pc := 7) (v := (-1)) dX3_brightnessOf_7 (by decide) ?_
  refine kv_icmp_ne (pc := 8) (tgt := 13) dX3_brightnessOf_8 (by decide) h (fun h => ?_) (fun h => ?_)
  · refine kv_sipush (pc := 13) (v := 1000) dX3_brightnessOf_13 (by decide) ?_
    refine kv_istore (pc := 16) [(4, .int 1000), (3, .int r1), (0, .ref q0), (1, .ref q1), (2, .int a2)] dX3_brightnessOf_16 (by decide) rfl ?_
    refine kv_iconst (pc := 18) (v := 0) dX3_brightnessOf_18 (by decide) ?_
    refine kv_istore (pc := 19) [(5, .int 0), (4, .int 1000), (3, .int r1), (0, .ref q0), (1, .ref q1), (2, .int a2)] dX3_brightnessOf_19 (by decide) rfl ?_
    refine kv_sub (pc := 21) [(1, .ref q1), (3, .int r1), (4, .int 1000), (5, .int 0)] [4, 2, 1, 0] rfl ?_
    exact wX3_brightnessOf_L21 sh hw l hst q0 h0 q1 h1 a2 kFU r1 1000 0 σ r h
  · refine kv_iconst (pc := 11) (v := 0) dX3_brightnessOf_11 (by decide) ?_
    exact kv_iret (pc := 12) dX3_brightnessOf_12 rfl (by cases h; rfl) (by decide) (by decide)
theorem yw_X3_brightnessOf : KMV yX3_brightnessOf mX3_brightnessOf RX3 2 := ⟨⟨rfl, by decide +kernel, by decide +kernel, by decide +kernel⟩, ⟨rfl, rfl⟩, kg_in 938 (by decide +kernel) (by decide +kernel), kg_in 939 (by decide +kernel) (by decide +kernel), kg_in 53 (by decide +kernel) (by decide +kernel), kg_in 940 (by decide +kernel) (by decide +kernel)⟩
theorem dX3_sumOfBrightness_0 : decode cX3_sumOfBrightness 0 = .ok (.iconst 0, 1) := by decide +kernel
theorem dX3_sumOfBrightness_1 : decode cX3_sumOfBrightness 1 = .ok (.istore_n 3, 1) := by decide +kernel
theorem dX3_sumOfBrightness_2 : decode cX3_sumOfBrightness 2 = .ok (.iconst 0, 1) := by decide +kernel
theorem dX3_sumOfBrightness_3 : decode cX3_sumOfBrightness 3 = .ok (.istore 4, 2) := by decide +kernel
theorem dX3_sumOfBrightness_5 : decode cX3_sumOfBrightness 5 = .ok (.iload 4, 2) := by decide +kernel
theorem dX3_sumOfBrightness_7 : decode cX3_sumOfBrightness 7 = .ok (.sipush 225, 3) := by decide +kernel
theorem dX3_sumOfBrightness_10 : decode cX3_sumOfBrightness 10 = .ok (.if_icmp .ge 33, 3) := by decide +kernel
theorem dX3_sumOfBrightness_13 : decode cX3_sumOfBrightness 13 = .ok (.iload_n 2, 1) := by decide +kernel
theorem dX3_sumOfBrightness_14 : decode cX3_sumOfBrightness 14 = .ok (.ifCond .eq 13, 3) := by decide +kernel
theorem dX3_sumOfBrightness_17 : decode cX3_sumOfBrightness 17 = .ok (.aload_n 0, 1) := by decide +kernel
theorem dX3_sumOfBrightness_18 : decode cX3_sumOfBrightness 18 = .ok (.getfield 18, 3) := by decide +kernel
theorem dX3_sumOfBrightness_21 : decode cX3_sumOfBrightness 21 = .ok (.iload 4, 2) := by decide +kernel
theorem dX3_sumOfBrightness_23 : decode cX3_sumOfBrightness 23 = .ok (.iaload, 1) := by decide +kernel
theorem dX3_sumOfBrightness_24 : decode cX3_sumOfBrightness 24 = .ok (.ifCond .le 13, 3) := by decide +kernel
theorem dX3_sumOfBrightness_27 : decode cX3_sumOfBrightness 27 = .ok (.iload_n 3, 1) := by decide +kernel
theorem dX3_sumOfBrightness_28 : decode cX3_sumOfBrightness 28 = .ok (.aload_n 0, 1) := by decide +kernel
theorem dX3_sumOfBrightness_29 : decode cX3_sumOfBrightness 29 = .ok (.aload_n 1, 1) := by decide +kernel
theorem dX3_sumOfBrightness_30 : decode cX3_sumOfBrightness 30 = .ok (.iload 4, 2) := by decide +kernel
theorem dX3_sumOfBrightness_32 : decode cX3_sumOfBrightness 32 = .ok (.invokevirtual 89, 3) := by decide +kernel
theorem dX3_sumOfBrightness_35 : decode cX3_sumOfBrightness 35 = .ok (.iadd, 1) := by decide +kernel
theorem dX3_sumOfBrightness_36 : decode cX3_sumOfBrightness 36 = .ok (.istore_n 3, 1) := by decide +kernel
theorem dX3_sumOfBrightness_37 : decode cX3_sumOfBrightness 37 = .ok (.iinc 4 1, 3) := by decide +kernel
theorem dX3_sumOfBrightness_40 : decode cX3_sumOfBrightness 40 = .ok (.goto (-35), 3) := by decide +kernel
theorem dX3_sumOfBrightness_43 : decode cX3_sumOfBrightness 43 = .ok (.iload_n 3, 1) := by decide +kernel
theorem dX3_sumOfBrightness_44 : decode cX3_sumOfBrightness 44 = .ok (.ireturn, 1) := by decide +kernel
abbrev mX3_sumOfBrightness : KM := (RX3, cX3_sumOfBrightness, 5, (some .int), { frames := 3, cells := 0, slots := 0, locals := 66 }, 0, 0)
def fX3_sumOfBrightness_L37 (q0 : Nat) (q1 : Nat) (a2 : Int32) (K5 : Int32 → Int32 → Sto → Option Int32) (v3 : Int32) (v4 : Int32) (σ : Sto) : Option Int32 :=
  K5 v3 (v4 + 1) σ
def fX3_sumOfBrightness_L27 (q0 : Nat) (q1 : Nat) (a2 : Int32) (K5 : Int32 → Int32 → Sto → Option Int32) (v3 : Int32) (v4 : Int32) (σ : Sto) : Option Int32 :=
  (fX3_brightnessOf q0 q1 v4 σ).bind fun r1 =>
  fX3_sumOfBrightness_L37 q0 q1 a2 K5 (v3 + r1) v4 σ
def fX3_sumOfBrightness_L5 (q0 : Nat) (q1 : Nat) (a2 : Int32) : Nat → Int32 → Int32 → Sto → Option Int32
  | 0, _, _, _ => none
  | fu + 1, v3, v4, σ =>
    if 225 ≤ v4 then
      some v3
    else
      if a2 = 0 then
        fX3_sumOfBrightness_L27 q0 q1 a2 (fX3_sumOfBrightness_L5 q0 q1 a2 fu) v3 v4 σ
      else
        if kin v4 225 = true then
          if (σ (q0 + 3) v4.toNatClampNeg) ≤ 0 then
            fX3_sumOfBrightness_L37 q0 q1 a2 (fX3_sumOfBrightness_L5 q0 q1 a2 fu) v3 v4 σ
          else
            fX3_sumOfBrightness_L27 q0 q1 a2 (fX3_sumOfBrightness_L5 q0 q1 a2 fu) v3 v4 σ
        else none
def fX3_sumOfBrightness (q0 : Nat) (q1 : Nat) (a2 : Int32) (σ : Sto) : Option Int32 :=
  fX3_sumOfBrightness_L5 q0 q1 a2 kFU 0 0 σ
set_option maxHeartbeats 4000000 in
set_option maxRecDepth 100000 in
theorem wX3_sumOfBrightness_L37 (sh : KSh) (hw : KWf sh) (l : Launch) (hst : l.stackTraces = false) (q0 : Nat) (h0 : sh q0 = .inl 3) (q1 : Nat) (h1 : sh q1 = .inl 5) (a2 : Int32) (K5 : Int32 → Int32 → Sto → Option Int32) (hK5 : ∀ (v3 : Int32), ∀ (v4 : Int32), ∀ (σ : Sto), ∀ (r : Int32), K5 v3 v4 σ = some r → VV sh l mX3_sumOfBrightness 0 0 5 [(0, .ref q0), (1, .ref q1), (2, .int a2), (3, .int v3), (4, .int v4)] [] σ (0, .int r, σ)) : ∀ (v3 : Int32), ∀ (v4 : Int32), ∀ (σ : Sto), ∀ (r : Int32), fX3_sumOfBrightness_L37 q0 q1 a2 K5 v3 v4 σ = some r → VV sh l mX3_sumOfBrightness 0 0 37 [(0, .ref q0), (1, .ref q1), (2, .int a2), (3, .int v3), (4, .int v4)] [] σ (0, .int r, σ) := by
  intro v3 v4 σ r h
  rw [fX3_sumOfBrightness_L37] at h
  refine kv_iinc (pc := 37) (v := v4 + 1) 4 [(4, .int (v4 + 1)), (0, .ref q0), (1, .ref q1), (2, .int a2), (3, .int v3)] dX3_sumOfBrightness_37 rfl rfl (by decide) rfl ?_
  refine kv_goto (pc := 40) (tgt := 5) dX3_sumOfBrightness_40 (by decide) ?_
  refine kv_sub (pc := 5) [(0, .ref q0), (1, .ref q1), (2, .int a2), (3, .int v3), (4, .int (v4 + 1))] [1, 2, 3, 4, 0] rfl ?_
  exact hK5 v3 (v4 + 1) σ r h
set_option maxHeartbeats 4000000 in
set_option maxRecDepth 100000 in
theorem wX3_sumOfBrightness_L27 (sh : KSh) (hw : KWf sh) (l : Launch) (hst : l.stackTraces = false) (q0 : Nat) (h0 : sh q0 = .inl 3) (q1 : Nat) (h1 : sh q1 = .inl 5) (a2 : Int32) (K5 : Int32 → Int32 → Sto → Option Int32) (hK5 : ∀ (v3 : Int32), ∀ (v4 : Int32), ∀ (σ : Sto), ∀ (r : Int32), K5 v3 v4 σ = some r → VV sh l mX3_sumOfBrightness 0 0 5 [(0, .ref q0), (1, .ref q1), (2, .int a2), (3, .int v3), (4, .int v4)] [] σ (0, .int r, σ)) : ∀ (v3 : Int32), ∀ (v4 : Int32), ∀ (σ : Sto), ∀ (r : Int32), fX3_sumOfBrightness_L27 q0 q1 a2 K5 v3 v4 σ = some r → VV sh l mX3_sumOfBrightness 0 0 27 [(0, .ref q0), (1, .ref q1), (2, .int a2), (3, .int v3), (4, .int v4)] [] σ (0, .int r, σ) := by
  intro v3 v4 σ r h
  rw [fX3_sumOfBrightness_L27] at h
  refine kv_iload_n (pc := 27) 3 dX3_sumOfBrightness_27 rfl rfl ?_
  refine kv_aload_n (pc := 28) 0 dX3_sumOfBrightness_28 rfl rfl ?_
  refine kv_aload_n (pc := 29) 1 dX3_sumOfBrightness_29 rfl rfl ?_
  refine kv_iload (pc := 30) 4 dX3_sumOfBrightness_30 rfl ?_
  refine kv_cV (pc := 32) [.ref q1, .int v4] (fun r1 => (0, .int r1, σ)) (fun r1 => (.int r1 :: [.int v3])) (fun r1 => σ) 35 0 0 h (fun r1 g2 => tX3_brightnessOf sh hw l hst q0 h0 q1 h1 v4 σ r1 g2) dX3_sumOfBrightness_32 rfl h0 rfl yw_X3_brightnessOf lk_X3_89 (by decide) (Nat.le_of_ble_eq_true rfl) (by decide) (fun _ => rfl) (fun _ => rfl) ⟨rfl, rfl, rfl⟩ (fun _ _ h0 => absurd rfl h0) (fun r1 g2 z3 h => ?_)
  refine kv_iadd (pc := 35) dX3_sumOfBrightness_35 ?_
  refine kv_istore_n (pc := 36) [(3, .int (v3 + r1)), (0, .ref q0), (1, .ref q1), (2, .int a2), (4, .int v4)] dX3_sumOfBrightness_36 rfl (by decide) rfl ?_
  refine kv_sub (pc := 37) [(0, .ref q0), (1, .ref q1), (2, .int a2), (3, .int (v3 + r1)), (4, .int v4)] [1, 2, 3, 0, 4] rfl ?_
  exact wX3_sumOfBrightness_L37 sh hw l hst q0 h0 q1 h1 a2 K5 hK5 (v3 + r1) v4 σ r h
set_option maxHeartbeats 4000000 in
set_option maxRecDepth 100000 in
theorem wX3_sumOfBrightness_L5 (sh : KSh) (hw : KWf sh) (l : Launch) (hst : l.stackTraces = false) (q0 : Nat) (h0 : sh q0 = .inl 3) (q1 : Nat) (h1 : sh q1 = .inl 5) (a2 : Int32) : ∀ (fu : Nat), ∀ (v3 : Int32), ∀ (v4 : Int32), ∀ (σ : Sto), ∀ (r : Int32), fX3_sumOfBrightness_L5 q0 q1 a2 fu v3 v4 σ = some r → VV sh l mX3_sumOfBrightness 0 0 5 [(0, .ref q0), (1, .ref q1), (2, .int a2), (3, .int v3), (4, .int v4)] [] σ (0, .int r, σ) := by
  intro fu
  induction fu with
  | zero => intro v3 v4 σ r h; rw [fX3_sumOfBrightness_L5] at h; cases h
  | succ fu ih =>
    intro v3 v4 σ r h
    rw [fX3_sumOfBrightness_L5] at h
    refine kv_iload (pc := 5) 4 dX3_sumOfBrightness_5 rfl ?_
    refine kv_sipush (pc := 7) (v := 225) dX3_sumOfBrightness_7 (by decide) ?_
    refine kv_icmp_ge (pc := 10) (tgt := 43) dX3_sumOfBrightness_10 (by decide) h (fun h => ?_) (fun h => ?_)
    · refine kv_iload_n (pc := 43) 3 dX3_sumOfBrightness_43 rfl rfl ?_
      exact kv_iret (pc := 44) dX3_sumOfBrightness_44 rfl (by cases h; rfl) (by decide) (by decide)
    · refine kv_iload_n (pc := 13) 2 dX3_sumOfBrightness_13 rfl rfl ?_
      refine kv_if_eq (pc := 14) (tgt := 27) dX3_sumOfBrightness_14 (by decide) h (fun h => ?_) (fun h => ?_)
      · refine kv_sub (pc := 27) [(0, .ref q0), (1, .ref q1), (2, .int a2), (3, .int v3), (4, .int v4)] [0, 1, 2, 3, 4] rfl ?_
        exact wX3_sumOfBrightness_L27 sh hw l hst q0 h0 q1 h1 a2 (fX3_sumOfBrightness_L5 q0 q1 a2 fu) ih v3 v4 σ r h
      · refine kv_aload_n (pc := 17) 0 dX3_sumOfBrightness_17 rfl rfl ?_
        refine kv_getR (pc := 18) (q2 := q0 + 3) dX3_sumOfBrightness_18 h0 rfl (i := 2) (by decide) rfl fl_X3_18 rfl rfl ?_
        refine kv_iload (pc := 21) 4 dX3_sumOfBrightness_21 rfl ?_
        refine kv_iald (pc := 23) dX3_sumOfBrightness_23 (show sh (q0 + 3) = _ from kso_3_3 hw h0) h (fun h => ?_)
        refine kv_if_le (pc := 24) (tgt := 37) dX3_sumOfBrightness_24 (by decide) h (fun h => ?_) (fun h => ?_)
        · refine kv_sub (pc := 37) [(0, .ref q0), (1, .ref q1), (2, .int a2), (3, .int v3), (4, .int v4)] [0, 1, 2, 3, 4] rfl ?_
          exact wX3_sumOfBrightness_L37 sh hw l hst q0 h0 q1 h1 a2 (fX3_sumOfBrightness_L5 q0 q1 a2 fu) ih v3 v4 σ r h
        · refine kv_sub (pc := 27) [(0, .ref q0), (1, .ref q1), (2, .int a2), (3, .int v3), (4, .int v4)] [0, 1, 2, 3, 4] rfl ?_
          exact wX3_sumOfBrightness_L27 sh hw l hst q0 h0 q1 h1 a2 (fX3_sumOfBrightness_L5 q0 q1 a2 fu) ih v3 v4 σ r h
set_option maxHeartbeats 4000000 in
set_option maxRecDepth 100000 in
theorem tX3_sumOfBrightness (sh : KSh) (hw : KWf sh) (l : Launch) (hst : l.stackTraces = false) (q0 : Nat) (h0 : sh q0 = .inl 3) (q1 : Nat) (h1 : sh q1 = .inl 5) (a2 : Int32) (σ : Sto) (r : Int32) (h : fX3_sumOfBrightness q0 q1 a2 σ = some r) : CT sh l mX3_sumOfBrightness yX3_sumOfBrightness [.ref q0, .ref q1, .int a2] σ (0, .int r, σ) := by
  refine kct [(0, .ref q0), (1, .ref q1), (2, .int a2)] hst (by decide +kernel) rfl rfl (Nat.le_of_ble_eq_true rfl) ?_
  rw [fX3_sumOfBrightness] at h
  refine kv_iconst (pc := 0) (v := 0) dX3_sumOfBrightness_0 (by decide) ?_
  refine kv_istore_n (pc := 1) [(3, .int 0), (0, .ref q0), (1, .ref q1), (2, .int a2)] dX3_sumOfBrightness_1 rfl (by decide) rfl ?_
  refine kv_iconst (pc := 2) (v := 0) dX3_sumOfBrightness_2 (by decide) ?_
  refine kv_istore (pc := 3) [(4, .int 0), (3, .int 0), (0, .ref q0), (1, .ref q1), (2, .int a2)] dX3_sumOfBrightness_3 (by decide) rfl ?_
  refine kv_sub (pc := 5) [(0, .ref q0), (1, .ref q1), (2, .int a2), (3, .int 0), (4, .int 0)] [2, 3, 4, 1, 0] rfl ?_
  exact wX3_sumOfBrightness_L5 sh hw l hst q0 h0 q1 h1 a2 kFU 0 0 σ r h
theorem yw_X3_sumOfBrightness : KMV yX3_sumOfBrightness mX3_sumOfBrightness RX3 2 := ⟨⟨rfl, by decide +kernel, by decide +kernel, by decide +kernel⟩, ⟨rfl, rfl⟩, kg_in 981 (by decide +kernel) (by decide +kernel), kg_in 982 (by decide +kernel) (by decide +kernel), kg_in 53 (by decide +kernel) (by decide +kernel), kg_in 983 (by decide +kernel) (by decide +kernel)⟩
theorem dX3_countSeen_0 : decode cX3_countSeen 0 = .ok (.iconst 0, 1) := by decide +kernel
theorem dX3_countSeen_1 : decode cX3_countSeen 1 = .ok (.istore_n 1, 1) := by decide +kernel
theorem dX3_countSeen_2 : decode cX3_countSeen 2 = .ok (.iconst 0, 1) := by decide +kernel
theorem dX3_countSeen_3 : decode cX3_countSeen 3 = .ok (.istore_n 2, 1) := by decide +kernel
theorem dX3_countSeen_4 : decode cX3_countSeen 4 = .ok (.iload_n 2, 1) := by decide +kernel
theorem dX3_countSeen_5 : decode cX3_countSeen 5 = .ok (.sipush 225, 3) := by decide +kernel
theorem dX3_countSeen_8 : decode cX3_countSeen 8 = .ok (.if_icmp .ge 22, 3) := by decide +kernel
theorem dX3_countSeen_11 : decode cX3_countSeen 11 = .ok (.aload_n 0, 1) := by decide +kernel
theorem dX3_countSeen_12 : decode cX3_countSeen 12 = .ok (.getfield 9, 3) := by decide +kernel
theorem dX3_countSeen_15 : decode cX3_countSeen 15 = .ok (.iload_n 2, 1) := by decide +kernel
theorem dX3_countSeen_16 : decode cX3_countSeen 16 = .ok (.iaload, 1) := by decide +kernel
theorem dX3_countSeen_17 : decode cX3_countSeen 17 = .ok (.iconst (-1), 1) := by decide +kernel
theorem dX3_countSeen_18 : decode cX3_countSeen 18 = .ok (.if_icmp .eq 6, 3) := by decide +kernel
theorem dX3_countSeen_21 : decode cX3_countSeen 21 = .ok (.iinc 1 1, 3) := by decide +kernel
theorem dX3_countSeen_24 : decode cX3_countSeen 24 = .ok (.iinc 2 1, 3) := by decide +kernel
theorem dX3_countSeen_27 : decode cX3_countSeen 27 = .ok (.goto (-23), 3) := by decide +kernel
theorem dX3_countSeen_30 : decode cX3_countSeen 30 = .ok (.iload_n 1, 1) := by decide +kernel
theorem dX3_countSeen_31 : decode cX3_countSeen 31 = .ok (.ireturn, 1) := by decide +kernel
abbrev mX3_countSeen : KM := (RX3, cX3_countSeen, 3, (some .int), { frames := 0, cells := 0, slots := 0, locals := 0 }, 0, 0)
def fX3_countSeen_L24 (q0 : Nat) (K4 : Int32 → Int32 → Sto → Option Int32) (v1 : Int32) (v2 : Int32) (σ : Sto) : Option Int32 :=
  K4 v1 (v2 + 1) σ
def fX3_countSeen_L4 (q0 : Nat) : Nat → Int32 → Int32 → Sto → Option Int32
  | 0, _, _, _ => none
  | fu + 1, v1, v2, σ =>
    if 225 ≤ v2 then
      some v1
    else
      if kin v2 225 = true then
        if (σ (q0 + 1) v2.toNatClampNeg) = (-1) then
          fX3_countSeen_L24 q0 (fX3_countSeen_L4 q0 fu) v1 v2 σ
        else
          fX3_countSeen_L24 q0 (fX3_countSeen_L4 q0 fu) (v1 + 1) v2 σ
      else none
def fX3_countSeen (q0 : Nat) (σ : Sto) : Option Int32 :=
  fX3_countSeen_L4 q0 kFU 0 0 σ
set_option maxHeartbeats 4000000 in
set_option maxRecDepth 100000 in
theorem wX3_countSeen_L24 (sh : KSh) (hw : KWf sh) (l : Launch) (hst : l.stackTraces = false) (q0 : Nat) (h0 : sh q0 = .inl 3) (K4 : Int32 → Int32 → Sto → Option Int32) (hK4 : ∀ (v1 : Int32), ∀ (v2 : Int32), ∀ (σ : Sto), ∀ (r : Int32), K4 v1 v2 σ = some r → VV sh l mX3_countSeen 0 0 4 [(0, .ref q0), (1, .int v1), (2, .int v2)] [] σ (0, .int r, σ)) : ∀ (v1 : Int32), ∀ (v2 : Int32), ∀ (σ : Sto), ∀ (r : Int32), fX3_countSeen_L24 q0 K4 v1 v2 σ = some r → VV sh l mX3_countSeen 0 0 24 [(0, .ref q0), (1, .int v1), (2, .int v2)] [] σ (0, .int r, σ) := by
  intro v1 v2 σ r h
  rw [fX3_countSeen_L24] at h
  refine kv_iinc (pc := 24) (v := v2 + 1) 2 [(2, .int (v2 + 1)), (0, .ref q0), (1, .int v1)] dX3_countSeen_24 rfl rfl (by decide) rfl ?_
  refine kv_goto (pc := 27) (tgt := 4) dX3_countSeen_27 (by decide) ?_
  refine kv_sub (pc := 4) [(0, .ref q0), (1, .int v1), (2, .int (v2 + 1))] [1, 2, 0] rfl ?_
  exact hK4 v1 (v2 + 1) σ r h
set_option maxHeartbeats 4000000 in
set_option maxRecDepth 100000 in
theorem wX3_countSeen_L4 (sh : KSh) (hw : KWf sh) (l : Launch) (hst : l.stackTraces = false) (q0 : Nat) (h0 : sh q0 = .inl 3) : ∀ (fu : Nat), ∀ (v1 : Int32), ∀ (v2 : Int32), ∀ (σ : Sto), ∀ (r : Int32), fX3_countSeen_L4 q0 fu v1 v2 σ = some r → VV sh l mX3_countSeen 0 0 4 [(0, .ref q0), (1, .int v1), (2, .int v2)] [] σ (0, .int r, σ) := by
  intro fu
  induction fu with
  | zero => intro v1 v2 σ r h; rw [fX3_countSeen_L4] at h; cases h
  | succ fu ih =>
    intro v1 v2 σ r h
    rw [fX3_countSeen_L4] at h
    refine kv_iload_n (pc := 4) 2 dX3_countSeen_4 rfl rfl ?_
    refine kv_sipush (pc := 5) (v := 225) dX3_countSeen_5 (by decide) ?_
    refine kv_icmp_ge (pc := 8) (tgt := 30) dX3_countSeen_8 (by decide) h (fun h => ?_) (fun h => ?_)
    · refine kv_iload_n (pc := 30) 1 dX3_countSeen_30 rfl rfl ?_
      exact kv_iret (pc := 31) dX3_countSeen_31 rfl (by cases h; rfl) (by decide) (by decide)
    · refine kv_aload_n (pc := 11) 0 dX3_countSeen_11 rfl rfl ?_
      refine kv_getR (pc := 12) (q2 := q0 + 1) dX3_countSeen_12 h0 rfl (i := 0) (by decide) rfl fl_X3_9 rfl rfl ?_
      refine kv_iload_n (pc := 15) 2 dX3_countSeen_15 rfl rfl ?_
      refine kv_iald (pc := 16) dX3_countSeen_16 (show sh (q0 + 1) = _ from kso_3_1 hw h0) h (fun h => ?_)
      refine kv_iconst (pc := 17) (v := (-1)) dX3_countSeen_17 (by decide) ?_
      refine kv_icmp_eq (pc := 18) (tgt := 24) dX3_countSeen_18 (by decide) h (fun h => ?_) (fun h => ?_)
      · refine kv_sub (pc := 24) [(0, .ref q0), (1, .int v1), (2, .int v2)] [0, 1, 2] rfl ?_
        exact wX3_countSeen_L24 sh hw l hst q0 h0 (fX3_countSeen_L4 q0 fu) ih v1 v2 σ r h
      · refine kv_iinc (pc := 21) (v := v1 + 1) 1 [(1, .int (v1 + 1)), (0, .ref q0), (2, .int v2)] dX3_countSeen_21 rfl rfl (by decide) rfl ?_
        refine kv_sub (pc := 24) [(0, .ref q0), (1, .int (v1 + 1)), (2, .int v2)] [1, 0, 2] rfl ?_
        exact wX3_countSeen_L24 sh hw l hst q0 h0 (fX3_countSeen_L4 q0 fu) ih (v1 + 1) v2 σ r h
set_option maxHeartbeats 4000000 in
set_option maxRecDepth 100000 in
theorem tX3_countSeen (sh : KSh) (hw : KWf sh) (l : Launch) (hst : l.stackTraces = false) (q0 : Nat) (h0 : sh q0 = .inl 3) (σ : Sto) (r : Int32) (h : fX3_countSeen q0 σ = some r) : CT sh l mX3_countSeen yX3_countSeen [.ref q0] σ (0, .int r, σ) := by
  refine kct [(0, .ref q0)] hst (by decide +kernel) rfl rfl (Nat.le_of_ble_eq_true rfl) ?_
  rw [fX3_countSeen] at h
  refine kv_iconst (pc := 0) (v := 0) dX3_countSeen_0 (by decide) ?_
  refine kv_istore_n (pc := 1) [(1, .int 0), (0, .ref q0)] dX3_countSeen_1 rfl (by decide) rfl ?_
  refine kv_iconst (pc := 2) (v := 0) dX3_countSeen_2 (by decide) ?_
  refine kv_istore_n (pc := 3) [(2, .int 0), (1, .int 0), (0, .ref q0)] dX3_countSeen_3 rfl (by decide) rfl ?_
  refine kv_sub (pc := 4) [(0, .ref q0), (1, .int 0), (2, .int 0)] [2, 1, 0] rfl ?_
  exact wX3_countSeen_L4 sh hw l hst q0 h0 kFU 0 0 σ r h
theorem yw_X3_countSeen : KMV yX3_countSeen mX3_countSeen RX3 0 := ⟨⟨rfl, by decide +kernel, by decide +kernel, by decide +kernel⟩, ⟨rfl, rfl⟩, kg_in 681 (by decide +kernel) (by decide +kernel), kg_in 682 (by decide +kernel) (by decide +kernel), kg_in 53 (by decide +kernel) (by decide +kernel), kg_in 683 (by decide +kernel) (by decide +kernel)⟩
theorem dX3_imagesOf_0 : decode cX3_imagesOf 0 = .ok (.iconst 0, 1) := by decide +kernel
theorem dX3_imagesOf_1 : decode cX3_imagesOf 1 = .ok (.istore_n 2, 1) := by decide +kernel
theorem dX3_imagesOf_2 : decode cX3_imagesOf 2 = .ok (.iconst 0, 1) := by decide +kernel
theorem dX3_imagesOf_3 : decode cX3_imagesOf 3 = .ok (.istore_n 3, 1) := by decide +kernel
theorem dX3_imagesOf_4 : decode cX3_imagesOf 4 = .ok (.iload_n 3, 1) := by decide +kernel
theorem dX3_imagesOf_5 : decode cX3_imagesOf 5 = .ok (.sipush 225, 3) := by decide +kernel
theorem dX3_imagesOf_8 : decode cX3_imagesOf 8 = .ok (.if_icmp .ge 22, 3) := by decide +kernel
theorem dX3_imagesOf_11 : decode cX3_imagesOf 11 = .ok (.aload_n 0, 1) := by decide +kernel
theorem dX3_imagesOf_12 : decode cX3_imagesOf 12 = .ok (.getfield 9, 3) := by decide +kernel
theorem dX3_imagesOf_15 : decode cX3_imagesOf 15 = .ok (.iload_n 3, 1) := by decide +kernel
theorem dX3_imagesOf_16 : decode cX3_imagesOf 16 = .ok (.iaload, 1) := by decide +kernel
theorem dX3_imagesOf_17 : decode cX3_imagesOf 17 = .ok (.iload_n 1, 1) := by decide +kernel
theorem dX3_imagesOf_18 : decode cX3_imagesOf 18 = .ok (.if_icmp .ne 6, 3) := by decide +kernel
theorem dX3_imagesOf_21 : decode cX3_imagesOf 21 = .ok (.iinc 2 1, 3) := by decide +kernel
theorem dX3_imagesOf_24 : decode cX3_imagesOf 24 = .ok (.iinc 3 1, 3) := by decide +kernel
theorem dX3_imagesOf_27 : decode cX3_imagesOf 27 = .ok (.goto (-23), 3) := by decide +kernel
theorem dX3_imagesOf_30 : decode cX3_imagesOf 30 = .ok (.iload_n 2, 1) := by decide +kernel
theorem dX3_imagesOf_31 : decode cX3_imagesOf 31 = .ok (.ireturn, 1) := by decide +kernel
abbrev mX3_imagesOf : KM := (RX3, cX3_imagesOf, 4, (some .int), { frames := 0, cells := 0, slots := 0, locals := 0 }, 0, 0)
def fX3_imagesOf_L24 (q0 : Nat) (a1 : Int32) (K4 : Int32 → Int32 → Sto → Option Int32) (v2 : Int32) (v3 : Int32) (σ : Sto) : Option Int32 :=
  K4 v2 (v3 + 1) σ
def fX3_imagesOf_L4 (q0 : Nat) (a1 : Int32) : Nat → Int32 → Int32 → Sto → Option Int32
  | 0, _, _, _ => none
  | fu + 1, v2, v3, σ =>
    if 225 ≤ v3 then
      some v2
    else
      if kin v3 225 = true then
        if (σ (q0 + 1) v3.toNatClampNeg) = a1 then
          fX3_imagesOf_L24 q0 a1 (fX3_imagesOf_L4 q0 a1 fu) (v2 + 1) v3 σ
        else
          fX3_imagesOf_L24 q0 a1 (fX3_imagesOf_L4 q0 a1 fu) v2 v3 σ
      else none
def fX3_imagesOf (q0 : Nat) (a1 : Int32) (σ : Sto) : Option Int32 :=
  fX3_imagesOf_L4 q0 a1 kFU 0 0 σ
set_option maxHeartbeats 4000000 in
set_option maxRecDepth 100000 in
theorem wX3_imagesOf_L24 (sh : KSh) (hw : KWf sh) (l : Launch) (hst : l.stackTraces = false) (q0 : Nat) (h0 : sh q0 = .inl 3) (a1 : Int32) (K4 : Int32 → Int32 → Sto → Option Int32) (hK4 : ∀ (v2 : Int32), ∀ (v3 : Int32), ∀ (σ : Sto), ∀ (r : Int32), K4 v2 v3 σ = some r → VV sh l mX3_imagesOf 0 0 4 [(0, .ref q0), (1, .int a1), (2, .int v2), (3, .int v3)] [] σ (0, .int r, σ)) : ∀ (v2 : Int32), ∀ (v3 : Int32), ∀ (σ : Sto), ∀ (r : Int32), fX3_imagesOf_L24 q0 a1 K4 v2 v3 σ = some r → VV sh l mX3_imagesOf 0 0 24 [(0, .ref q0), (1, .int a1), (2, .int v2), (3, .int v3)] [] σ (0, .int r, σ) := by
  intro v2 v3 σ r h
  rw [fX3_imagesOf_L24] at h
  refine kv_iinc (pc := 24) (v := v3 + 1) 3 [(3, .int (v3 + 1)), (0, .ref q0), (1, .int a1), (2, .int v2)] dX3_imagesOf_24 rfl rfl (by decide) rfl ?_
  refine kv_goto (pc := 27) (tgt := 4) dX3_imagesOf_27 (by decide) ?_
  refine kv_sub (pc := 4) [(0, .ref q0), (1, .int a1), (2, .int v2), (3, .int (v3 + 1))] [1, 2, 3, 0] rfl ?_
  exact hK4 v2 (v3 + 1) σ r h
set_option maxHeartbeats 4000000 in
set_option maxRecDepth 100000 in
theorem wX3_imagesOf_L4 (sh : KSh) (hw : KWf sh) (l : Launch) (hst : l.stackTraces = false) (q0 : Nat) (h0 : sh q0 = .inl 3) (a1 : Int32) : ∀ (fu : Nat), ∀ (v2 : Int32), ∀ (v3 : Int32), ∀ (σ : Sto), ∀ (r : Int32), fX3_imagesOf_L4 q0 a1 fu v2 v3 σ = some r → VV sh l mX3_imagesOf 0 0 4 [(0, .ref q0), (1, .int a1), (2, .int v2), (3, .int v3)] [] σ (0, .int r, σ) := by
  intro fu
  induction fu with
  | zero => intro v2 v3 σ r h; rw [fX3_imagesOf_L4] at h; cases h
  | succ fu ih =>
    intro v2 v3 σ r h
    rw [fX3_imagesOf_L4] at h
    refine kv_iload_n (pc := 4) 3 dX3_imagesOf_4 rfl rfl ?_
    refine kv_sipush (pc := 5) (v := 225) dX3_imagesOf_5 (by decide) ?_
    refine kv_icmp_ge (pc := 8) (tgt := 30) dX3_imagesOf_8 (by decide) h (fun h => ?_) (fun h => ?_)
    · refine kv_iload_n (pc := 30) 2 dX3_imagesOf_30 rfl rfl ?_
      exact kv_iret (pc := 31) dX3_imagesOf_31 rfl (by cases h; rfl) (by decide) (by decide)
    · refine kv_aload_n (pc := 11) 0 dX3_imagesOf_11 rfl rfl ?_
      refine kv_getR (pc := 12) (q2 := q0 + 1) dX3_imagesOf_12 h0 rfl (i := 0) (by decide) rfl fl_X3_9 rfl rfl ?_
      refine kv_iload_n (pc := 15) 3 dX3_imagesOf_15 rfl rfl ?_
      refine kv_iald (pc := 16) dX3_imagesOf_16 (show sh (q0 + 1) = _ from kso_3_1 hw h0) h (fun h => ?_)
      refine kv_iload_n (pc := 17) 1 dX3_imagesOf_17 rfl rfl ?_
      refine kv_icmp_ne (pc := 18) (tgt := 24) dX3_imagesOf_18 (by decide) h (fun h => ?_) (fun h => ?_)
      · refine kv_sub (pc := 24) [(0, .ref q0), (1, .int a1), (2, .int v2), (3, .int v3)] [0, 1, 2, 3] rfl ?_
        exact wX3_imagesOf_L24 sh hw l hst q0 h0 a1 (fX3_imagesOf_L4 q0 a1 fu) ih v2 v3 σ r h
      · refine kv_iinc (pc := 21) (v := v2 + 1) 2 [(2, .int (v2 + 1)), (0, .ref q0), (1, .int a1), (3, .int v3)] dX3_imagesOf_21 rfl rfl (by decide) rfl ?_
        refine kv_sub (pc := 24) [(0, .ref q0), (1, .int a1), (2, .int (v2 + 1)), (3, .int v3)] [1, 2, 0, 3] rfl ?_
        exact wX3_imagesOf_L24 sh hw l hst q0 h0 a1 (fX3_imagesOf_L4 q0 a1 fu) ih (v2 + 1) v3 σ r h
set_option maxHeartbeats 4000000 in
set_option maxRecDepth 100000 in
theorem tX3_imagesOf (sh : KSh) (hw : KWf sh) (l : Launch) (hst : l.stackTraces = false) (q0 : Nat) (h0 : sh q0 = .inl 3) (a1 : Int32) (σ : Sto) (r : Int32) (h : fX3_imagesOf q0 a1 σ = some r) : CT sh l mX3_imagesOf yX3_imagesOf [.ref q0, .int a1] σ (0, .int r, σ) := by
  refine kct [(0, .ref q0), (1, .int a1)] hst (by decide +kernel) rfl rfl (Nat.le_of_ble_eq_true rfl) ?_
  rw [fX3_imagesOf] at h
  refine kv_iconst (pc := 0) (v := 0) dX3_imagesOf_0 (by decide) ?_
  refine kv_istore_n (pc := 1) [(2, .int 0), (0, .ref q0), (1, .int a1)] dX3_imagesOf_1 rfl (by decide) rfl ?_
  refine kv_iconst (pc := 2) (v := 0) dX3_imagesOf_2 (by decide) ?_
  refine kv_istore_n (pc := 3) [(3, .int 0), (2, .int 0), (0, .ref q0), (1, .int a1)] dX3_imagesOf_3 rfl (by decide) rfl ?_
  refine kv_sub (pc := 4) [(0, .ref q0), (1, .int a1), (2, .int 0), (3, .int 0)] [2, 3, 1, 0] rfl ?_
  exact wX3_imagesOf_L4 sh hw l hst q0 h0 a1 kFU 0 0 σ r h
theorem yw_X3_imagesOf : KMV yX3_imagesOf mX3_imagesOf RX3 1 := ⟨⟨rfl, by decide +kernel, by decide +kernel, by decide +kernel⟩, ⟨rfl, rfl⟩, kg_in 973 (by decide +kernel) (by decide +kernel), kg_in 974 (by decide +kernel) (by decide +kernel), kg_in 53 (by decide +kernel) (by decide +kernel), kg_in 975 (by decide +kernel) (by decide +kernel)⟩
theorem dX3_countColour_0 : decode cX3_countColour 0 = .ok (.iload_n 1, 1) := by decide +kernel
theorem dX3_countColour_1 : decode cX3_countColour 1 = .ok (.ifCond .lt 18, 3) := by decide +kernel
theorem dX3_countColour_4 : decode cX3_countColour 4 = .ok (.iload_n 1, 1) := by decide +kernel
theorem dX3_countColour_5 : decode cX3_countColour 5 = .ok (.bipush 10, 2) := by decide +kernel
theorem dX3_countColour_7 : decode cX3_countColour 7 = .ok (.if_icmp .ge 12, 3) := by decide +kernel
theorem dX3_countColour_10 : decode cX3_countColour 10 = .ok (.aload_n 0, 1) := by decide +kernel
theorem dX3_countColour_11 : decode cX3_countColour 11 = .ok (.getfield 21, 3) := by decide +kernel
theorem dX3_countColour_14 : decode cX3_countColour 14 = .ok (.iload_n 1, 1) := by decide +kernel
theorem dX3_countColour_15 : decode cX3_countColour 15 = .ok (.iaload, 1) := by decide +kernel
theorem dX3_countColour_16 : decode cX3_countColour 16 = .ok (.goto 4, 3) := by decide +kernel
theorem dX3_countColour_19 : decode cX3_countColour 19 = .ok (.iconst 0, 1) := by decide +kernel
theorem dX3_countColour_20 : decode cX3_countColour 20 = .ok (.ireturn, 1) := by decide +kernel
abbrev mX3_countColour : KM := (RX3, cX3_countColour, 2, (some .int), { frames := 0, cells := 0, slots := 0, locals := 0 }, 0, 0)
def fX3_countColour (q0 : Nat) (a1 : Int32) (σ : Sto) : Option Int32 :=
  if a1 < 0 then
    some 0
  else
    if 10 ≤ a1 then
      some 0
    else
      if kin a1 10 = true then
        some (σ (q0 + 4) a1.toNatClampNeg)
      else none
set_option maxHeartbeats 4000000 in
set_option maxRecDepth 100000 in
theorem tX3_countColour (sh : KSh) (hw : KWf sh) (l : Launch) (hst : l.stackTraces = false) (q0 : Nat) (h0 : sh q0 = .inl 3) (a1 : Int32) (σ : Sto) (r : Int32) (h : fX3_countColour q0 a1 σ = some r) : CT sh l mX3_countColour yX3_countColour [.ref q0, .int a1] σ (0, .int r, σ) := by
  refine kct [(0, .ref q0), (1, .int a1)] hst (by decide +kernel) rfl rfl (Nat.le_of_ble_eq_true rfl) ?_
  rw [fX3_countColour] at h
  refine kv_iload_n (pc := 0) 1 dX3_countColour_0 rfl rfl ?_
  refine kv_if_lt (pc := 1) (tgt := 19) dX3_countColour_1 (by decide) h (fun h => ?_) (fun h => ?_)
  · refine kv_iconst (pc := 19) (v := 0) dX3_countColour_19 (by decide) ?_
    exact kv_iret (pc := 20) dX3_countColour_20 rfl (by cases h; rfl) (by decide) (by decide)
  · refine kv_iload_n (pc := 4) 1 dX3_countColour_4 rfl rfl ?_
    refine kv_bipush (pc := 5) (v := 10) dX3_countColour_5 (by decide) ?_
    refine kv_icmp_ge (pc := 7) (tgt := 19) dX3_countColour_7 (by decide) h (fun h => ?_) (fun h => ?_)
    · refine kv_iconst (pc := 19) (v := 0) dX3_countColour_19 (by decide) ?_
      exact kv_iret (pc := 20) dX3_countColour_20 rfl (by cases h; rfl) (by decide) (by decide)
    · refine kv_aload_n (pc := 10) 0 dX3_countColour_10 rfl rfl ?_
      refine kv_getR (pc := 11) (q2 := q0 + 4) dX3_countColour_11 h0 rfl (i := 3) (by decide) rfl fl_X3_21 rfl rfl ?_
      refine kv_iload_n (pc := 14) 1 dX3_countColour_14 rfl rfl ?_
      refine kv_iald (pc := 15) dX3_countColour_15 (show sh (q0 + 4) = _ from kso_3_4 hw h0) h (fun h => ?_)
      refine kv_goto (pc := 16) (tgt := 20) dX3_countColour_16 (by decide) ?_
      exact kv_iret (pc := 20) dX3_countColour_20 rfl (by cases h; rfl) (by decide) (by decide)
theorem yw_X3_countColour : KMV yX3_countColour mX3_countColour RX3 1 := ⟨⟨rfl, by decide +kernel, by decide +kernel, by decide +kernel⟩, ⟨rfl, rfl⟩, kg_in 698 (by decide +kernel) (by decide +kernel), kg_in 699 (by decide +kernel) (by decide +kernel), kg_in 53 (by decide +kernel) (by decide +kernel), kg_in 700 (by decide +kernel) (by decide +kernel)⟩
theorem dX3_colourRank_0 : decode cX3_colourRank 0 = .ok (.iconst 0, 1) := by decide +kernel
theorem dX3_colourRank_1 : decode cX3_colourRank 1 = .ok (.istore_n 2, 1) := by decide +kernel
theorem dX3_colourRank_2 : decode cX3_colourRank 2 = .ok (.iconst 1, 1) := by decide +kernel
theorem dX3_colourRank_3 : decode cX3_colourRank 3 = .ok (.istore_n 3, 1) := by decide +kernel
theorem dX3_colourRank_4 : decode cX3_colourRank 4 = .ok (.iload_n 3, 1) := by decide +kernel
theorem dX3_colourRank_5 : decode cX3_colourRank 5 = .ok (.bipush 10, 2) := by decide +kernel
theorem dX3_colourRank_7 : decode cX3_colourRank 7 = .ok (.if_icmp .ge 40, 3) := by decide +kernel
theorem dX3_colourRank_10 : decode cX3_colourRank 10 = .ok (.aload_n 0, 1) := by decide +kernel
theorem dX3_colourRank_11 : decode cX3_colourRank 11 = .ok (.iload_n 3, 1) := by decide +kernel
theorem dX3_colourRank_12 : decode cX3_colourRank 12 = .ok (.invokevirtual 96, 3) := by decide +kernel
theorem dX3_colourRank_15 : decode cX3_colourRank 15 = .ok (.aload_n 0, 1) := by decide +kernel
theorem dX3_colourRank_16 : decode cX3_colourRank 16 = .ok (.iload_n 1, 1) := by decide +kernel
theorem dX3_colourRank_17 : decode cX3_colourRank 17 = .ok (.invokevirtual 96, 3) := by decide +kernel
theorem dX3_colourRank_20 : decode cX3_colourRank 20 = .ok (.isub, 1) := by decide +kernel
theorem dX3_colourRank_21 : decode cX3_colourRank 21 = .ok (.istore 4, 2) := by decide +kernel
theorem dX3_colourRank_23 : decode cX3_colourRank 23 = .ok (.iload 4, 2) := by decide +kernel
theorem dX3_colourRank_25 : decode cX3_colourRank 25 = .ok (.ifCond .gt 13, 3) := by decide +kernel
theorem dX3_colourRank_28 : decode cX3_colourRank 28 = .ok (.iload 4, 2) := by decide +kernel
theorem dX3_colourRank_30 : decode cX3_colourRank 30 = .ok (.ifCond .ne 11, 3) := by decide +kernel
theorem dX3_colourRank_33 : decode cX3_colourRank 33 = .ok (.iload_n 3, 1) := by decide +kernel
theorem dX3_colourRank_34 : decode cX3_colourRank 34 = .ok (.iload_n 1, 1) := by decide +kernel
theorem dX3_colourRank_35 : decode cX3_colourRank 35 = .ok (.if_icmp .ge 6, 3) := by decide +kernel
theorem dX3_colourRank_38 : decode cX3_colourRank 38 = .ok (.iinc 2 1, 3) := by decide +kernel
theorem dX3_colourRank_41 : decode cX3_colourRank 41 = .ok (.iinc 3 1, 3) := by decide +kernel
theorem dX3_colourRank_44 : decode cX3_colourRank 44 = .ok (.goto (-40), 3) := by decide +kernel
theorem dX3_colourRank_47 : decode cX3_colourRank 47 = .ok (.iload_n 2, 1) := by decide +kernel
theorem dX3_colourRank_48 : decode cX3_colourRank 48 = .ok (.ireturn, 1) := by decide +kernel
abbrev mX3_colourRank : KM := (RX3, cX3_colourRank, 5, (some .int), { frames := 1, cells := 0, slots := 0, locals := 21 }, 0, 0)
def fX3_colourRank_L41 (q0 : Nat) (a1 : Int32) (K4 : Int32 → Int32 → Sto → Option Int32) (v2 : Int32) (v3 : Int32) (σ : Sto) : Option Int32 :=
  K4 v2 (v3 + 1) σ
def fX3_colourRank_L38 (q0 : Nat) (a1 : Int32) (K4 : Int32 → Int32 → Sto → Option Int32) (v2 : Int32) (v3 : Int32) (σ : Sto) : Option Int32 :=
  fX3_colourRank_L41 q0 a1 K4 (v2 + 1) v3 σ
def fX3_colourRank_L4 (q0 : Nat) (a1 : Int32) : Nat → Int32 → Int32 → Sto → Option Int32
  | 0, _, _, _ => none
  | fu + 1, v2, v3, σ =>
    if 10 ≤ v3 then
      some v2
    else
      (fX3_countColour q0 v3 σ).bind fun r1 =>
      (fX3_countColour q0 a1 σ).bind fun r4 =>
      if 0 < (r1 - r4) then
        fX3_colourRank_L38 q0 a1 (fX3_colourRank_L4 q0 a1 fu) v2 v3 σ
      else
        if (r1 - r4) = 0 then
          if a1 ≤ v3 then
            fX3_colourRank_L41 q0 a1 (fX3_colourRank_L4 q0 a1 fu) v2 v3 σ
          else
            fX3_colourRank_L38 q0 a1 (fX3_colourRank_L4 q0 a1 fu) v2 v3 σ
        else
          fX3_colourRank_L41 q0 a1 (fX3_colourRank_L4 q0 a1 fu) v2 v3 σ
def fX3_colourRank (q0 : Nat) (a1 : Int32) (σ : Sto) : Option Int32 :=
  fX3_colourRank_L4 q0 a1 kFU 0 1 σ
set_option maxHeartbeats 4000000 in
set_option maxRecDepth 100000 in
theorem wX3_colourRank_L41 (sh : KSh) (hw : KWf sh) (l : Launch) (hst : l.stackTraces = false) (q0 : Nat) (h0 : sh q0 = .inl 3) (a1 : Int32) (K4 : Int32 → Int32 → Sto → Option Int32) (hK4 : ∀ (v2 : Int32), ∀ (v3 : Int32), ∀ (σ : Sto), ∀ (r : Int32), K4 v2 v3 σ = some r → VV sh l mX3_colourRank 0 0 4 [(0, .ref q0), (1, .int a1), (2, .int v2), (3, .int v3)] [] σ (0, .int r, σ)) : ∀ (v2 : Int32), ∀ (v3 : Int32), ∀ (σ : Sto), ∀ (r : Int32), fX3_colourRank_L41 q0 a1 K4 v2 v3 σ = some r → VV sh l mX3_colourRank 0 0 41 [(0, .ref q0), (1, .int a1), (2, .int v2), (3, .int v3)] [] σ (0, .int r, σ) := by
  intro v2 v3 σ r h
  rw [fX3_colourRank_L41] at h
  refine kv_iinc (pc := 41) (v := v3 + 1) 3 [(3, .int (v3 + 1)), (0, .ref q0), (1, .int a1), (2, .int v2)] dX3_colourRank_41 rfl rfl (by decide) rfl ?_
  refine kv_goto (pc := 44) (tgt := 4) dX3_colourRank_44 (by decide) ?_
  refine kv_sub (pc := 4) [(0, .ref q0), (1, .int a1), (2, .int v2), (3, .int (v3 + 1))] [1, 2, 3, 0] rfl ?_
  exact hK4 v2 (v3 + 1) σ r h
set_option maxHeartbeats 4000000 in
set_option maxRecDepth 100000 in
theorem wX3_colourRank_L38 (sh : KSh) (hw : KWf sh) (l : Launch) (hst : l.stackTraces = false) (q0 : Nat) (h0 : sh q0 = .inl 3) (a1 : Int32) (K4 : Int32 → Int32 → Sto → Option Int32) (hK4 : ∀ (v2 : Int32), ∀ (v3 : Int32), ∀ (σ : Sto), ∀ (r : Int32), K4 v2 v3 σ = some r → VV sh l mX3_colourRank 0 0 4 [(0, .ref q0), (1, .int a1), (2, .int v2), (3, .int v3)] [] σ (0, .int r, σ)) : ∀ (v2 : Int32), ∀ (v3 : Int32), ∀ (σ : Sto), ∀ (r : Int32), fX3_colourRank_L38 q0 a1 K4 v2 v3 σ = some r → VV sh l mX3_colourRank 0 0 38 [(0, .ref q0), (1, .int a1), (2, .int v2), (3, .int v3)] [] σ (0, .int r, σ) := by
  intro v2 v3 σ r h
  rw [fX3_colourRank_L38] at h
  refine kv_iinc (pc := 38) (v := v2 + 1) 2 [(2, .int (v2 + 1)), (0, .ref q0), (1, .int a1), (3, .int v3)] dX3_colourRank_38 rfl rfl (by decide) rfl ?_
  refine kv_sub (pc := 41) [(0, .ref q0), (1, .int a1), (2, .int (v2 + 1)), (3, .int v3)] [1, 2, 0, 3] rfl ?_
  exact wX3_colourRank_L41 sh hw l hst q0 h0 a1 K4 hK4 (v2 + 1) v3 σ r h
set_option maxHeartbeats 4000000 in
set_option maxRecDepth 100000 in
theorem wX3_colourRank_L4 (sh : KSh) (hw : KWf sh) (l : Launch) (hst : l.stackTraces = false) (q0 : Nat) (h0 : sh q0 = .inl 3) (a1 : Int32) : ∀ (fu : Nat), ∀ (v2 : Int32), ∀ (v3 : Int32), ∀ (σ : Sto), ∀ (r : Int32), fX3_colourRank_L4 q0 a1 fu v2 v3 σ = some r → VV sh l mX3_colourRank 0 0 4 [(0, .ref q0), (1, .int a1), (2, .int v2), (3, .int v3)] [] σ (0, .int r, σ) := by
  intro fu
  induction fu with
  | zero => intro v2 v3 σ r h; rw [fX3_colourRank_L4] at h; cases h
  | succ fu ih =>
    intro v2 v3 σ r h
    rw [fX3_colourRank_L4] at h
    refine kv_iload_n (pc := 4) 3 dX3_colourRank_4 rfl rfl ?_
    refine kv_bipush (pc := 5) (v := 10) dX3_colourRank_5 (by decide) ?_
    refine kv_icmp_ge (pc := 7) (tgt := 47) dX3_colourRank_7 (by decide) h (fun h => ?_) (fun h => ?_)
    · refine kv_iload_n (pc := 47) 2 dX3_colourRank_47 rfl rfl ?_
      exact kv_iret (pc := 48) dX3_colourRank_48 rfl (by cases h; rfl) (by decide) (by decide)
    · refine kv_aload_n (pc := 10) 0 dX3_colourRank_10 rfl rfl ?_
      refine kv_iload_n (pc := 11) 3 dX3_colourRank_11 rfl rfl ?_
      refine kv_cV (pc := 12) [.int v3] (fun r1 => (0, .int r1, σ)) (fun r1 => (.int r1 :: [])) (fun r1 => σ) 15 0 0 h (fun r1 g2 => tX3_countColour sh hw l hst q0 h0 v3 σ r1 g2) dX3_colourRank_12 rfl h0 rfl yw_X3_countColour lk_X3_96 (by decide) (Nat.le_of_ble_eq_true rfl) (by decide) (fun _ => rfl) (fun _ => rfl) ⟨rfl, rfl, rfl⟩ (fun _ _ h0 => absurd rfl h0) (fun r1 g2 z3 h => ?_)
      refine kv_aload_n (pc := 15) 0 dX3_colourRank_15 rfl rfl ?_
      refine kv_iload_n (pc := 16) 1 dX3_colourRank_16 rfl rfl ?_
      refine kv_cV (pc := 17) [.int a1] (fun r4 => (0, .int r4, σ)) (fun r4 => (.int r4 :: [.int r1])) (fun r4 => σ) 20 0 0 h (fun r4 g5 => tX3_countColour sh hw l hst q0 h0 a1 σ r4 g5) dX3_colourRank_17 rfl h0 rfl yw_X3_countColour lk_X3_96 (by decide) (Nat.le_of_ble_eq_true rfl) (by decide) (fun _ => rfl) (fun _ => rfl) ⟨rfl, rfl, rfl⟩ (fun _ _ h0 => absurd rfl h0) (fun r4 g5 z6 h => ?_)
      refine kv_isub (pc := 20) dX3_colourRank_20 ?_
      refine kv_istore (pc := 21) [(4, .int (r1 - r4)), (0, .ref q0), (1, .int a1), (2, .int v2), (3, .int v3)] dX3_colourRank_21 (by decide) rfl ?_
      refine kv_iload (pc := 23) 0 dX3_colourRank_23 rfl ?_
      refine kv_if_gt (pc := 25) (tgt := 38) dX3_colourRank_25 (by decide) h (fun h => ?_) (fun h => ?_)
      · refine kv_sub (pc := 38) [(0, .ref q0), (1, .int a1), (2, .int v2), (3, .int v3)] [1, 2, 3, 4] rfl ?_
        exact wX3_colourRank_L38 sh hw l hst q0 h0 a1 (fX3_colourRank_L4 q0 a1 fu) ih v2 v3 σ r h
      · refine kv_iload (pc := 28) 0 dX3_colourRank_28 rfl ?_
        refine kv_if_ne (pc := 30) (tgt := 41) dX3_colourRank_30 (by decide) h (fun h => ?_) (fun h => ?_)
        · refine kv_sub (pc := 41) [(0, .ref q0), (1, .int a1), (2, .int v2), (3, .int v3)] [1, 2, 3, 4] rfl ?_
          exact wX3_colourRank_L41 sh hw l hst q0 h0 a1 (fX3_colourRank_L4 q0 a1 fu) ih v2 v3 σ r h
        · refine kv_iload_n (pc := 33) 4 dX3_colourRank_33 rfl rfl ?_
          refine kv_iload_n (pc := 34) 2 dX3_colourRank_34 rfl rfl ?_
          refine kv_icmp_ge (pc := 35) (tgt := 41) dX3_colourRank_35 (by decide) h (fun h => ?_) (fun h => ?_)
          · refine kv_sub (pc := 41) [(0, .ref q0), (1, .int a1), (2, .int v2), (3, .int v3)] [1, 2, 3, 4] rfl ?_
            exact wX3_colourRank_L41 sh hw l hst q0 h0 a1 (fX3_colourRank_L4 q0 a1 fu) ih v2 v3 σ r h
          · refine kv_sub (pc := 38) [(0, .ref q0), (1, .int a1), (2, .int v2), (3, .int v3)] [1, 2, 3, 4] rfl ?_
            exact wX3_colourRank_L38 sh hw l hst q0 h0 a1 (fX3_colourRank_L4 q0 a1 fu) ih v2 v3 σ r h
set_option maxHeartbeats 4000000 in
set_option maxRecDepth 100000 in
theorem tX3_colourRank (sh : KSh) (hw : KWf sh) (l : Launch) (hst : l.stackTraces = false) (q0 : Nat) (h0 : sh q0 = .inl 3) (a1 : Int32) (σ : Sto) (r : Int32) (h : fX3_colourRank q0 a1 σ = some r) : CT sh l mX3_colourRank yX3_colourRank [.ref q0, .int a1] σ (0, .int r, σ) := by
  refine kct [(0, .ref q0), (1, .int a1)] hst (by decide +kernel) rfl rfl (Nat.le_of_ble_eq_true rfl) ?_
  rw [fX3_colourRank] at h
  refine kv_iconst (pc := 0) (v := 0) dX3_colourRank_0 (by decide) ?_
  refine kv_istore_n (pc := 1) [(2, .int 0), (0, .ref q0), (1, .int a1)] dX3_colourRank_1 rfl (by decide) rfl ?_
  refine kv_iconst (pc := 2) (v := 1) dX3_colourRank_2 (by decide) ?_
  refine kv_istore_n (pc := 3) [(3, .int 1), (2, .int 0), (0, .ref q0), (1, .int a1)] dX3_colourRank_3 rfl (by decide) rfl ?_
  refine kv_sub (pc := 4) [(0, .ref q0), (1, .int a1), (2, .int 0), (3, .int 1)] [2, 3, 1, 0] rfl ?_
  exact wX3_colourRank_L4 sh hw l hst q0 h0 a1 kFU 0 1 σ r h
theorem yw_X3_colourRank : KMV yX3_colourRank mX3_colourRank RX3 1 := ⟨⟨rfl, by decide +kernel, by decide +kernel, by decide +kernel⟩, ⟨rfl, rfl⟩, kg_in 695 (by decide +kernel) (by decide +kernel), kg_in 26 (by decide +kernel) (by decide +kernel), kg_in 53 (by decide +kernel) (by decide +kernel), kg_in 696 (by decide +kernel) (by decide +kernel)⟩
theorem dX3_commonestColour_0 : decode cX3_commonestColour 0 = .ok (.iconst 1, 1) := by decide +kernel
theorem dX3_commonestColour_1 : decode cX3_commonestColour 1 = .ok (.istore_n 2, 1) := by decide +kernel
theorem dX3_commonestColour_2 : decode cX3_commonestColour 2 = .ok (.iload_n 2, 1) := by decide +kernel
theorem dX3_commonestColour_3 : decode cX3_commonestColour 3 = .ok (.bipush 10, 2) := by decide +kernel
theorem dX3_commonestColour_5 : decode cX3_commonestColour 5 = .ok (.if_icmp .ge 29, 3) := by decide +kernel
theorem dX3_commonestColour_8 : decode cX3_commonestColour 8 = .ok (.aload_n 0, 1) := by decide +kernel
theorem dX3_commonestColour_9 : decode cX3_commonestColour 9 = .ok (.getfield 21, 3) := by decide +kernel
theorem dX3_commonestColour_12 : decode cX3_commonestColour 12 = .ok (.iload_n 2, 1) := by decide +kernel
theorem dX3_commonestColour_13 : decode cX3_commonestColour 13 = .ok (.iaload, 1) := by decide +kernel
theorem dX3_commonestColour_14 : decode cX3_commonestColour 14 = .ok (.ifCond .le 14, 3) := by decide +kernel
theorem dX3_commonestColour_17 : decode cX3_commonestColour 17 = .ok (.aload_n 0, 1) := by decide +kernel
theorem dX3_commonestColour_18 : decode cX3_commonestColour 18 = .ok (.iload_n 2, 1) := by decide +kernel
theorem dX3_commonestColour_19 : decode cX3_commonestColour 19 = .ok (.invokevirtual 93, 3) := by decide +kernel
theorem dX3_commonestColour_22 : decode cX3_commonestColour 22 = .ok (.iload_n 1, 1) := by decide +kernel
theorem dX3_commonestColour_23 : decode cX3_commonestColour 23 = .ok (.if_icmp .ne 5, 3) := by decide +kernel
theorem dX3_commonestColour_26 : decode cX3_commonestColour 26 = .ok (.iload_n 2, 1) := by decide +kernel
theorem dX3_commonestColour_27 : decode cX3_commonestColour 27 = .ok (.ireturn, 1) := by decide +kernel
theorem dX3_commonestColour_28 : decode cX3_commonestColour 28 = .ok (.iinc 2 1, 3) := by decide +kernel
theorem dX3_commonestColour_31 : decode cX3_commonestColour 31 = .ok (.goto (-29), 3) := by decide +kernel
theorem dX3_commonestColour_34 : decode cX3_commonestColour 34 = .ok (.iconst (-1), 1) := by decide +kernel
theorem dX3_commonestColour_35 : decode cX3_commonestColour 35 = .ok (.ireturn, 1) := by decide +kernel
abbrev mX3_commonestColour : KM := (RX3, cX3_commonestColour, 3, (some .int), { frames := 2, cells := 0, slots := 0, locals := 45 }, 0, 0)
def fX3_commonestColour_L28 (q0 : Nat) (a1 : Int32) (K2 : Int32 → Sto → Option Int32) (v2 : Int32) (σ : Sto) : Option Int32 :=
  K2 (v2 + 1) σ
def fX3_commonestColour_L2 (q0 : Nat) (a1 : Int32) : Nat → Int32 → Sto → Option Int32
  | 0, _, _ => none
  | fu + 1, v2, σ =>
    if 10 ≤ v2 then
      some (-1)
    else
      if kin v2 10 = true then
        if (σ (q0 + 4) v2.toNatClampNeg) ≤ 0 then
          fX3_commonestColour_L28 q0 a1 (fX3_commonestColour_L2 q0 a1 fu) v2 σ
        else
          (fX3_colourRank q0 v2 σ).bind fun r1 =>
          if r1 = a1 then
            some v2
          else
            fX3_commonestColour_L28 q0 a1 (fX3_commonestColour_L2 q0 a1 fu) v2 σ
      else none
def fX3_commonestColour (q0 : Nat) (a1 : Int32) (σ : Sto) : Option Int32 :=
  fX3_commonestColour_L2 q0 a1 kFU 1 σ
set_option maxHeartbeats 4000000 in
set_option maxRecDepth 100000 in
theorem wX3_commonestColour_L28 (sh : KSh) (hw : KWf sh) (l : Launch) (hst : l.stackTraces = false) (q0 : Nat) (h0 : sh q0 = .inl 3) (a1 : Int32) (K2 : Int32 → Sto → Option Int32) (hK2 : ∀ (v2 : Int32), ∀ (σ : Sto), ∀ (r : Int32), K2 v2 σ = some r → VV sh l mX3_commonestColour 0 0 2 [(0, .ref q0), (1, .int a1), (2, .int v2)] [] σ (0, .int r, σ)) : ∀ (v2 : Int32), ∀ (σ : Sto), ∀ (r : Int32), fX3_commonestColour_L28 q0 a1 K2 v2 σ = some r → VV sh l mX3_commonestColour 0 0 28 [(0, .ref q0), (1, .int a1), (2, .int v2)] [] σ (0, .int r, σ) := by
  intro v2 σ r h
  rw [fX3_commonestColour_L28] at h
  refine kv_iinc (pc := 28) (v := v2 + 1) 2 [(2, .int (v2 + 1)), (0, .ref q0), (1, .int a1)] dX3_commonestColour_28 rfl rfl (by decide) rfl ?_
  refine kv_goto (pc := 31) (tgt := 2) dX3_commonestColour_31 (by decide) ?_
  refine kv_sub (pc := 2) [(0, .ref q0), (1, .int a1), (2, .int (v2 + 1))] [1, 2, 0] rfl ?_
  exact hK2 (v2 + 1) σ r h
set_option maxHeartbeats 4000000 in
set_option maxRecDepth 100000 in
theorem wX3_commonestColour_L2 (sh : KSh) (hw : KWf sh) (l : Launch) (hst : l.stackTraces = false) (q0 : Nat) (h0 : sh q0 = .inl 3) (a1 : Int32) : ∀ (fu : Nat), ∀ (v2 : Int32), ∀ (σ : Sto), ∀ (r : Int32), fX3_commonestColour_L2 q0 a1 fu v2 σ = some r → VV sh l mX3_commonestColour 0 0 2 [(0, .ref q0), (1, .int a1), (2, .int v2)] [] σ (0, .int r, σ) := by
  intro fu
  induction fu with
  | zero => intro v2 σ r h; rw [fX3_commonestColour_L2] at h; cases h
  | succ fu ih =>
    intro v2 σ r h
    rw [fX3_commonestColour_L2] at h
    refine kv_iload_n (pc := 2) 2 dX3_commonestColour_2 rfl rfl ?_
    refine kv_bipush (pc := 3) (v := 10) dX3_commonestColour_3 (by decide) ?_
    refine kv_icmp_ge (pc := 5) (tgt := 34) dX3_commonestColour_5 (by decide) h (fun h => ?_) (fun h => ?_)
    · refine kv_iconst (pc := 34) (v := (-1)) dX3_commonestColour_34 (by decide) ?_
      exact kv_iret (pc := 35) dX3_commonestColour_35 rfl (by cases h; rfl) (by decide) (by decide)
    · refine kv_aload_n (pc := 8) 0 dX3_commonestColour_8 rfl rfl ?_
      refine kv_getR (pc := 9) (q2 := q0 + 4) dX3_commonestColour_9 h0 rfl (i := 3) (by decide) rfl fl_X3_21 rfl rfl ?_
      refine kv_iload_n (pc := 12) 2 dX3_commonestColour_12 rfl rfl ?_
      refine kv_iald (pc := 13) dX3_commonestColour_13 (show sh (q0 + 4) = _ from kso_3_4 hw h0) h (fun h => ?_)
      refine kv_if_le (pc := 14) (tgt := 28) dX3_commonestColour_14 (by decide) h (fun h => ?_) (fun h => ?_)
      · refine kv_sub (pc := 28) [(0, .ref q0), (1, .int a1), (2, .int v2)] [0, 1, 2] rfl ?_
        exact wX3_commonestColour_L28 sh hw l hst q0 h0 a1 (fX3_commonestColour_L2 q0 a1 fu) ih v2 σ r h
      · refine kv_aload_n (pc := 17) 0 dX3_commonestColour_17 rfl rfl ?_
        refine kv_iload_n (pc := 18) 2 dX3_commonestColour_18 rfl rfl ?_
        refine kv_cV (pc := 19) [.int v2] (fun r1 => (0, .int r1, σ)) (fun r1 => (.int r1 :: [])) (fun r1 => σ) 22 0 0 h (fun r1 g2 => tX3_colourRank sh hw l hst q0 h0 v2 σ r1 g2) dX3_commonestColour_19 rfl h0 rfl yw_X3_colourRank lk_X3_93 (by decide) (Nat.le_of_ble_eq_true rfl) (by decide) (fun _ => rfl) (fun _ => rfl) ⟨rfl, rfl, rfl⟩ (fun _ _ h0 => absurd rfl h0) (fun r1 g2 z3 h => ?_)
        refine kv_iload_n (pc := 22) 1 dX3_commonestColour_22 rfl rfl ?_
        refine kv_icmp_ne (pc := 23) (tgt := 28) dX3_commonestColour_23 (by decide) h (fun h => ?_) (fun h => ?_)
        · refine kv_sub (pc := 28) [(0, .ref q0), (1, .int a1), (2, .int v2)] [0, 1, 2] rfl ?_
          exact wX3_commonestColour_L28 sh hw l hst q0 h0 a1 (fX3_commonestColour_L2 q0 a1 fu) ih v2 σ r h
        · refine kv_iload_n (pc := 26) 2 dX3_commonestColour_26 rfl rfl ?_
          exact kv_iret (pc := 27) dX3_commonestColour_27 rfl (by cases h; rfl) (by decide) (by decide)
set_option maxHeartbeats 4000000 in
set_option maxRecDepth 100000 in
theorem tX3_commonestColour (sh : KSh) (hw : KWf sh) (l : Launch) (hst : l.stackTraces = false) (q0 : Nat) (h0 : sh q0 = .inl 3) (a1 : Int32) (σ : Sto) (r : Int32) (h : fX3_commonestColour q0 a1 σ = some r) : CT sh l mX3_commonestColour yX3_commonestColour [.ref q0, .int a1] σ (0, .int r, σ) := by
  refine kct [(0, .ref q0), (1, .int a1)] hst (by decide +kernel) rfl rfl (Nat.le_of_ble_eq_true rfl) ?_
  rw [fX3_commonestColour] at h
  refine kv_iconst (pc := 0) (v := 1) dX3_commonestColour_0 (by decide) ?_
  refine kv_istore_n (pc := 1) [(2, .int 1), (0, .ref q0), (1, .int a1)] dX3_commonestColour_1 rfl (by decide) rfl ?_
  refine kv_sub (pc := 2) [(0, .ref q0), (1, .int a1), (2, .int 1)] [1, 2, 0] rfl ?_
  exact wX3_commonestColour_L2 sh hw l hst q0 h0 a1 kFU 1 σ r h
theorem yw_X3_commonestColour : KMV yX3_commonestColour mX3_commonestColour RX3 1 := ⟨⟨rfl, by decide +kernel, by decide +kernel, by decide +kernel⟩, ⟨rfl, rfl⟩, kg_in 690 (by decide +kernel) (by decide +kernel), kg_in 691 (by decide +kernel) (by decide +kernel), kg_in 53 (by decide +kernel) (by decide +kernel), kg_in 692 (by decide +kernel) (by decide +kernel)⟩
theorem dX3_forgetReached_0 : decode cX3_forgetReached 0 = .ok (.iconst 0, 1) := by decide +kernel
theorem dX3_forgetReached_1 : decode cX3_forgetReached 1 = .ok (.istore_n 1, 1) := by decide +kernel
theorem dX3_forgetReached_2 : decode cX3_forgetReached 2 = .ok (.iload_n 1, 1) := by decide +kernel
theorem dX3_forgetReached_3 : decode cX3_forgetReached 3 = .ok (.sipush 225, 3) := by decide +kernel
theorem dX3_forgetReached_6 : decode cX3_forgetReached 6 = .ok (.if_icmp .ge 16, 3) := by decide +kernel
theorem dX3_forgetReached_9 : decode cX3_forgetReached 9 = .ok (.aload_n 0, 1) := by decide +kernel
theorem dX3_forgetReached_10 : decode cX3_forgetReached 10 = .ok (.getfield 24, 3) := by decide +kernel
theorem dX3_forgetReached_13 : decode cX3_forgetReached 13 = .ok (.iload_n 1, 1) := by decide +kernel
theorem dX3_forgetReached_14 : decode cX3_forgetReached 14 = .ok (.iconst 0, 1) := by decide +kernel
theorem dX3_forgetReached_15 : decode cX3_forgetReached 15 = .ok (.bastore, 1) := by decide +kernel
theorem dX3_forgetReached_16 : decode cX3_forgetReached 16 = .ok (.iinc 1 1, 3) := by decide +kernel
theorem dX3_forgetReached_19 : decode cX3_forgetReached 19 = .ok (.goto (-17), 3) := by decide +kernel
theorem dX3_forgetReached_22 : decode cX3_forgetReached 22 = .ok (.return_, 1) := by decide +kernel
abbrev mX3_forgetReached : KM := (RX3, cX3_forgetReached, 2, none, { frames := 0, cells := 0, slots := 0, locals := 0 }, 0, 0)
def fX3_forgetReached_L2 (q0 : Nat) : Nat → Int32 → Sto → Option Sto
  | 0, _, _ => none
  | fu + 1, v1, σ =>
    if 225 ≤ v1 then
      some σ
    else
      if kin v1 225 = true then
        klet (su σ (q0 + 5) v1.toNatClampNeg 0) fun σ1 =>
        fX3_forgetReached_L2 q0 fu (v1 + 1) σ1
      else none
def fX3_forgetReached (q0 : Nat) (σ : Sto) : Option Sto :=
  fX3_forgetReached_L2 q0 kFU 0 σ
set_option maxHeartbeats 4000000 in
set_option maxRecDepth 100000 in
theorem wX3_forgetReached_L2 (sh : KSh) (hw : KWf sh) (l : Launch) (hst : l.stackTraces = false) (q0 : Nat) (h0 : sh q0 = .inl 3) : ∀ (fu : Nat), ∀ (v1 : Int32), ∀ (σ : Sto), ∀ (r : Sto), fX3_forgetReached_L2 q0 fu v1 σ = some r → VV sh l mX3_forgetReached 0 0 2 [(0, .ref q0), (1, .int v1)] [] σ (0, .int 0, r) := by
  intro fu
  induction fu with
  | zero => intro v1 σ r h; rw [fX3_forgetReached_L2] at h; cases h
  | succ fu ih =>
    intro v1 σ r h
    rw [fX3_forgetReached_L2] at h
    refine kv_iload_n (pc := 2) 1 dX3_forgetReached_2 rfl rfl ?_
    refine kv_sipush (pc := 3) (v := 225) dX3_forgetReached_3 (by decide) ?_
    refine kv_icmp_ge (pc := 6) (tgt := 22) dX3_forgetReached_6 (by decide) h (fun h => ?_) (fun h => ?_)
    · exact kv_vret (pc := 22) (v := .int 0) dX3_forgetReached_22 rfl (by cases h; rfl) (by decide) (by decide)
    · refine kv_aload_n (pc := 9) 0 dX3_forgetReached_9 rfl rfl ?_
      refine kv_getR (pc := 10) (q2 := q0 + 5) dX3_forgetReached_10 h0 rfl (i := 4) (by decide) rfl fl_X3_24 rfl rfl ?_
      refine kv_iload_n (pc := 13) 1 dX3_forgetReached_13 rfl rfl ?_
      refine kv_iconst (pc := 14) (v := 0) dX3_forgetReached_14 (by decide) ?_
      refine kv_zast (pc := 15) dX3_forgetReached_15 (show sh (q0 + 5) = _ from kso_3_5 hw h0) rfl h (fun h => ?_)
      refine kv_let h (fun σ1 h => ?_)
      refine kv_iinc (pc := 16) (v := v1 + 1) 1 [(1, .int (v1 + 1)), (0, .ref q0)] dX3_forgetReached_16 rfl rfl (by decide) rfl ?_
      refine kv_goto (pc := 19) (tgt := 2) dX3_forgetReached_19 (by decide) ?_
      refine kv_sub (pc := 2) [(0, .ref q0), (1, .int (v1 + 1))] [1, 0] rfl ?_
      exact ih (v1 + 1) σ1 r h
set_option maxHeartbeats 4000000 in
set_option maxRecDepth 100000 in
theorem tX3_forgetReached (sh : KSh) (hw : KWf sh) (l : Launch) (hst : l.stackTraces = false) (q0 : Nat) (h0 : sh q0 = .inl 3) (σ : Sto) (r : Sto) (h : fX3_forgetReached q0 σ = some r) : CT sh l mX3_forgetReached yX3_forgetReached [.ref q0] σ (0, .int 0, r) := by
  refine kct [(0, .ref q0)] hst (by decide +kernel) rfl rfl (Nat.le_of_ble_eq_true rfl) ?_
  rw [fX3_forgetReached] at h
  refine kv_iconst (pc := 0) (v := 0) dX3_forgetReached_0 (by decide) ?_
  refine kv_istore_n (pc := 1) [(1, .int 0), (0, .ref q0)] dX3_forgetReached_1 rfl (by decide) rfl ?_
  refine kv_sub (pc := 2) [(0, .ref q0), (1, .int 0)] [1, 0] rfl ?_
  exact wX3_forgetReached_L2 sh hw l hst q0 h0 kFU 0 σ r h
theorem yw_X3_forgetReached : KMV yX3_forgetReached mX3_forgetReached RX3 0 := ⟨⟨rfl, by decide +kernel, by decide +kernel, by decide +kernel⟩, ⟨rfl, rfl⟩, kg_in 1004 (by decide +kernel) (by decide +kernel), kg_in 37 (by decide +kernel) (by decide +kernel), kg_in 53 (by decide +kernel) (by decide +kernel), kg_in 1005 (by decide +kernel) (by decide +kernel)⟩
theorem dX3_reach_0 : decode cX3_reach 0 = .ok (.iload_n 1, 1) := by decide +kernel
theorem dX3_reach_1 : decode cX3_reach 1 = .ok (.invokestatic 61, 3) := by decide +kernel
theorem dX3_reach_4 : decode cX3_reach 4 = .ok (.ifCond .eq 23, 3) := by decide +kernel
theorem dX3_reach_7 : decode cX3_reach 7 = .ok (.aload_n 0, 1) := by decide +kernel
theorem dX3_reach_8 : decode cX3_reach 8 = .ok (.getfield 24, 3) := by decide +kernel
theorem dX3_reach_11 : decode cX3_reach 11 = .ok (.iload_n 1, 1) := by decide +kernel
theorem dX3_reach_12 : decode cX3_reach 12 = .ok (.baload, 1) := by decide +kernel
theorem dX3_reach_13 : decode cX3_reach 13 = .ok (.ifCond .ne 14, 3) := by decide +kernel
theorem dX3_reach_16 : decode cX3_reach 16 = .ok (.iload_n 2, 1) := by decide +kernel
theorem dX3_reach_17 : decode cX3_reach 17 = .ok (.ifCond .lt 10, 3) := by decide +kernel
theorem dX3_reach_20 : decode cX3_reach 20 = .ok (.iload_n 2, 1) := by decide +kernel
theorem dX3_reach_21 : decode cX3_reach 21 = .ok (.sipush 225, 3) := by decide +kernel
theorem dX3_reach_24 : decode cX3_reach 24 = .ok (.if_icmp .lt 5, 3) := by decide +kernel
theorem dX3_reach_27 : decode cX3_reach 27 = .ok (.iload_n 2, 1) := by decide +kernel
theorem dX3_reach_28 : decode cX3_reach 28 = .ok (.ireturn, 1) := by decide +kernel
theorem dX3_reach_29 : decode cX3_reach 29 = .ok (.aload_n 0, 1) := by decide +kernel
theorem dX3_reach_30 : decode cX3_reach 30 = .ok (.getfield 24, 3) := by decide +kernel
theorem dX3_reach_33 : decode cX3_reach 33 = .ok (.iload_n 1, 1) := by decide +kernel
theorem dX3_reach_34 : decode cX3_reach 34 = .ok (.iconst 1, 1) := by decide +kernel
theorem dX3_reach_35 : decode cX3_reach 35 = .ok (.bastore, 1) := by decide +kernel
theorem dX3_reach_36 : decode cX3_reach 36 = .ok (.aload_n 0, 1) := by decide +kernel
theorem dX3_reach_37 : decode cX3_reach 37 = .ok (.getfield 28, 3) := by decide +kernel
theorem dX3_reach_40 : decode cX3_reach 40 = .ok (.iload_n 2, 1) := by decide +kernel
theorem dX3_reach_41 : decode cX3_reach 41 = .ok (.iload_n 1, 1) := by decide +kernel
theorem dX3_reach_42 : decode cX3_reach 42 = .ok (.iastore, 1) := by decide +kernel
theorem dX3_reach_43 : decode cX3_reach 43 = .ok (.iload_n 2, 1) := by decide +kernel
theorem dX3_reach_44 : decode cX3_reach 44 = .ok (.iconst 1, 1) := by decide +kernel
theorem dX3_reach_45 : decode cX3_reach 45 = .ok (.iadd, 1) := by decide +kernel
theorem dX3_reach_46 : decode cX3_reach 46 = .ok (.ireturn, 1) := by decide +kernel
abbrev mX3_reach : KM := (RX3, cX3_reach, 3, (some .int), { frames := 1, cells := 0, slots := 0, locals := 20 }, 0, 0)
def fX3_reach (q0 : Nat) (a1 : Int32) (a2 : Int32) (σ : Sto) : Option (Int32 × Sto) :=
  if (fX1_isCell a1) = true then
    if kin a1 225 = true then
      if (σ (q0 + 5) a1.toNatClampNeg) = 0 then
        if a2 < 0 then
          some (a2, σ)
        else
          if a2 < 225 then
            if kin a1 225 = true then
              klet (su σ (q0 + 5) a1.toNatClampNeg 1) fun σ1 =>
              if kin a2 225 = true then
                klet (su σ1 (q0 + 6) a2.toNatClampNeg a1) fun σ2 =>
                some ((a2 + 1), σ2)
              else none
            else none
          else
            some (a2, σ)
      else
        some (a2, σ)
    else none
  else
    some (a2, σ)
set_option maxHeartbeats 4000000 in
set_option maxRecDepth 100000 in
theorem tX3_reach (sh : KSh) (hw : KWf sh) (l : Launch) (hst : l.stackTraces = false) (q0 : Nat) (h0 : sh q0 = .inl 3) (a1 : Int32) (a2 : Int32) (σ : Sto) (r : (Int32 × Sto)) (h : fX3_reach q0 a1 a2 σ = some r) : CT sh l mX3_reach yX3_reach [.ref q0, .int a1, .int a2] σ (0, .int r.1, r.2) := by
  refine kct [(0, .ref q0), (1, .int a1), (2, .int a2)] hst (by decide +kernel) rfl rfl (Nat.le_of_ble_eq_true rfl) ?_
  rw [fX3_reach] at h
  refine kv_iload_n (pc := 0) 1 dX3_reach_0 rfl rfl ?_
  refine kv_tS (pc := 1) (v := .int (kb (fX1_isCell a1))) [.int a1] (.int (kb (fX1_isCell a1)) :: []) 4 0 0 (tX1_isCell sh hw l hst a1 σ) dX3_reach_1 rfl yw_X1_isCell lk_X3_61 (by decide) (Nat.le_of_ble_eq_true rfl) (by decide) rfl ⟨rfl, rfl, rfl⟩ ?_
  refine kv_ifb_eq (pc := 4) (tgt := 27) dX3_reach_4 (by decide) h (fun h => ?_) (fun h => ?_)
  · refine kv_iload_n (pc := 27) 2 dX3_reach_27 rfl rfl ?_
    exact kv_iret (pc := 28) dX3_reach_28 rfl (by cases h; rfl) (by decide) (by decide)
  · refine kv_aload_n (pc := 7) 0 dX3_reach_7 rfl rfl ?_
    refine kv_getR (pc := 8) (q2 := q0 + 5) dX3_reach_8 h0 rfl (i := 4) (by decide) rfl fl_X3_24 rfl rfl ?_
    refine kv_iload_n (pc := 11) 1 dX3_reach_11 rfl rfl ?_
    refine kv_zald (pc := 12) dX3_reach_12 (show sh (q0 + 5) = _ from kso_3_5 hw h0) h (fun h => ?_)
    refine kv_if_ne (pc := 13) (tgt := 27) dX3_reach_13 (by decide) h (fun h => ?_) (fun h => ?_)
    · refine kv_iload_n (pc := 27) 2 dX3_reach_27 rfl rfl ?_
      exact kv_iret (pc := 28) dX3_reach_28 rfl (by cases h; rfl) (by decide) (by decide)
    · refine kv_iload_n (pc := 16) 2 dX3_reach_16 rfl rfl ?_
      refine kv_if_lt (pc := 17) (tgt := 27) dX3_reach_17 (by decide) h (fun h => ?_) (fun h => ?_)
      · refine kv_iload_n (pc := 27) 2 dX3_reach_27 rfl rfl ?_
        exact kv_iret (pc := 28) dX3_reach_28 rfl (by cases h; rfl) (by decide) (by decide)
      · refine kv_iload_n (pc := 20) 2 dX3_reach_20 rfl rfl ?_
        refine kv_sipush (pc := 21) (v := 225) dX3_reach_21 (by decide) ?_
        refine kv_icmp_lt (pc := 24) (tgt := 29) dX3_reach_24 (by decide) h (fun h => ?_) (fun h => ?_)
        · refine kv_aload_n (pc := 29) 0 dX3_reach_29 rfl rfl ?_
          refine kv_getR (pc := 30) (q2 := q0 + 5) dX3_reach_30 h0 rfl (i := 4) (by decide) rfl fl_X3_24 rfl rfl ?_
          refine kv_iload_n (pc := 33) 1 dX3_reach_33 rfl rfl ?_
          refine kv_iconst (pc := 34) (v := 1) dX3_reach_34 (by decide) ?_
          refine kv_zast (pc := 35) dX3_reach_35 (show sh (q0 + 5) = _ from kso_3_5 hw h0) rfl h (fun h => ?_)
          refine kv_let h (fun σ1 h => ?_)
          refine kv_aload_n (pc := 36) 0 dX3_reach_36 rfl rfl ?_
          refine kv_getR (pc := 37) (q2 := q0 + 6) dX3_reach_37 h0 rfl (i := 5) (by decide) rfl fl_X3_28 rfl rfl ?_
          refine kv_iload_n (pc := 40) 2 dX3_reach_40 rfl rfl ?_
          refine kv_iload_n (pc := 41) 1 dX3_reach_41 rfl rfl ?_
          refine kv_iast (pc := 42) dX3_reach_42 (show sh (q0 + 6) = _ from kso_3_6 hw h0) h (fun h => ?_)
          refine kv_let h (fun σ2 h => ?_)
          refine kv_iload_n (pc := 43) 2 dX3_reach_43 rfl rfl ?_
          refine kv_iconst (pc := 44) (v := 1) dX3_reach_44 (by decide) ?_
          refine kv_iadd (pc := 45) dX3_reach_45 ?_
          exact kv_iret (pc := 46) dX3_reach_46 rfl (by cases h; rfl) (by decide) (by decide)
        · refine kv_iload_n (pc := 27) 2 dX3_reach_27 rfl rfl ?_
          exact kv_iret (pc := 28) dX3_reach_28 rfl (by cases h; rfl) (by decide) (by decide)
theorem yw_X3_reach : KMV yX3_reach mX3_reach RX3 2 := ⟨⟨rfl, by decide +kernel, by decide +kernel, by decide +kernel⟩, ⟨rfl, rfl⟩, kg_in 1012 (by decide +kernel) (by decide +kernel), kg_in 39 (by decide +kernel) (by decide +kernel), kg_in 53 (by decide +kernel) (by decide +kernel), kg_in 1013 (by decide +kernel) (by decide +kernel)⟩
theorem dX3_spread_0 : decode cX3_spread 0 = .ok (.aload_n 0, 1) := by decide +kernel
theorem dX3_spread_1 : decode cX3_spread 1 = .ok (.iload_n 2, 1) := by decide +kernel
theorem dX3_spread_2 : decode cX3_spread 2 = .ok (.invokevirtual 106, 3) := by decide +kernel
theorem dX3_spread_5 : decode cX3_spread 5 = .ok (.istore_n 3, 1) := by decide +kernel
theorem dX3_spread_6 : decode cX3_spread 6 = .ok (.aload_n 0, 1) := by decide +kernel
theorem dX3_spread_7 : decode cX3_spread 7 = .ok (.iload_n 2, 1) := by decide +kernel
theorem dX3_spread_8 : decode cX3_spread 8 = .ok (.iconst 0, 1) := by decide +kernel
theorem dX3_spread_9 : decode cX3_spread 9 = .ok (.invokevirtual 109, 3) := by decide +kernel
theorem dX3_spread_12 : decode cX3_spread 12 = .ok (.istore 4, 2) := by decide +kernel
theorem dX3_spread_14 : decode cX3_spread 14 = .ok (.iconst 0, 1) := by decide +kernel
theorem dX3_spread_15 : decode cX3_spread 15 = .ok (.istore 5, 2) := by decide +kernel
theorem dX3_spread_17 : decode cX3_spread 17 = .ok (.iload 5, 2) := by decide +kernel
theorem dX3_spread_19 : decode cX3_spread 19 = .ok (.iload 4, 2) := by decide +kernel
theorem dX3_spread_21 : decode cX3_spread 21 = .ok (.if_icmp .ge 70, 3) := by decide +kernel
theorem dX3_spread_24 : decode cX3_spread 24 = .ok (.iload 5, 2) := by decide +kernel
theorem dX3_spread_26 : decode cX3_spread 26 = .ok (.sipush 225, 3) := by decide +kernel
theorem dX3_spread_29 : decode cX3_spread 29 = .ok (.if_icmp .ge 62, 3) := by decide +kernel
theorem dX3_spread_32 : decode cX3_spread 32 = .ok (.iconst 0, 1) := by decide +kernel
theorem dX3_spread_33 : decode cX3_spread 33 = .ok (.istore 6, 2) := by decide +kernel
theorem dX3_spread_35 : decode cX3_spread 35 = .ok (.iload 6, 2) := by decide +kernel
theorem dX3_spread_37 : decode cX3_spread 37 = .ok (.aload_n 1, 1) := by decide +kernel
theorem dX3_spread_38 : decode cX3_spread 38 = .ok (.invokevirtual 112, 3) := by decide +kernel
theorem dX3_spread_41 : decode cX3_spread 41 = .ok (.if_icmp .ge 44, 3) := by decide +kernel
theorem dX3_spread_44 : decode cX3_spread 44 = .ok (.aload_n 1, 1) := by decide +kernel
theorem dX3_spread_45 : decode cX3_spread 45 = .ok (.aload_n 0, 1) := by decide +kernel
theorem dX3_spread_46 : decode cX3_spread 46 = .ok (.getfield 28, 3) := by decide +kernel
theorem dX3_spread_49 : decode cX3_spread 49 = .ok (.iload 5, 2) := by decide +kernel
theorem dX3_spread_51 : decode cX3_spread 51 = .ok (.iaload, 1) := by decide +kernel
theorem dX3_spread_52 : decode cX3_spread 52 = .ok (.iload 6, 2) := by decide +kernel
theorem dX3_spread_54 : decode cX3_spread 54 = .ok (.invokevirtual 116, 3) := by decide +kernel
theorem dX3_spread_57 : decode cX3_spread 57 = .ok (.istore 7, 2) := by decide +kernel
theorem dX3_spread_59 : decode cX3_spread 59 = .ok (.aload_n 0, 1) := by decide +kernel
theorem dX3_spread_60 : decode cX3_spread 60 = .ok (.iload 7, 2) := by decide +kernel
theorem dX3_spread_62 : decode cX3_spread 62 = .ok (.invokevirtual 106, 3) := by decide +kernel
theorem dX3_spread_65 : decode cX3_spread 65 = .ok (.iload_n 3, 1) := by decide +kernel
theorem dX3_spread_66 : decode cX3_spread 66 = .ok (.if_icmp .ne 13, 3) := by decide +kernel
theorem dX3_spread_69 : decode cX3_spread 69 = .ok (.aload_n 0, 1) := by decide +kernel
theorem dX3_spread_70 : decode cX3_spread 70 = .ok (.iload 7, 2) := by decide +kernel
theorem dX3_spread_72 : decode cX3_spread 72 = .ok (.iload 4, 2) := by decide +kernel
theorem dX3_spread_74 : decode cX3_spread 74 = .ok (.invokevirtual 109, 3) := by decide +kernel
theorem dX3_spread_77 : decode cX3_spread 77 = .ok (.istore 4, 2) := by decide +kernel
theorem dX3_spread_79 : decode cX3_spread 79 = .ok (.iinc 6 1, 3) := by decide +kernel
theorem dX3_spread_82 : decode cX3_spread 82 = .ok (.goto (-47), 3) := by decide +kernel
theorem dX3_spread_85 : decode cX3_spread 85 = .ok (.iinc 5 1, 3) := by decide +kernel
theorem dX3_spread_88 : decode cX3_spread 88 = .ok (.goto (-71), 3) := by decide +kernel
theorem dX3_spread_91 : decode cX3_spread 91 = .ok (.iload 4, 2) := by decide +kernel
theorem dX3_spread_93 : decode cX3_spread 93 = .ok (.ireturn, 1) := by decide +kernel
abbrev mX3_spread : KM := (RX3, cX3_spread, 8, (some .int), { frames := 3, cells := 0, slots := 0, locals := 67 }, 0, 0)
def fX3_spread_L79 (q0 : Nat) (q1 : Nat) (a2 : Int32) (K17 : Int32 → Int32 → Int32 → Sto → Option (Int32 × Sto)) (K35 : Int32 → Int32 → Int32 → Int32 → Sto → Option (Int32 × Sto)) (v3 : Int32) (v4 : Int32) (v5 : Int32) (v6 : Int32) (σ : Sto) : Option (Int32 × Sto) :=
  K35 v3 v4 v5 (v6 + 1) σ
def fX3_spread_L35 (q0 : Nat) (q1 : Nat) (a2 : Int32) (K17 : Int32 → Int32 → Int32 → Sto → Option (Int32 × Sto)) : Nat → Int32 → Int32 → Int32 → Int32 → Sto → Option (Int32 × Sto)
  | 0, _, _, _, _, _ => none
  | fu + 1, v3, v4, v5, v6, σ =>
    if (fX1_directions q1 σ) ≤ v6 then
      K17 v3 v4 (v5 + 1) σ
    else
      if kin v5 225 = true then
        (fX1_pictureNeighbour q1 (σ (q0 + 6) v5.toNatClampNeg) v6 σ).bind fun r7 =>
        (fX3_colourOf q0 r7 σ).bind fun r10 =>
        if r10 = v3 then
          (fX3_reach q0 r7 v4 σ).bind fun r13 =>
          fX3_spread_L79 q0 q1 a2 K17 (fX3_spread_L35 q0 q1 a2 K17 fu) v3 r13.1 v5 v6 r13.2
        else
          fX3_spread_L79 q0 q1 a2 K17 (fX3_spread_L35 q0 q1 a2 K17 fu) v3 v4 v5 v6 σ
      else none
def fX3_spread_L17 (q0 : Nat) (q1 : Nat) (a2 : Int32) : Nat → Int32 → Int32 → Int32 → Sto → Option (Int32 × Sto)
  | 0, _, _, _, _ => none
  | fu + 1, v3, v4, v5, σ =>
    if v4 ≤ v5 then
      some (v4, σ)
    else
      if 225 ≤ v5 then
        some (v4, σ)
      else
        fX3_spread_L35 q0 q1 a2 (fX3_spread_L17 q0 q1 a2 fu) kFU v3 v4 v5 0 σ
def fX3_spread (q0 : Nat) (q1 : Nat) (a2 : Int32) (σ : Sto) : Option (Int32 × Sto) :=
  (fX3_colourOf q0 a2 σ).bind fun r1 =>
  (fX3_reach q0 a2 0 σ).bind fun r4 =>
  fX3_spread_L17 q0 q1 a2 kFU r1 r4.1 0 r4.2
set_option maxHeartbeats 4000000 in
set_option maxRecDepth 100000 in
theorem wX3_spread_L79 (sh : KSh) (hw : KWf sh) (l : Launch) (hst : l.stackTraces = false) (q0 : Nat) (h0 : sh q0 = .inl 3) (q1 : Nat) (h1 : sh q1 = .inl 1) (a2 : Int32) (K17 : Int32 → Int32 → Int32 → Sto → Option (Int32 × Sto)) (hK17 : ∀ (v3 : Int32), ∀ (v4 : Int32), ∀ (v5 : Int32), ∀ (σ : Sto), ∀ (r : (Int32 × Sto)), K17 v3 v4 v5 σ = some r → VV sh l mX3_spread 0 0 17 [(0, .ref q0), (1, .ref q1), (3, .int v3), (4, .int v4), (5, .int v5)] [] σ (0, .int r.1, r.2)) (K35 : Int32 → Int32 → Int32 → Int32 → Sto → Option (Int32 × Sto)) (hK35 : ∀ (v3 : Int32), ∀ (v4 : Int32), ∀ (v5 : Int32), ∀ (v6 : Int32), ∀ (σ : Sto), ∀ (r : (Int32 × Sto)), K35 v3 v4 v5 v6 σ = some r → VV sh l mX3_spread 0 0 35 [(0, .ref q0), (1, .ref q1), (3, .int v3), (4, .int v4), (5, .int v5), (6, .int v6)] [] σ (0, .int r.1, r.2)) : ∀ (v3 : Int32), ∀ (v4 : Int32), ∀ (v5 : Int32), ∀ (v6 : Int32), ∀ (σ : Sto), ∀ (r : (Int32 × Sto)), fX3_spread_L79 q0 q1 a2 K17 K35 v3 v4 v5 v6 σ = some r → VV sh l mX3_spread 0 0 79 [(0, .ref q0), (1, .ref q1), (3, .int v3), (4, .int v4), (5, .int v5), (6, .int v6)] [] σ (0, .int r.1, r.2) := by
  intro v3 v4 v5 v6 σ r h
  rw [fX3_spread_L79] at h
  refine kv_iinc (pc := 79) (v := v6 + 1) 5 [(6, .int (v6 + 1)), (0, .ref q0), (1, .ref q1), (3, .int v3), (4, .int v4), (5, .int v5)] dX3_spread_79 rfl rfl (by decide) rfl ?_
  refine kv_goto (pc := 82) (tgt := 35) dX3_spread_82 (by decide) ?_
  refine kv_sub (pc := 35) [(0, .ref q0), (1, .ref q1), (3, .int v3), (4, .int v4), (5, .int v5), (6, .int (v6 + 1))] [1, 2, 3, 4, 5, 0] rfl ?_
  exact hK35 v3 v4 v5 (v6 + 1) σ r h
set_option maxHeartbeats 4000000 in
set_option maxRecDepth 100000 in
theorem wX3_spread_L35 (sh : KSh) (hw : KWf sh) (l : Launch) (hst : l.stackTraces = false) (q0 : Nat) (h0 : sh q0 = .inl 3) (q1 : Nat) (h1 : sh q1 = .inl 1) (a2 : Int32) (K17 : Int32 → Int32 → Int32 → Sto → Option (Int32 × Sto)) (hK17 : ∀ (v3 : Int32), ∀ (v4 : Int32), ∀ (v5 : Int32), ∀ (σ : Sto), ∀ (r : (Int32 × Sto)), K17 v3 v4 v5 σ = some r → VV sh l mX3_spread 0 0 17 [(0, .ref q0), (1, .ref q1), (3, .int v3), (4, .int v4), (5, .int v5)] [] σ (0, .int r.1, r.2)) : ∀ (fu : Nat), ∀ (v3 : Int32), ∀ (v4 : Int32), ∀ (v5 : Int32), ∀ (v6 : Int32), ∀ (σ : Sto), ∀ (r : (Int32 × Sto)), fX3_spread_L35 q0 q1 a2 K17 fu v3 v4 v5 v6 σ = some r → VV sh l mX3_spread 0 0 35 [(0, .ref q0), (1, .ref q1), (3, .int v3), (4, .int v4), (5, .int v5), (6, .int v6)] [] σ (0, .int r.1, r.2) := by
  intro fu
  induction fu with
  | zero => intro v3 v4 v5 v6 σ r h; rw [fX3_spread_L35] at h; cases h
  | succ fu ih =>
    intro v3 v4 v5 v6 σ r h
    rw [fX3_spread_L35] at h
    refine kv_iload (pc := 35) 5 dX3_spread_35 rfl ?_
    refine kv_aload_n (pc := 37) 1 dX3_spread_37 rfl rfl ?_
    refine kv_tV (pc := 38) (v := .int (fX1_directions q1 σ)) [] (.int (fX1_directions q1 σ) :: [.int v6]) 41 0 0 (tX1_directions sh hw l hst q1 h1 σ) dX3_spread_38 rfl h1 rfl yw_X1_directions lk_X3_112 (by decide) (Nat.le_of_ble_eq_true rfl) (by decide) rfl ⟨rfl, rfl, rfl⟩ ?_
    refine kv_icmp_ge (pc := 41) (tgt := 85) dX3_spread_41 (by decide) h (fun h => ?_) (fun h => ?_)
    · refine kv_iinc (pc := 85) (v := v5 + 1) 4 [(5, .int (v5 + 1)), (0, .ref q0), (1, .ref q1), (3, .int v3), (4, .int v4), (6, .int v6)] dX3_spread_85 rfl rfl (by decide) rfl ?_
      refine kv_goto (pc := 88) (tgt := 17) dX3_spread_88 (by decide) ?_
      refine kv_sub (pc := 17) [(0, .ref q0), (1, .ref q1), (3, .int v3), (4, .int v4), (5, .int (v5 + 1))] [1, 2, 3, 4, 0] rfl ?_
      exact hK17 v3 v4 (v5 + 1) σ r h
    · refine kv_aload_n (pc := 44) 1 dX3_spread_44 rfl rfl ?_
      refine kv_aload_n (pc := 45) 0 dX3_spread_45 rfl rfl ?_
      refine kv_getR (pc := 46) (q2 := q0 + 6) dX3_spread_46 h0 rfl (i := 5) (by decide) rfl fl_X3_28 rfl rfl ?_
      refine kv_iload (pc := 49) 4 dX3_spread_49 rfl ?_
      refine kv_iald (pc := 51) dX3_spread_51 (show sh (q0 + 6) = _ from kso_3_6 hw h0) h (fun h => ?_)
      refine kv_iload (pc := 52) 5 dX3_spread_52 rfl ?_
      refine kv_cV (pc := 54) [.int (σ (q0 + 6) v5.toNatClampNeg), .int v6] (fun r7 => (0, .int r7, σ)) (fun r7 => (.int r7 :: [])) (fun r7 => σ) 57 0 0 h (fun r7 g8 => tX1_pictureNeighbour sh hw l hst q1 h1 (σ (q0 + 6) v5.toNatClampNeg) v6 σ r7 g8) dX3_spread_54 rfl h1 rfl yw_X1_pictureNeighbour lk_X3_116 (by decide) (Nat.le_of_ble_eq_true rfl) (by decide) (fun _ => rfl) (fun _ => rfl) ⟨rfl, rfl, rfl⟩ (fun _ _ h0 => absurd rfl h0) (fun r7 g8 z9 h => ?_)
      refine kv_istore (pc := 57) [(7, .int r7), (0, .ref q0), (1, .ref q1), (3, .int v3), (4, .int v4), (5, .int v5), (6, .int v6)] dX3_spread_57 (by decide) rfl ?_
      refine kv_aload_n (pc := 59) 1 dX3_spread_59 rfl rfl ?_
      refine kv_iload (pc := 60) 0 dX3_spread_60 rfl ?_
      refine kv_cV (pc := 62) [.int r7] (fun r10 => (0, .int r10, σ)) (fun r10 => (.int r10 :: [])) (fun r10 => σ) 65 0 0 h (fun r10 g11 => tX3_colourOf sh hw l hst q0 h0 r7 σ r10 g11) dX3_spread_62 rfl h0 rfl yw_X3_colourOf lk_X3_106 (by decide) (Nat.le_of_ble_eq_true rfl) (by decide) (fun _ => rfl) (fun _ => rfl) ⟨rfl, rfl, rfl⟩ (fun _ _ h0 => absurd rfl h0) (fun r10 g11 z12 h => ?_)
      refine kv_iload_n (pc := 65) 3 dX3_spread_65 rfl rfl ?_
      refine kv_icmp_ne (pc := 66) (tgt := 79) dX3_spread_66 (by decide) h (fun h => ?_) (fun h => ?_)
      · refine kv_sub (pc := 79) [(0, .ref q0), (1, .ref q1), (3, .int v3), (4, .int v4), (5, .int v5), (6, .int v6)] [1, 2, 3, 4, 5, 6] rfl ?_
        exact wX3_spread_L79 sh hw l hst q0 h0 q1 h1 a2 K17 hK17 (fX3_spread_L35 q0 q1 a2 K17 fu) ih v3 v4 v5 v6 σ r h
      · refine kv_aload_n (pc := 69) 1 dX3_spread_69 rfl rfl ?_
        refine kv_iload (pc := 70) 0 dX3_spread_70 rfl ?_
        refine kv_iload (pc := 72) 4 dX3_spread_72 rfl ?_
        refine kv_cV (pc := 74) [.int r7, .int v4] (fun r13 => (0, .int r13.1, r13.2)) (fun r13 => (.int r13.1 :: [])) (fun r13 => r13.2) 77 0 0 h (fun r13 g14 => tX3_reach sh hw l hst q0 h0 r7 v4 σ r13 g14) dX3_spread_74 rfl h0 rfl yw_X3_reach lk_X3_109 (by decide) (Nat.le_of_ble_eq_true rfl) (by decide) (fun _ => rfl) (fun _ => rfl) ⟨rfl, rfl, rfl⟩ (fun _ _ h0 => absurd rfl h0) (fun r13 g14 z15 h => ?_)
        refine kv_istore (pc := 77) [(4, .int r13.1), (7, .int r7), (0, .ref q0), (1, .ref q1), (3, .int v3), (5, .int v5), (6, .int v6)] dX3_spread_77 (by decide) rfl ?_
        refine kv_sub (pc := 79) [(0, .ref q0), (1, .ref q1), (3, .int v3), (4, .int r13.1), (5, .int v5), (6, .int v6)] [2, 3, 4, 0, 5, 6] rfl ?_
        exact wX3_spread_L79 sh hw l hst q0 h0 q1 h1 a2 K17 hK17 (fX3_spread_L35 q0 q1 a2 K17 fu) ih v3 r13.1 v5 v6 r13.2 r h
set_option maxHeartbeats 4000000 in
set_option maxRecDepth 100000 in
theorem wX3_spread_L17 (sh : KSh) (hw : KWf sh) (l : Launch) (hst : l.stackTraces = false) (q0 : Nat) (h0 : sh q0 = .inl 3) (q1 : Nat) (h1 : sh q1 = .inl 1) (a2 : Int32) : ∀ (fu : Nat), ∀ (v3 : Int32), ∀ (v4 : Int32), ∀ (v5 : Int32), ∀ (σ : Sto), ∀ (r : (Int32 × Sto)), fX3_spread_L17 q0 q1 a2 fu v3 v4 v5 σ = some r → VV sh l mX3_spread 0 0 17 [(0, .ref q0), (1, .ref q1), (3, .int v3), (4, .int v4), (5, .int v5)] [] σ (0, .int r.1, r.2) := by
  intro fu
  induction fu with
  | zero => intro v3 v4 v5 σ r h; rw [fX3_spread_L17] at h; cases h
  | succ fu ih =>
    intro v3 v4 v5 σ r h
    rw [fX3_spread_L17] at h
    refine kv_iload (pc := 17) 4 dX3_spread_17 rfl ?_
    refine kv_iload (pc := 19) 3 dX3_spread_19 rfl ?_
    refine kv_icmp_ge (pc := 21) (tgt := 91) dX3_spread_21 (by decide) h (fun h => ?_) (fun h => ?_)
    · refine kv_iload (pc := 91) 3 dX3_spread_91 rfl ?_
      exact kv_iret (pc := 93) dX3_spread_93 rfl (by cases h; rfl) (by decide) (by decide)
    · refine kv_iload (pc := 24) 4 dX3_spread_24 rfl ?_
      refine kv_sipush (pc := 26) (v := 225) dX3_spread_26 (by decide) ?_
      refine kv_icmp_ge (pc := 29) (tgt := 91) dX3_spread_29 (by decide) h (fun h => ?_) (fun h => ?_)
      · refine kv_iload (pc := 91) 3 dX3_spread_91 rfl ?_
        exact kv_iret (pc := 93) dX3_spread_93 rfl (by cases h; rfl) (by decide) (by decide)
      · refine kv_iconst (pc := 32) (v := 0) dX3_spread_32 (by decide) ?_
        refine kv_istore (pc := 33) [(6, .int 0), (0, .ref q0), (1, .ref q1), (3, .int v3), (4, .int v4), (5, .int v5)] dX3_spread_33 (by decide) rfl ?_
        refine kv_sub (pc := 35) [(0, .ref q0), (1, .ref q1), (3, .int v3), (4, .int v4), (5, .int v5), (6, .int 0)] [1, 2, 3, 4, 5, 0] rfl ?_
        exact wX3_spread_L35 sh hw l hst q0 h0 q1 h1 a2 (fX3_spread_L17 q0 q1 a2 fu) ih kFU v3 v4 v5 0 σ r h
set_option maxHeartbeats 4000000 in
set_option maxRecDepth 100000 in
theorem tX3_spread (sh : KSh) (hw : KWf sh) (l : Launch) (hst : l.stackTraces = false) (q0 : Nat) (h0 : sh q0 = .inl 3) (q1 : Nat) (h1 : sh q1 = .inl 1) (a2 : Int32) (σ : Sto) (r : (Int32 × Sto)) (h : fX3_spread q0 q1 a2 σ = some r) : CT sh l mX3_spread yX3_spread [.ref q0, .ref q1, .int a2] σ (0, .int r.1, r.2) := by
  refine kct [(0, .ref q0), (1, .ref q1), (2, .int a2)] hst (by decide +kernel) rfl rfl (Nat.le_of_ble_eq_true rfl) ?_
  rw [fX3_spread] at h
  refine kv_aload_n (pc := 0) 0 dX3_spread_0 rfl rfl ?_
  refine kv_iload_n (pc := 1) 2 dX3_spread_1 rfl rfl ?_
  refine kv_cV (pc := 2) [.int a2] (fun r1 => (0, .int r1, σ)) (fun r1 => (.int r1 :: [])) (fun r1 => σ) 5 0 0 h (fun r1 g2 => tX3_colourOf sh hw l hst q0 h0 a2 σ r1 g2) dX3_spread_2 rfl h0 rfl yw_X3_colourOf lk_X3_106 (by decide) (Nat.le_of_ble_eq_true rfl) (by decide) (fun _ => rfl) (fun _ => rfl) ⟨rfl, rfl, rfl⟩ (fun _ _ h0 => absurd rfl h0) (fun r1 g2 z3 h => ?_)
  refine kv_istore_n (pc := 5) [(3, .int r1), (0, .ref q0), (1, .ref q1), (2, .int a2)] dX3_spread_5 rfl (by decide) rfl ?_
  refine kv_aload_n (pc := 6) 1 dX3_spread_6 rfl rfl ?_
  refine kv_iload_n (pc := 7) 3 dX3_spread_7 rfl rfl ?_
  refine kv_iconst (pc := 8) (v := 0) dX3_spread_8 (by decide) ?_
  refine kv_cV (pc := 9) [.int a2, .int 0] (fun r4 => (0, .int r4.1, r4.2)) (fun r4 => (.int r4.1 :: [])) (fun r4 => r4.2) 12 0 0 h (fun r4 g5 => tX3_reach sh hw l hst q0 h0 a2 0 σ r4 g5) dX3_spread_9 rfl h0 rfl yw_X3_reach lk_X3_109 (by decide) (Nat.le_of_ble_eq_true rfl) (by decide) (fun _ => rfl) (fun _ => rfl) ⟨rfl, rfl, rfl⟩ (fun _ _ h0 => absurd rfl h0) (fun r4 g5 z6 h => ?_)
  refine kv_istore (pc := 12) [(4, .int r4.1), (3, .int r1), (0, .ref q0), (1, .ref q1), (2, .int a2)] dX3_spread_12 (by decide) rfl ?_
  refine kv_iconst (pc := 14) (v := 0) dX3_spread_14 (by decide) ?_
  refine kv_istore (pc := 15) [(5, .int 0), (4, .int r4.1), (3, .int r1), (0, .ref q0), (1, .ref q1), (2, .int a2)] dX3_spread_15 (by decide) rfl ?_
  refine kv_sub (pc := 17) [(0, .ref q0), (1, .ref q1), (3, .int r1), (4, .int r4.1), (5, .int 0)] [3, 4, 2, 1, 0] rfl ?_
  exact wX3_spread_L17 sh hw l hst q0 h0 q1 h1 a2 kFU r1 r4.1 0 r4.2 r h
theorem yw_X3_spread : KMV yX3_spread mX3_spread RX3 2 := ⟨⟨rfl, by decide +kernel, by decide +kernel, by decide +kernel⟩, ⟨rfl, rfl⟩, kg_in 1008 (by decide +kernel) (by decide +kernel), kg_in 38 (by decide +kernel) (by decide +kernel), kg_in 53 (by decide +kernel) (by decide +kernel), kg_in 1009 (by decide +kernel) (by decide +kernel)⟩
theorem dX3_countRegions_0 : decode cX3_countRegions 0 = .ok (.aload_n 0, 1) := by decide +kernel
theorem dX3_countRegions_1 : decode cX3_countRegions 1 = .ok (.invokevirtual 99, 3) := by decide +kernel
theorem dX3_countRegions_4 : decode cX3_countRegions 4 = .ok (.iconst 0, 1) := by decide +kernel
theorem dX3_countRegions_5 : decode cX3_countRegions 5 = .ok (.istore_n 3, 1) := by decide +kernel
theorem dX3_countRegions_6 : decode cX3_countRegions 6 = .ok (.iconst 0, 1) := by decide +kernel
theorem dX3_countRegions_7 : decode cX3_countRegions 7 = .ok (.istore 4, 2) := by decide +kernel
theorem dX3_countRegions_9 : decode cX3_countRegions 9 = .ok (.iload 4, 2) := by decide +kernel
theorem dX3_countRegions_11 : decode cX3_countRegions 11 = .ok (.sipush 225, 3) := by decide +kernel
theorem dX3_countRegions_14 : decode cX3_countRegions 14 = .ok (.if_icmp .ge 75, 3) := by decide +kernel
theorem dX3_countRegions_17 : decode cX3_countRegions 17 = .ok (.iload_n 2, 1) := by decide +kernel
theorem dX3_countRegions_18 : decode cX3_countRegions 18 = .ok (.ifCond .ne 21, 3) := by decide +kernel
theorem dX3_countRegions_21 : decode cX3_countRegions 21 = .ok (.aload_n 0, 1) := by decide +kernel
theorem dX3_countRegions_22 : decode cX3_countRegions 22 = .ok (.getfield 18, 3) := by decide +kernel
theorem dX3_countRegions_25 : decode cX3_countRegions 25 = .ok (.iload 4, 2) := by decide +kernel
theorem dX3_countRegions_27 : decode cX3_countRegions 27 = .ok (.iaload, 1) := by decide +kernel
theorem dX3_countRegions_28 : decode cX3_countRegions 28 = .ok (.ifCond .le 7, 3) := by decide +kernel
theorem dX3_countRegions_31 : decode cX3_countRegions 31 = .ok (.iconst 1, 1) := by decide +kernel
theorem dX3_countRegions_32 : decode cX3_countRegions 32 = .ok (.goto 23, 3) := by decide +kernel
theorem dX3_countRegions_35 : decode cX3_countRegions 35 = .ok (.iconst 0, 1) := by decide +kernel
theorem dX3_countRegions_36 : decode cX3_countRegions 36 = .ok (.goto 19, 3) := by decide +kernel
theorem dX3_countRegions_39 : decode cX3_countRegions 39 = .ok (.aload_n 0, 1) := by decide +kernel
theorem dX3_countRegions_40 : decode cX3_countRegions 40 = .ok (.getfield 18, 3) := by decide +kernel
theorem dX3_countRegions_43 : decode cX3_countRegions 43 = .ok (.iload 4, 2) := by decide +kernel
theorem dX3_countRegions_45 : decode cX3_countRegions 45 = .ok (.iaload, 1) := by decide +kernel
theorem dX3_countRegions_46 : decode cX3_countRegions 46 = .ok (.iload_n 2, 1) := by decide +kernel
theorem dX3_countRegions_47 : decode cX3_countRegions 47 = .ok (.if_icmp .ne 7, 3) := by decide +kernel
theorem dX3_countRegions_50 : decode cX3_countRegions 50 = .ok (.iconst 1, 1) := by decide +kernel
theorem dX3_countRegions_51 : decode cX3_countRegions 51 = .ok (.goto 4, 3) := by decide +kernel
theorem dX3_countRegions_54 : decode cX3_countRegions 54 = .ok (.iconst 0, 1) := by decide +kernel
theorem dX3_countRegions_55 : decode cX3_countRegions 55 = .ok (.istore 5, 2) := by decide +kernel
theorem dX3_countRegions_57 : decode cX3_countRegions 57 = .ok (.iload 5, 2) := by decide +kernel
theorem dX3_countRegions_59 : decode cX3_countRegions 59 = .ok (.ifCond .eq 24, 3) := by decide +kernel
theorem dX3_countRegions_62 : decode cX3_countRegions 62 = .ok (.aload_n 0, 1) := by decide +kernel
theorem dX3_countRegions_63 : decode cX3_countRegions 63 = .ok (.getfield 24, 3) := by decide +kernel
theorem dX3_countRegions_66 : decode cX3_countRegions 66 = .ok (.iload 4, 2) := by decide +kernel
theorem dX3_countRegions_68 : decode cX3_countRegions 68 = .ok (.baload, 1) := by decide +kernel
theorem dX3_countRegions_69 : decode cX3_countRegions 69 = .ok (.ifCond .ne 14, 3) := by decide +kernel
theorem dX3_countRegions_72 : decode cX3_countRegions 72 = .ok (.aload_n 0, 1) := by decide +kernel
theorem dX3_countRegions_73 : decode cX3_countRegions 73 = .ok (.aload_n 1, 1) := by decide +kernel
theorem dX3_countRegions_74 : decode cX3_countRegions 74 = .ok (.iload 4, 2) := by decide +kernel
theorem dX3_countRegions_76 : decode cX3_countRegions 76 = .ok (.invokevirtual 102, 3) := by decide +kernel
theorem dX3_countRegions_79 : decode cX3_countRegions 79 = .ok (.pop, 1) := by decide +kernel
theorem dX3_countRegions_80 : decode cX3_countRegions 80 = .ok (.iinc 3 1, 3) := by decide +kernel
theorem dX3_countRegions_83 : decode cX3_countRegions 83 = .ok (.iinc 4 1, 3) := by decide +kernel
theorem dX3_countRegions_86 : decode cX3_countRegions 86 = .ok (.goto (-77), 3) := by decide +kernel
theorem dX3_countRegions_89 : decode cX3_countRegions 89 = .ok (.iload_n 3, 1) := by decide +kernel
theorem dX3_countRegions_90 : decode cX3_countRegions 90 = .ok (.ireturn, 1) := by decide +kernel
abbrev mX3_countRegions : KM := (RX3, cX3_countRegions, 6, (some .int), { frames := 4, cells := 0, slots := 0, locals := 94 }, 0, 0)
def fX3_countRegions_L83 (q0 : Nat) (q1 : Nat) (a2 : Int32) (K9 : Int32 → Int32 → Sto → Option (Int32 × Sto)) (v3 : Int32) (v4 : Int32) (σ : Sto) : Option (Int32 × Sto) :=
  K9 v3 (v4 + 1) σ
def fX3_countRegions_L55 (q0 : Nat) (q1 : Nat) (a2 : Int32) (K9 : Int32 → Int32 → Sto → Option (Int32 × Sto)) (v3 : Int32) (v4 : Int32) (s0 : Int32) (σ : Sto) : Option (Int32 × Sto) :=
  if s0 = 0 then
    fX3_countRegions_L83 q0 q1 a2 K9 v3 v4 σ
  else
    if kin v4 225 = true then
      if (σ (q0 + 5) v4.toNatClampNeg) = 0 then
        (fX3_spread q0 q1 v4 σ).bind fun r4 =>
        fX3_countRegions_L83 q0 q1 a2 K9 (v3 + 1) v4 r4.2
      else
        fX3_countRegions_L83 q0 q1 a2 K9 v3 v4 σ
    else none
def fX3_countRegions_L9 (q0 : Nat) (q1 : Nat) (a2 : Int32) : Nat → Int32 → Int32 → Sto → Option (Int32 × Sto)
  | 0, _, _, _ => none
  | fu + 1, v3, v4, σ =>
    if 225 ≤ v4 then
      some (v3, σ)
    else
      if a2 = 0 then
        if kin v4 225 = true then
          if (σ (q0 + 3) v4.toNatClampNeg) ≤ 0 then
            fX3_countRegions_L55 q0 q1 a2 (fX3_countRegions_L9 q0 q1 a2 fu) v3 v4 0 σ
          else
            fX3_countRegions_L55 q0 q1 a2 (fX3_countRegions_L9 q0 q1 a2 fu) v3 v4 1 σ
        else none
      else
        if kin v4 225 = true then
          if (σ (q0 + 3) v4.toNatClampNeg) = a2 then
            fX3_countRegions_L55 q0 q1 a2 (fX3_countRegions_L9 q0 q1 a2 fu) v3 v4 1 σ
          else
            fX3_countRegions_L55 q0 q1 a2 (fX3_countRegions_L9 q0 q1 a2 fu) v3 v4 0 σ
        else none
def fX3_countRegions (q0 : Nat) (q1 : Nat) (a2 : Int32) (σ : Sto) : Option (Int32 × Sto) :=
  (fX3_forgetReached q0 σ).bind fun r1 =>
  fX3_countRegions_L9 q0 q1 a2 kFU 0 0 r1
set_option maxHeartbeats 4000000 in
set_option maxRecDepth 100000 in
theorem wX3_countRegions_L83 (sh : KSh) (hw : KWf sh) (l : Launch) (hst : l.stackTraces = false) (q0 : Nat) (h0 : sh q0 = .inl 3) (q1 : Nat) (h1 : sh q1 = .inl 1) (a2 : Int32) (K9 : Int32 → Int32 → Sto → Option (Int32 × Sto)) (hK9 : ∀ (v3 : Int32), ∀ (v4 : Int32), ∀ (σ : Sto), ∀ (r : (Int32 × Sto)), K9 v3 v4 σ = some r → VV sh l mX3_countRegions 0 0 9 [(0, .ref q0), (1, .ref q1), (2, .int a2), (3, .int v3), (4, .int v4)] [] σ (0, .int r.1, r.2)) : ∀ (v3 : Int32), ∀ (v4 : Int32), ∀ (σ : Sto), ∀ (r : (Int32 × Sto)), fX3_countRegions_L83 q0 q1 a2 K9 v3 v4 σ = some r → VV sh l mX3_countRegions 0 0 83 [(0, .ref q0), (1, .ref q1), (2, .int a2), (3, .int v3), (4, .int v4)] [] σ (0, .int r.1, r.2) := by
  intro v3 v4 σ r h
  rw [fX3_countRegions_L83] at h
  refine kv_iinc (pc := 83) (v := v4 + 1) 4 [(4, .int (v4 + 1)), (0, .ref q0), (1, .ref q1), (2, .int a2), (3, .int v3)] dX3_countRegions_83 rfl rfl (by decide) rfl ?_
  refine kv_goto (pc := 86) (tgt := 9) dX3_countRegions_86 (by decide) ?_
  refine kv_sub (pc := 9) [(0, .ref q0), (1, .ref q1), (2, .int a2), (3, .int v3), (4, .int (v4 + 1))] [1, 2, 3, 4, 0] rfl ?_
  exact hK9 v3 (v4 + 1) σ r h
set_option maxHeartbeats 4000000 in
set_option maxRecDepth 100000 in
theorem wX3_countRegions_L55 (sh : KSh) (hw : KWf sh) (l : Launch) (hst : l.stackTraces = false) (q0 : Nat) (h0 : sh q0 = .inl 3) (q1 : Nat) (h1 : sh q1 = .inl 1) (a2 : Int32) (K9 : Int32 → Int32 → Sto → Option (Int32 × Sto)) (hK9 : ∀ (v3 : Int32), ∀ (v4 : Int32), ∀ (σ : Sto), ∀ (r : (Int32 × Sto)), K9 v3 v4 σ = some r → VV sh l mX3_countRegions 0 0 9 [(0, .ref q0), (1, .ref q1), (2, .int a2), (3, .int v3), (4, .int v4)] [] σ (0, .int r.1, r.2)) : ∀ (v3 : Int32), ∀ (v4 : Int32), ∀ (s0 : Int32), ∀ (σ : Sto), ∀ (r : (Int32 × Sto)), fX3_countRegions_L55 q0 q1 a2 K9 v3 v4 s0 σ = some r → VV sh l mX3_countRegions 0 0 55 [(0, .ref q0), (1, .ref q1), (2, .int a2), (3, .int v3), (4, .int v4)] [.int s0] σ (0, .int r.1, r.2) := by
  intro v3 v4 s0 σ r h
  rw [fX3_countRegions_L55] at h
  refine kv_istore (pc := 55) [(5, .int s0), (0, .ref q0), (1, .ref q1), (2, .int a2), (3, .int v3), (4, .int v4)] dX3_countRegions_55 (by decide) rfl ?_
  refine kv_iload (pc := 57) 0 dX3_countRegions_57 rfl ?_
  refine kv_if_eq (pc := 59) (tgt := 83) dX3_countRegions_59 (by decide) h (fun h => ?_) (fun h => ?_)
  · refine kv_sub (pc := 83) [(0, .ref q0), (1, .ref q1), (2, .int a2), (3, .int v3), (4, .int v4)] [1, 2, 3, 4, 5] rfl ?_
    exact wX3_countRegions_L83 sh hw l hst q0 h0 q1 h1 a2 K9 hK9 v3 v4 σ r h
  · refine kv_aload_n (pc := 62) 1 dX3_countRegions_62 rfl rfl ?_
    refine kv_getR (pc := 63) (q2 := q0 + 5) dX3_countRegions_63 h0 rfl (i := 4) (by decide) rfl fl_X3_24 rfl rfl ?_
    refine kv_iload (pc := 66) 5 dX3_countRegions_66 rfl ?_
    refine kv_zald (pc := 68) dX3_countRegions_68 (show sh (q0 + 5) = _ from kso_3_5 hw h0) h (fun h => ?_)
    refine kv_if_ne (pc := 69) (tgt := 83) dX3_countRegions_69 (by decide) h (fun h => ?_) (fun h => ?_)
    · refine kv_sub (pc := 83) [(0, .ref q0), (1, .ref q1), (2, .int a2), (3, .int v3), (4, .int v4)] [1, 2, 3, 4, 5] rfl ?_
      exact wX3_countRegions_L83 sh hw l hst q0 h0 q1 h1 a2 K9 hK9 v3 v4 σ r h
    · refine kv_aload_n (pc := 72) 1 dX3_countRegions_72 rfl rfl ?_
      refine kv_aload_n (pc := 73) 2 dX3_countRegions_73 rfl rfl ?_
      refine kv_iload (pc := 74) 5 dX3_countRegions_74 rfl ?_
      refine kv_cV (pc := 76) [.ref q1, .int v4] (fun r4 => (0, .int r4.1, r4.2)) (fun r4 => (.int r4.1 :: [])) (fun r4 => r4.2) 79 0 0 h (fun r4 g5 => tX3_spread sh hw l hst q0 h0 q1 h1 v4 σ r4 g5) dX3_countRegions_76 rfl h0 rfl yw_X3_spread lk_X3_102 (by decide) (Nat.le_of_ble_eq_true rfl) (by decide) (fun _ => rfl) (fun _ => rfl) ⟨rfl, rfl, rfl⟩ (fun _ _ h0 => absurd rfl h0) (fun r4 g5 z6 h => ?_)
      refine kv_pop (pc := 79) dX3_countRegions_79 rfl ?_
      refine kv_iinc (pc := 80) (v := v3 + 1) 4 [(3, .int (v3 + 1)), (5, .int s0), (0, .ref q0), (1, .ref q1), (2, .int a2), (4, .int v4)] dX3_countRegions_80 rfl rfl (by decide) rfl ?_
      refine kv_sub (pc := 83) [(0, .ref q0), (1, .ref q1), (2, .int a2), (3, .int (v3 + 1)), (4, .int v4)] [2, 3, 4, 0, 5] rfl ?_
      exact wX3_countRegions_L83 sh hw l hst q0 h0 q1 h1 a2 K9 hK9 (v3 + 1) v4 r4.2 r h
set_option maxHeartbeats 4000000 in
set_option maxRecDepth 100000 in
theorem wX3_countRegions_L9 (sh : KSh) (hw : KWf sh) (l : Launch) (hst : l.stackTraces = false) (q0 : Nat) (h0 : sh q0 = .inl 3) (q1 : Nat) (h1 : sh q1 = .inl 1) (a2 : Int32) : ∀ (fu : Nat), ∀ (v3 : Int32), ∀ (v4 : Int32), ∀ (σ : Sto), ∀ (r : (Int32 × Sto)), fX3_countRegions_L9 q0 q1 a2 fu v3 v4 σ = some r → VV sh l mX3_countRegions 0 0 9 [(0, .ref q0), (1, .ref q1), (2, .int a2), (3, .int v3), (4, .int v4)] [] σ (0, .int r.1, r.2) := by
  intro fu
  induction fu with
  | zero => intro v3 v4 σ r h; rw [fX3_countRegions_L9] at h; cases h
  | succ fu ih =>
    intro v3 v4 σ r h
    rw [fX3_countRegions_L9] at h
    refine kv_iload (pc := 9) 4 dX3_countRegions_9 rfl ?_
    refine kv_sipush (pc := 11) (v := 225) dX3_countRegions_11 (by decide) ?_
    refine kv_icmp_ge (pc := 14) (tgt := 89) dX3_countRegions_14 (by decide) h (fun h => ?_) (fun h => ?_)
    · refine kv_iload_n (pc := 89) 3 dX3_countRegions_89 rfl rfl ?_
      exact kv_iret (pc := 90) dX3_countRegions_90 rfl (by cases h; rfl) (by decide) (by decide)
    · refine kv_iload_n (pc := 17) 2 dX3_countRegions_17 rfl rfl ?_
      refine kv_if_ne (pc := 18) (tgt := 39) dX3_countRegions_18 (by decide) h (fun h => ?_) (fun h => ?_)
      · refine kv_aload_n (pc := 39) 0 dX3_countRegions_39 rfl rfl ?_
        refine kv_getR (pc := 40) (q2 := q0 + 3) dX3_countRegions_40 h0 rfl (i := 2) (by decide) rfl fl_X3_18 rfl rfl ?_
        refine kv_iload (pc := 43) 4 dX3_countRegions_43 rfl ?_
        refine kv_iald (pc := 45) dX3_countRegions_45 (show sh (q0 + 3) = _ from kso_3_3 hw h0) h (fun h => ?_)
        refine kv_iload_n (pc := 46) 2 dX3_countRegions_46 rfl rfl ?_
        refine kv_icmp_ne (pc := 47) (tgt := 54) dX3_countRegions_47 (by decide) h (fun h => ?_) (fun h => ?_)
        · refine kv_iconst (pc := 54) (v := 0) dX3_countRegions_54 (by decide) ?_
          refine kv_sub (pc := 55) [(0, .ref q0), (1, .ref q1), (2, .int a2), (3, .int v3), (4, .int v4)] [0, 1, 2, 3, 4] rfl ?_
          exact wX3_countRegions_L55 sh hw l hst q0 h0 q1 h1 a2 (fX3_countRegions_L9 q0 q1 a2 fu) ih v3 v4 0 σ r h
        · refine kv_iconst (pc := 50) (v := 1) dX3_countRegions_50 (by decide) ?_
          refine kv_goto (pc := 51) (tgt := 55) dX3_countRegions_51 (by decide) ?_
          refine kv_sub (pc := 55) [(0, .ref q0), (1, .ref q1), (2, .int a2), (3, .int v3), (4, .int v4)] [0, 1, 2, 3, 4] rfl ?_
          exact wX3_countRegions_L55 sh hw l hst q0 h0 q1 h1 a2 (fX3_countRegions_L9 q0 q1 a2 fu) ih v3 v4 1 σ r h
      · refine kv_aload_n (pc := 21) 0 dX3_countRegions_21 rfl rfl ?_
        refine kv_getR (pc := 22) (q2 := q0 + 3) dX3_countRegions_22 h0 rfl (i := 2) (by decide) rfl fl_X3_18 rfl rfl ?_
        refine kv_iload (pc := 25) 4 dX3_countRegions_25 rfl ?_
        refine kv_iald (pc := 27) dX3_countRegions_27 (show sh (q0 + 3) = _ from kso_3_3 hw h0) h (fun h => ?_)
        refine kv_if_le (pc := 28) (tgt := 35) dX3_countRegions_28 (by decide) h (fun h => ?_) (fun h => ?_)
        · refine kv_iconst (pc := 35) (v := 0) dX3_countRegions_35 (by decide) ?_
          refine kv_goto (pc := 36) (tgt := 55) dX3_countRegions_36 (by decide) ?_
          refine kv_sub (pc := 55) [(0, .ref q0), (1, .ref q1), (2, .int a2), (3, .int v3), (4, .int v4)] [0, 1, 2, 3, 4] rfl ?_
          exact wX3_countRegions_L55 sh hw l hst q0 h0 q1 h1 a2 (fX3_countRegions_L9 q0 q1 a2 fu) ih v3 v4 0 σ r h
        · refine kv_iconst (pc := 31) (v := 1) dX3_countRegions_31 (by decide) ?_
          refine kv_goto (pc := 32) (tgt := 55) dX3_countRegions_32 (by decide) ?_
          refine kv_sub (pc := 55) [(0, .ref q0), (1, .ref q1), (2, .int a2), (3, .int v3), (4, .int v4)] [0, 1, 2, 3, 4] rfl ?_
          exact wX3_countRegions_L55 sh hw l hst q0 h0 q1 h1 a2 (fX3_countRegions_L9 q0 q1 a2 fu) ih v3 v4 1 σ r h
set_option maxHeartbeats 4000000 in
set_option maxRecDepth 100000 in
theorem tX3_countRegions (sh : KSh) (hw : KWf sh) (l : Launch) (hst : l.stackTraces = false) (q0 : Nat) (h0 : sh q0 = .inl 3) (q1 : Nat) (h1 : sh q1 = .inl 1) (a2 : Int32) (σ : Sto) (r : (Int32 × Sto)) (h : fX3_countRegions q0 q1 a2 σ = some r) : CT sh l mX3_countRegions yX3_countRegions [.ref q0, .ref q1, .int a2] σ (0, .int r.1, r.2) := by
  refine kct [(0, .ref q0), (1, .ref q1), (2, .int a2)] hst (by decide +kernel) rfl rfl (Nat.le_of_ble_eq_true rfl) ?_
  rw [fX3_countRegions] at h
  refine kv_aload_n (pc := 0) 0 dX3_countRegions_0 rfl rfl ?_
  refine kv_cV (pc := 1) [] (fun r1 => (0, .int 0, r1)) (fun r1 => []) (fun r1 => r1) 4 0 0 h (fun r1 g2 => tX3_forgetReached sh hw l hst q0 h0 σ r1 g2) dX3_countRegions_1 rfl h0 rfl yw_X3_forgetReached lk_X3_99 (by decide) (Nat.le_of_ble_eq_true rfl) (by decide) (fun _ => rfl) (fun _ => rfl) ⟨rfl, rfl, rfl⟩ (fun _ _ h0 => absurd rfl h0) (fun r1 g2 z3 h => ?_)
  refine kv_iconst (pc := 4) (v := 0) dX3_countRegions_4 (by decide) ?_
  refine kv_istore_n (pc := 5) [(3, .int 0), (0, .ref q0), (1, .ref q1), (2, .int a2)] dX3_countRegions_5 rfl (by decide) rfl ?_
  refine kv_iconst (pc := 6) (v := 0) dX3_countRegions_6 (by decide) ?_
  refine kv_istore (pc := 7) [(4, .int 0), (3, .int 0), (0, .ref q0), (1, .ref q1), (2, .int a2)] dX3_countRegions_7 (by decide) rfl ?_
  refine kv_sub (pc := 9) [(0, .ref q0), (1, .ref q1), (2, .int a2), (3, .int 0), (4, .int 0)] [2, 3, 4, 1, 0] rfl ?_
  exact wX3_countRegions_L9 sh hw l hst q0 h0 q1 h1 a2 kFU 0 0 r1 r h
theorem yw_X3_countRegions : KMV yX3_countRegions mX3_countRegions RX3 2 := ⟨⟨rfl, by decide +kernel, by decide +kernel, by decide +kernel⟩, ⟨rfl, rfl⟩, kg_in 999 (by decide +kernel) (by decide +kernel), kg_in 1000 (by decide +kernel) (by decide +kernel), kg_in 53 (by decide +kernel) (by decide +kernel), kg_in 1001 (by decide +kernel) (by decide +kernel)⟩
theorem dX3_countEdges_0 : decode cX3_countEdges 0 = .ok (.iconst 0, 1) := by decide +kernel
theorem dX3_countEdges_1 : decode cX3_countEdges 1 = .ok (.istore_n 2, 1) := by decide +kernel
theorem dX3_countEdges_2 : decode cX3_countEdges 2 = .ok (.aload_n 1, 1) := by decide +kernel
theorem dX3_countEdges_3 : decode cX3_countEdges 3 = .ok (.invokevirtual 112, 3) := by decide +kernel
theorem dX3_countEdges_6 : decode cX3_countEdges 6 = .ok (.iconst 2, 1) := by decide +kernel
theorem dX3_countEdges_7 : decode cX3_countEdges 7 = .ok (.idiv, 1) := by decide +kernel
theorem dX3_countEdges_8 : decode cX3_countEdges 8 = .ok (.istore_n 3, 1) := by decide +kernel
theorem dX3_countEdges_9 : decode cX3_countEdges 9 = .ok (.iconst 0, 1) := by decide +kernel
theorem dX3_countEdges_10 : decode cX3_countEdges 10 = .ok (.istore 4, 2) := by decide +kernel
theorem dX3_countEdges_12 : decode cX3_countEdges 12 = .ok (.iload 4, 2) := by decide +kernel
theorem dX3_countEdges_14 : decode cX3_countEdges 14 = .ok (.sipush 225, 3) := by decide +kernel
theorem dX3_countEdges_17 : decode cX3_countEdges 17 = .ok (.if_icmp .ge 68, 3) := by decide +kernel
theorem dX3_countEdges_20 : decode cX3_countEdges 20 = .ok (.iconst 0, 1) := by decide +kernel
theorem dX3_countEdges_21 : decode cX3_countEdges 21 = .ok (.istore 5, 2) := by decide +kernel
theorem dX3_countEdges_23 : decode cX3_countEdges 23 = .ok (.iload 5, 2) := by decide +kernel
theorem dX3_countEdges_25 : decode cX3_countEdges 25 = .ok (.iload_n 3, 1) := by decide +kernel
theorem dX3_countEdges_26 : decode cX3_countEdges 26 = .ok (.if_icmp .ge 53, 3) := by decide +kernel
theorem dX3_countEdges_29 : decode cX3_countEdges 29 = .ok (.aload_n 0, 1) := by decide +kernel
theorem dX3_countEdges_30 : decode cX3_countEdges 30 = .ok (.getfield 18, 3) := by decide +kernel
theorem dX3_countEdges_33 : decode cX3_countEdges 33 = .ok (.iload 4, 2) := by decide +kernel
theorem dX3_countEdges_35 : decode cX3_countEdges 35 = .ok (.iaload, 1) := by decide +kernel
theorem dX3_countEdges_36 : decode cX3_countEdges 36 = .ok (.ifCond .le 43, 3) := by decide +kernel
theorem dX3_countEdges_39 : decode cX3_countEdges 39 = .ok (.aload_n 0, 1) := by decide +kernel
theorem dX3_countEdges_40 : decode cX3_countEdges 40 = .ok (.aload_n 1, 1) := by decide +kernel
theorem dX3_countEdges_41 : decode cX3_countEdges 41 = .ok (.iload 4, 2) := by decide +kernel
theorem dX3_countEdges_43 : decode cX3_countEdges 43 = .ok (.iload 5, 2) := by decide +kernel
theorem dX3_countEdges_45 : decode cX3_countEdges 45 = .ok (.invokevirtual 116, 3) := by decide +kernel
theorem dX3_countEdges_48 : decode cX3_countEdges 48 = .ok (.invokevirtual 106, 3) := by decide +kernel
theorem dX3_countEdges_51 : decode cX3_countEdges 51 = .ok (.istore 6, 2) := by decide +kernel
theorem dX3_countEdges_53 : decode cX3_countEdges 53 = .ok (.iload 6, 2) := by decide +kernel
theorem dX3_countEdges_55 : decode cX3_countEdges 55 = .ok (.ifCond .le 18, 3) := by decide +kernel
theorem dX3_countEdges_58 : decode cX3_countEdges 58 = .ok (.iload 6, 2) := by decide +kernel
theorem dX3_countEdges_60 : decode cX3_countEdges 60 = .ok (.aload_n 0, 1) := by decide +kernel
theorem dX3_countEdges_61 : decode cX3_countEdges 61 = .ok (.getfield 18, 3) := by decide +kernel
theorem dX3_countEdges_64 : decode cX3_countEdges 64 = .ok (.iload 4, 2) := by decide +kernel
theorem dX3_countEdges_66 : decode cX3_countEdges 66 = .ok (.iaload, 1) := by decide +kernel
theorem dX3_countEdges_67 : decode cX3_countEdges 67 = .ok (.if_icmp .eq 6, 3) := by decide +kernel
theorem dX3_countEdges_70 : decode cX3_countEdges 70 = .ok (.iinc 2 1, 3) := by decide +kernel
theorem dX3_countEdges_73 : decode cX3_countEdges 73 = .ok (.iinc 5 1, 3) := by decide +kernel
theorem dX3_countEdges_76 : decode cX3_countEdges 76 = .ok (.goto (-53), 3) := by decide +kernel
theorem dX3_countEdges_79 : decode cX3_countEdges 79 = .ok (.iinc 4 1, 3) := by decide +kernel
theorem dX3_countEdges_82 : decode cX3_countEdges 82 = .ok (.goto (-70), 3) := by decide +kernel
theorem dX3_countEdges_85 : decode cX3_countEdges 85 = .ok (.iload_n 2, 1) := by decide +kernel
theorem dX3_countEdges_86 : decode cX3_countEdges 86 = .ok (.ireturn, 1) := by decide +kernel
abbrev mX3_countEdges : KM := (RX3, cX3_countEdges, 7, (some .int), { frames := 3, cells := 0, slots := 0, locals := 67 }, 0, 0)
def fX3_countEdges_L79 (q0 : Nat) (q1 : Nat) (K12 : Int32 → Int32 → Int32 → Sto → Option Int32) (v2 : Int32) (v3 : Int32) (v4 : Int32) (σ : Sto) : Option Int32 :=
  K12 v2 v3 (v4 + 1) σ
def fX3_countEdges_L73 (q0 : Nat) (q1 : Nat) (K12 : Int32 → Int32 → Int32 → Sto → Option Int32) (K23 : Int32 → Int32 → Int32 → Int32 → Sto → Option Int32) (v2 : Int32) (v3 : Int32) (v4 : Int32) (v5 : Int32) (σ : Sto) : Option Int32 :=
  K23 v2 v3 v4 (v5 + 1) σ
def fX3_countEdges_L23 (q0 : Nat) (q1 : Nat) (K12 : Int32 → Int32 → Int32 → Sto → Option Int32) : Nat → Int32 → Int32 → Int32 → Int32 → Sto → Option Int32
  | 0, _, _, _, _, _ => none
  | fu + 1, v2, v3, v4, v5, σ =>
    if v3 ≤ v5 then
      fX3_countEdges_L79 q0 q1 K12 v2 v3 v4 σ
    else
      if kin v4 225 = true then
        if (σ (q0 + 3) v4.toNatClampNeg) ≤ 0 then
          fX3_countEdges_L79 q0 q1 K12 v2 v3 v4 σ
        else
          (fX1_pictureNeighbour q1 v4 v5 σ).bind fun r1 =>
          (fX3_colourOf q0 r1 σ).bind fun r4 =>
          if r4 ≤ 0 then
            fX3_countEdges_L73 q0 q1 K12 (fX3_countEdges_L23 q0 q1 K12 fu) v2 v3 v4 v5 σ
          else
            if kin v4 225 = true then
              if r4 = (σ (q0 + 3) v4.toNatClampNeg) then
                fX3_countEdges_L73 q0 q1 K12 (fX3_countEdges_L23 q0 q1 K12 fu) v2 v3 v4 v5 σ
              else
                fX3_countEdges_L73 q0 q1 K12 (fX3_countEdges_L23 q0 q1 K12 fu) (v2 + 1) v3 v4 v5 σ
            else none
      else none
def fX3_countEdges_L12 (q0 : Nat) (q1 : Nat) : Nat → Int32 → Int32 → Int32 → Sto → Option Int32
  | 0, _, _, _, _ => none
  | fu + 1, v2, v3, v4, σ =>
    if 225 ≤ v4 then
      some v2
    else
      fX3_countEdges_L23 q0 q1 (fX3_countEdges_L12 q0 q1 fu) kFU v2 v3 v4 0 σ
def fX3_countEdges (q0 : Nat) (q1 : Nat) (σ : Sto) : Option Int32 :=
  fX3_countEdges_L12 q0 q1 kFU 0 ((fX1_directions q1 σ) / 2) 0 σ
set_option maxHeartbeats 4000000 in
set_option maxRecDepth 100000 in
theorem wX3_countEdges_L79 (sh : KSh) (hw : KWf sh) (l : Launch) (hst : l.stackTraces = false) (q0 : Nat) (h0 : sh q0 = .inl 3) (q1 : Nat) (h1 : sh q1 = .inl 1) (K12 : Int32 → Int32 → Int32 → Sto → Option Int32) (hK12 : ∀ (v2 : Int32), ∀ (v3 : Int32), ∀ (v4 : Int32), ∀ (σ : Sto), ∀ (r : Int32), K12 v2 v3 v4 σ = some r → VV sh l mX3_countEdges 0 0 12 [(0, .ref q0), (1, .ref q1), (2, .int v2), (3, .int v3), (4, .int v4)] [] σ (0, .int r, σ)) : ∀ (v2 : Int32), ∀ (v3 : Int32), ∀ (v4 : Int32), ∀ (σ : Sto), ∀ (r : Int32), fX3_countEdges_L79 q0 q1 K12 v2 v3 v4 σ = some r → VV sh l mX3_countEdges 0 0 79 [(0, .ref q0), (1, .ref q1), (2, .int v2), (3, .int v3), (4, .int v4)] [] σ (0, .int r, σ) := by
  intro v2 v3 v4 σ r h
  rw [fX3_countEdges_L79] at h
  refine kv_iinc (pc := 79) (v := v4 + 1) 4 [(4, .int (v4 + 1)), (0, .ref q0), (1, .ref q1), (2, .int v2), (3, .int v3)] dX3_countEdges_79 rfl rfl (by decide) rfl ?_
  refine kv_goto (pc := 82) (tgt := 12) dX3_countEdges_82 (by decide) ?_
  refine kv_sub (pc := 12) [(0, .ref q0), (1, .ref q1), (2, .int v2), (3, .int v3), (4, .int (v4 + 1))] [1, 2, 3, 4, 0] rfl ?_
  exact hK12 v2 v3 (v4 + 1) σ r h
set_option maxHeartbeats 4000000 in
set_option maxRecDepth 100000 in
theorem wX3_countEdges_L73 (sh : KSh) (hw : KWf sh) (l : Launch) (hst : l.stackTraces = false) (q0 : Nat) (h0 : sh q0 = .inl 3) (q1 : Nat) (h1 : sh q1 = .inl 1) (K12 : Int32 → Int32 → Int32 → Sto → Option Int32) (hK12 : ∀ (v2 : Int32), ∀ (v3 : Int32), ∀ (v4 : Int32), ∀ (σ : Sto), ∀ (r : Int32), K12 v2 v3 v4 σ = some r → VV sh l mX3_countEdges 0 0 12 [(0, .ref q0), (1, .ref q1), (2, .int v2), (3, .int v3), (4, .int v4)] [] σ (0, .int r, σ)) (K23 : Int32 → Int32 → Int32 → Int32 → Sto → Option Int32) (hK23 : ∀ (v2 : Int32), ∀ (v3 : Int32), ∀ (v4 : Int32), ∀ (v5 : Int32), ∀ (σ : Sto), ∀ (r : Int32), K23 v2 v3 v4 v5 σ = some r → VV sh l mX3_countEdges 0 0 23 [(0, .ref q0), (1, .ref q1), (2, .int v2), (3, .int v3), (4, .int v4), (5, .int v5)] [] σ (0, .int r, σ)) : ∀ (v2 : Int32), ∀ (v3 : Int32), ∀ (v4 : Int32), ∀ (v5 : Int32), ∀ (σ : Sto), ∀ (r : Int32), fX3_countEdges_L73 q0 q1 K12 K23 v2 v3 v4 v5 σ = some r → VV sh l mX3_countEdges 0 0 73 [(0, .ref q0), (1, .ref q1), (2, .int v2), (3, .int v3), (4, .int v4), (5, .int v5)] [] σ (0, .int r, σ) := by
  intro v2 v3 v4 v5 σ r h
  rw [fX3_countEdges_L73] at h
  refine kv_iinc (pc := 73) (v := v5 + 1) 5 [(5, .int (v5 + 1)), (0, .ref q0), (1, .ref q1), (2, .int v2), (3, .int v3), (4, .int v4)] dX3_countEdges_73 rfl rfl (by decide) rfl ?_
  refine kv_goto (pc := 76) (tgt := 23) dX3_countEdges_76 (by decide) ?_
  refine kv_sub (pc := 23) [(0, .ref q0), (1, .ref q1), (2, .int v2), (3, .int v3), (4, .int v4), (5, .int (v5 + 1))] [1, 2, 3, 4, 5, 0] rfl ?_
  exact hK23 v2 v3 v4 (v5 + 1) σ r h
set_option maxHeartbeats 4000000 in
set_option maxRecDepth 100000 in
theorem wX3_countEdges_L23 (sh : KSh) (hw : KWf sh) (l : Launch) (hst : l.stackTraces = false) (q0 : Nat) (h0 : sh q0 = .inl 3) (q1 : Nat) (h1 : sh q1 = .inl 1) (K12 : Int32 → Int32 → Int32 → Sto → Option Int32) (hK12 : ∀ (v2 : Int32), ∀ (v3 : Int32), ∀ (v4 : Int32), ∀ (σ : Sto), ∀ (r : Int32), K12 v2 v3 v4 σ = some r → VV sh l mX3_countEdges 0 0 12 [(0, .ref q0), (1, .ref q1), (2, .int v2), (3, .int v3), (4, .int v4)] [] σ (0, .int r, σ)) : ∀ (fu : Nat), ∀ (v2 : Int32), ∀ (v3 : Int32), ∀ (v4 : Int32), ∀ (v5 : Int32), ∀ (σ : Sto), ∀ (r : Int32), fX3_countEdges_L23 q0 q1 K12 fu v2 v3 v4 v5 σ = some r → VV sh l mX3_countEdges 0 0 23 [(0, .ref q0), (1, .ref q1), (2, .int v2), (3, .int v3), (4, .int v4), (5, .int v5)] [] σ (0, .int r, σ) := by
  intro fu
  induction fu with
  | zero => intro v2 v3 v4 v5 σ r h; rw [fX3_countEdges_L23] at h; cases h
  | succ fu ih =>
    intro v2 v3 v4 v5 σ r h
    rw [fX3_countEdges_L23] at h
    refine kv_iload (pc := 23) 5 dX3_countEdges_23 rfl ?_
    refine kv_iload_n (pc := 25) 3 dX3_countEdges_25 rfl rfl ?_
    refine kv_icmp_ge (pc := 26) (tgt := 79) dX3_countEdges_26 (by decide) h (fun h => ?_) (fun h => ?_)
    · refine kv_sub (pc := 79) [(0, .ref q0), (1, .ref q1), (2, .int v2), (3, .int v3), (4, .int v4)] [0, 1, 2, 3, 4] rfl ?_
      exact wX3_countEdges_L79 sh hw l hst q0 h0 q1 h1 K12 hK12 v2 v3 v4 σ r h
    · refine kv_aload_n (pc := 29) 0 dX3_countEdges_29 rfl rfl ?_
      refine kv_getR (pc := 30) (q2 := q0 + 3) dX3_countEdges_30 h0 rfl (i := 2) (by decide) rfl fl_X3_18 rfl rfl ?_
      refine kv_iload (pc := 33) 4 dX3_countEdges_33 rfl ?_
      refine kv_iald (pc := 35) dX3_countEdges_35 (show sh (q0 + 3) = _ from kso_3_3 hw h0) h (fun h => ?_)
      refine kv_if_le (pc := 36) (tgt := 79) dX3_countEdges_36 (by decide) h (fun h => ?_) (fun h => ?_)
      · refine kv_sub (pc := 79) [(0, .ref q0), (1, .ref q1), (2, .int v2), (3, .int v3), (4, .int v4)] [0, 1, 2, 3, 4] rfl ?_
        exact wX3_countEdges_L79 sh hw l hst q0 h0 q1 h1 K12 hK12 v2 v3 v4 σ r h
      · refine kv_aload_n (pc := 39) 0 dX3_countEdges_39 rfl rfl ?_
        refine kv_aload_n (pc := 40) 1 dX3_countEdges_40 rfl rfl ?_
        refine kv_iload (pc := 41) 4 dX3_countEdges_41 rfl ?_
        refine kv_iload (pc := 43) 5 dX3_countEdges_43 rfl ?_
        refine kv_cV (pc := 45) [.int v4, .int v5] (fun r1 => (0, .int r1, σ)) (fun r1 => (.int r1 :: [.ref q0])) (fun r1 => σ) 48 0 0 h (fun r1 g2 => tX1_pictureNeighbour sh hw l hst q1 h1 v4 v5 σ r1 g2) dX3_countEdges_45 rfl h1 rfl yw_X1_pictureNeighbour lk_X3_116 (by decide) (Nat.le_of_ble_eq_true rfl) (by decide) (fun _ => rfl) (fun _ => rfl) ⟨rfl, rfl, rfl⟩ (fun _ _ h0 => absurd rfl h0) (fun r1 g2 z3 h => ?_)
        refine kv_cV (pc := 48) [.int r1] (fun r4 => (0, .int r4, σ)) (fun r4 => (.int r4 :: [])) (fun r4 => σ) 51 0 0 h (fun r4 g5 => tX3_colourOf sh hw l hst q0 h0 r1 σ r4 g5) dX3_countEdges_48 rfl h0 rfl yw_X3_colourOf lk_X3_106 (by decide) (Nat.le_of_ble_eq_true rfl) (by decide) (fun _ => rfl) (fun _ => rfl) ⟨rfl, rfl, rfl⟩ (fun _ _ h0 => absurd rfl h0) (fun r4 g5 z6 h => ?_)
        refine kv_istore (pc := 51) [(6, .int r4), (0, .ref q0), (1, .ref q1), (2, .int v2), (3, .int v3), (4, .int v4), (5, .int v5)] dX3_countEdges_51 (by decide) rfl ?_
        refine kv_iload (pc := 53) 0 dX3_countEdges_53 rfl ?_
        refine kv_if_le (pc := 55) (tgt := 73) dX3_countEdges_55 (by decide) h (fun h => ?_) (fun h => ?_)
        · refine kv_sub (pc := 73) [(0, .ref q0), (1, .ref q1), (2, .int v2), (3, .int v3), (4, .int v4), (5, .int v5)] [1, 2, 3, 4, 5, 6] rfl ?_
          exact wX3_countEdges_L73 sh hw l hst q0 h0 q1 h1 K12 hK12 (fX3_countEdges_L23 q0 q1 K12 fu) ih v2 v3 v4 v5 σ r h
        · refine kv_iload (pc := 58) 0 dX3_countEdges_58 rfl ?_
          refine kv_aload_n (pc := 60) 1 dX3_countEdges_60 rfl rfl ?_
          refine kv_getR (pc := 61) (q2 := q0 + 3) dX3_countEdges_61 h0 rfl (i := 2) (by decide) rfl fl_X3_18 rfl rfl ?_
          refine kv_iload (pc := 64) 5 dX3_countEdges_64 rfl ?_
          refine kv_iald (pc := 66) dX3_countEdges_66 (show sh (q0 + 3) = _ from kso_3_3 hw h0) h (fun h => ?_)
          refine kv_icmp_eq (pc := 67) (tgt := 73) dX3_countEdges_67 (by decide) h (fun h => ?_) (fun h => ?_)
          · refine kv_sub (pc := 73) [(0, .ref q0), (1, .ref q1), (2, .int v2), (3, .int v3), (4, .int v4), (5, .int v5)] [1, 2, 3, 4, 5, 6] rfl ?_
            exact wX3_countEdges_L73 sh hw l hst q0 h0 q1 h1 K12 hK12 (fX3_countEdges_L23 q0 q1 K12 fu) ih v2 v3 v4 v5 σ r h
          · refine kv_iinc (pc := 70) (v := v2 + 1) 3 [(2, .int (v2 + 1)), (6, .int r4), (0, .ref q0), (1, .ref q1), (3, .int v3), (4, .int v4), (5, .int v5)] dX3_countEdges_70 rfl rfl (by decide) rfl ?_
            refine kv_sub (pc := 73) [(0, .ref q0), (1, .ref q1), (2, .int (v2 + 1)), (3, .int v3), (4, .int v4), (5, .int v5)] [2, 3, 0, 4, 5, 6] rfl ?_
            exact wX3_countEdges_L73 sh hw l hst q0 h0 q1 h1 K12 hK12 (fX3_countEdges_L23 q0 q1 K12 fu) ih (v2 + 1) v3 v4 v5 σ r h
set_option maxHeartbeats 4000000 in
set_option maxRecDepth 100000 in
theorem wX3_countEdges_L12 (sh : KSh) (hw : KWf sh) (l : Launch) (hst : l.stackTraces = false) (q0 : Nat) (h0 : sh q0 = .inl 3) (q1 : Nat) (h1 : sh q1 = .inl 1) : ∀ (fu : Nat), ∀ (v2 : Int32), ∀ (v3 : Int32), ∀ (v4 : Int32), ∀ (σ : Sto), ∀ (r : Int32), fX3_countEdges_L12 q0 q1 fu v2 v3 v4 σ = some r → VV sh l mX3_countEdges 0 0 12 [(0, .ref q0), (1, .ref q1), (2, .int v2), (3, .int v3), (4, .int v4)] [] σ (0, .int r, σ) := by
  intro fu
  induction fu with
  | zero => intro v2 v3 v4 σ r h; rw [fX3_countEdges_L12] at h; cases h
  | succ fu ih =>
    intro v2 v3 v4 σ r h
    rw [fX3_countEdges_L12] at h
    refine kv_iload (pc := 12) 4 dX3_countEdges_12 rfl ?_
    refine kv_sipush (pc := 14) (v := 225) dX3_countEdges_14 (by decide) ?_
    refine kv_icmp_ge (pc := 17) (tgt := 85) dX3_countEdges_17 (by decide) h (fun h => ?_) (fun h => ?_)
    · refine kv_iload_n (pc := 85) 2 dX3_countEdges_85 rfl rfl ?_
      exact kv_iret (pc := 86) dX3_countEdges_86 rfl (by cases h; rfl) (by decide) (by decide)
    · refine kv_iconst (pc := 20) (v := 0) dX3_countEdges_20 (by decide) ?_
      refine kv_istore (pc := 21) [(5, .int 0), (0, .ref q0), (1, .ref q1), (2, .int v2), (3, .int v3), (4, .int v4)] dX3_countEdges_21 (by decide) rfl ?_
      refine kv_sub (pc := 23) [(0, .ref q0), (1, .ref q1), (2, .int v2), (3, .int v3), (4, .int v4), (5, .int 0)] [1, 2, 3, 4, 5, 0] rfl ?_
      exact wX3_countEdges_L23 sh hw l hst q0 h0 q1 h1 (fX3_countEdges_L12 q0 q1 fu) ih kFU v2 v3 v4 0 σ r h
set_option maxHeartbeats 4000000 in
set_option maxRecDepth 100000 in
theorem tX3_countEdges (sh : KSh) (hw : KWf sh) (l : Launch) (hst : l.stackTraces = false) (q0 : Nat) (h0 : sh q0 = .inl 3) (q1 : Nat) (h1 : sh q1 = .inl 1) (σ : Sto) (r : Int32) (h : fX3_countEdges q0 q1 σ = some r) : CT sh l mX3_countEdges yX3_countEdges [.ref q0, .ref q1] σ (0, .int r, σ) := by
  refine kct [(0, .ref q0), (1, .ref q1)] hst (by decide +kernel) rfl rfl (Nat.le_of_ble_eq_true rfl) ?_
  rw [fX3_countEdges] at h
  refine kv_iconst (pc := 0) (v := 0) dX3_countEdges_0 (by decide) ?_
  refine kv_istore_n (pc := 1) [(2, .int 0), (0, .ref q0), (1, .ref q1)] dX3_countEdges_1 rfl (by decide) rfl ?_
  refine kv_aload_n (pc := 2) 2 dX3_countEdges_2 rfl rfl ?_
  refine kv_tV (pc := 3) (v := .int (fX1_directions q1 σ)) [] (.int (fX1_directions q1 σ) :: []) 6 0 0 (tX1_directions sh hw l hst q1 h1 σ) dX3_countEdges_3 rfl h1 rfl yw_X1_directions lk_X3_112 (by decide) (Nat.le_of_ble_eq_true rfl) (by decide) rfl ⟨rfl, rfl, rfl⟩ ?_
  refine kv_iconst (pc := 6) (v := 2) dX3_countEdges_6 (by decide) ?_
  refine kv_idiv (pc := 7) dX3_countEdges_7 (by decide) ?_
  refine kv_istore_n (pc := 8) [(3, .int ((fX1_directions q1 σ) / 2)), (2, .int 0), (0, .ref q0), (1, .ref q1)] dX3_countEdges_8 rfl (by decide) rfl ?_
  refine kv_iconst (pc := 9) (v := 0) dX3_countEdges_9 (by decide) ?_
  refine kv_istore (pc := 10) [(4, .int 0), (3, .int ((fX1_directions q1 σ) / 2)), (2, .int 0), (0, .ref q0), (1, .ref q1)] dX3_countEdges_10 (by decide) rfl ?_
  refine kv_sub (pc := 12) [(0, .ref q0), (1, .ref q1), (2, .int 0), (3, .int ((fX1_directions q1 σ) / 2)), (4, .int 0)] [3, 4, 2, 1, 0] rfl ?_
  exact wX3_countEdges_L12 sh hw l hst q0 h0 q1 h1 kFU 0 ((fX1_directions q1 σ) / 2) 0 σ r h
theorem yw_X3_countEdges : KMV yX3_countEdges mX3_countEdges RX3 1 := ⟨⟨rfl, by decide +kernel, by decide +kernel, by decide +kernel⟩, ⟨rfl, rfl⟩, kg_in 706 (by decide +kernel) (by decide +kernel), kg_in 707 (by decide +kernel) (by decide +kernel), kg_in 53 (by decide +kernel) (by decide +kernel), kg_in 708 (by decide +kernel) (by decide +kernel)⟩
theorem dX3_isBroughtTo_0 : decode cX3_isBroughtTo 0 = .ok (.iconst 0, 1) := by decide +kernel
theorem dX3_isBroughtTo_1 : decode cX3_isBroughtTo 1 = .ok (.istore 4, 2) := by decide +kernel
theorem dX3_isBroughtTo_3 : decode cX3_isBroughtTo 3 = .ok (.iload 4, 2) := by decide +kernel
theorem dX3_isBroughtTo_5 : decode cX3_isBroughtTo 5 = .ok (.sipush 225, 3) := by decide +kernel
theorem dX3_isBroughtTo_8 : decode cX3_isBroughtTo 8 = .ok (.if_icmp .ge 43, 3) := by decide +kernel
theorem dX3_isBroughtTo_11 : decode cX3_isBroughtTo 11 = .ok (.aload_n 0, 1) := by decide +kernel
theorem dX3_isBroughtTo_12 : decode cX3_isBroughtTo 12 = .ok (.getfield 18, 3) := by decide +kernel
theorem dX3_isBroughtTo_15 : decode cX3_isBroughtTo 15 = .ok (.iload 4, 2) := by decide +kernel
theorem dX3_isBroughtTo_17 : decode cX3_isBroughtTo 17 = .ok (.iaload, 1) := by decide +kernel
theorem dX3_isBroughtTo_18 : decode cX3_isBroughtTo 18 = .ok (.iconst (-1), 1) := by decide +kernel
theorem dX3_isBroughtTo_19 : decode cX3_isBroughtTo 19 = .ok (.if_icmp .eq 26, 3) := by decide +kernel
theorem dX3_isBroughtTo_22 : decode cX3_isBroughtTo 22 = .ok (.aload_n 0, 1) := by decide +kernel
theorem dX3_isBroughtTo_23 : decode cX3_isBroughtTo 23 = .ok (.getfield 18, 3) := by decide +kernel
theorem dX3_isBroughtTo_26 : decode cX3_isBroughtTo 26 = .ok (.iload 4, 2) := by decide +kernel
theorem dX3_isBroughtTo_28 : decode cX3_isBroughtTo 28 = .ok (.iaload, 1) := by decide +kernel
theorem dX3_isBroughtTo_29 : decode cX3_isBroughtTo 29 = .ok (.aload_n 1, 1) := by decide +kernel
theorem dX3_isBroughtTo_30 : decode cX3_isBroughtTo 30 = .ok (.aload_n 2, 1) := by decide +kernel
theorem dX3_isBroughtTo_31 : decode cX3_isBroughtTo 31 = .ok (.iload_n 3, 1) := by decide +kernel
theorem dX3_isBroughtTo_32 : decode cX3_isBroughtTo 32 = .ok (.iload 4, 2) := by decide +kernel
theorem dX3_isBroughtTo_34 : decode cX3_isBroughtTo 34 = .ok (.invokevirtual 119, 3) := by decide +kernel
theorem dX3_isBroughtTo_37 : decode cX3_isBroughtTo 37 = .ok (.invokevirtual 106, 3) := by decide +kernel
theorem dX3_isBroughtTo_40 : decode cX3_isBroughtTo 40 = .ok (.if_icmp .eq 5, 3) := by decide +kernel
theorem dX3_isBroughtTo_43 : decode cX3_isBroughtTo 43 = .ok (.iconst 0, 1) := by decide +kernel
theorem dX3_isBroughtTo_44 : decode cX3_isBroughtTo 44 = .ok (.ireturn, 1) := by decide +kernel
theorem dX3_isBroughtTo_45 : decode cX3_isBroughtTo 45 = .ok (.iinc 4 1, 3) := by decide +kernel
theorem dX3_isBroughtTo_48 : decode cX3_isBroughtTo 48 = .ok (.goto (-45), 3) := by decide +kernel
theorem dX3_isBroughtTo_51 : decode cX3_isBroughtTo 51 = .ok (.iconst 1, 1) := by decide +kernel
theorem dX3_isBroughtTo_52 : decode cX3_isBroughtTo 52 = .ok (.ireturn, 1) := by decide +kernel
abbrev mX3_isBroughtTo : KM := (RX3, cX3_isBroughtTo, 5, (some .boolean), { frames := 3, cells := 0, slots := 0, locals := 71 }, 0, 0)
def fX3_isBroughtTo_L45 (q0 : Nat) (q1 : Nat) (q2 : Nat) (a3 : Int32) (K3 : Int32 → Sto → Option Bool) (v4 : Int32) (σ : Sto) : Option Bool :=
  K3 (v4 + 1) σ
def fX3_isBroughtTo_L3 (q0 : Nat) (q1 : Nat) (q2 : Nat) (a3 : Int32) : Nat → Int32 → Sto → Option Bool
  | 0, _, _ => none
  | fu + 1, v4, σ =>
    if 225 ≤ v4 then
      some true
    else
      if kin v4 225 = true then
        if (σ (q0 + 3) v4.toNatClampNeg) = (-1) then
          fX3_isBroughtTo_L45 q0 q1 q2 a3 (fX3_isBroughtTo_L3 q0 q1 q2 a3 fu) v4 σ
        else
          if kin v4 225 = true then
            (fX1_mapCell q2 a3 v4 σ).bind fun r1 =>
            (fX3_colourOf q1 r1 σ).bind fun r4 =>
            if (σ (q0 + 3) v4.toNatClampNeg) = r4 then
              fX3_isBroughtTo_L45 q0 q1 q2 a3 (fX3_isBroughtTo_L3 q0 q1 q2 a3 fu) v4 σ
            else
              some false
          else none
      else none
def fX3_isBroughtTo (q0 : Nat) (q1 : Nat) (q2 : Nat) (a3 : Int32) (σ : Sto) : Option Bool :=
  fX3_isBroughtTo_L3 q0 q1 q2 a3 kFU 0 σ
set_option maxHeartbeats 4000000 in
set_option maxRecDepth 100000 in
theorem wX3_isBroughtTo_L45 (sh : KSh) (hw : KWf sh) (l : Launch) (hst : l.stackTraces = false) (q0 : Nat) (h0 : sh q0 = .inl 3) (q1 : Nat) (h1 : sh q1 = .inl 3) (q2 : Nat) (h2 : sh q2 = .inl 1) (a3 : Int32) (K3 : Int32 → Sto → Option Bool) (hK3 : ∀ (v4 : Int32), ∀ (σ : Sto), ∀ (r : Bool), K3 v4 σ = some r → VV sh l mX3_isBroughtTo 0 0 3 [(0, .ref q0), (1, .ref q1), (2, .ref q2), (3, .int a3), (4, .int v4)] [] σ (0, .int (kb r), σ)) : ∀ (v4 : Int32), ∀ (σ : Sto), ∀ (r : Bool), fX3_isBroughtTo_L45 q0 q1 q2 a3 K3 v4 σ = some r → VV sh l mX3_isBroughtTo 0 0 45 [(0, .ref q0), (1, .ref q1), (2, .ref q2), (3, .int a3), (4, .int v4)] [] σ (0, .int (kb r), σ) := by
  intro v4 σ r h
  rw [fX3_isBroughtTo_L45] at h
  refine kv_iinc (pc := 45) (v := v4 + 1) 4 [(4, .int (v4 + 1)), (0, .ref q0), (1, .ref q1), (2, .ref q2), (3, .int a3)] dX3_isBroughtTo_45 rfl rfl (by decide) rfl ?_
  refine kv_goto (pc := 48) (tgt := 3) dX3_isBroughtTo_48 (by decide) ?_
  refine kv_sub (pc := 3) [(0, .ref q0), (1, .ref q1), (2, .ref q2), (3, .int a3), (4, .int (v4 + 1))] [1, 2, 3, 4, 0] rfl ?_
  exact hK3 (v4 + 1) σ r h
set_option maxHeartbeats 4000000 in
set_option maxRecDepth 100000 in
theorem wX3_isBroughtTo_L3 (sh : KSh) (hw : KWf sh) (l : Launch) (hst : l.stackTraces = false) (q0 : Nat) (h0 : sh q0 = .inl 3) (q1 : Nat) (h1 : sh q1 = .inl 3) (q2 : Nat) (h2 : sh q2 = .inl 1) (a3 : Int32) : ∀ (fu : Nat), ∀ (v4 : Int32), ∀ (σ : Sto), ∀ (r : Bool), fX3_isBroughtTo_L3 q0 q1 q2 a3 fu v4 σ = some r → VV sh l mX3_isBroughtTo 0 0 3 [(0, .ref q0), (1, .ref q1), (2, .ref q2), (3, .int a3), (4, .int v4)] [] σ (0, .int (kb r), σ) := by
  intro fu
  induction fu with
  | zero => intro v4 σ r h; rw [fX3_isBroughtTo_L3] at h; cases h
  | succ fu ih =>
    intro v4 σ r h
    rw [fX3_isBroughtTo_L3] at h
    refine kv_iload (pc := 3) 4 dX3_isBroughtTo_3 rfl ?_
    refine kv_sipush (pc := 5) (v := 225) dX3_isBroughtTo_5 (by decide) ?_
    refine kv_icmp_ge (pc := 8) (tgt := 51) dX3_isBroughtTo_8 (by decide) h (fun h => ?_) (fun h => ?_)
    · refine kv_iconst (pc := 51) (v := 1) dX3_isBroughtTo_51 (by decide) ?_
      exact kv_zret (pc := 52) dX3_isBroughtTo_52 rfl rfl (by cases h; rfl) (by decide) (by decide)
    · refine kv_aload_n (pc := 11) 0 dX3_isBroughtTo_11 rfl rfl ?_
      refine kv_getR (pc := 12) (q2 := q0 + 3) dX3_isBroughtTo_12 h0 rfl (i := 2) (by decide) rfl fl_X3_18 rfl rfl ?_
      refine kv_iload (pc := 15) 4 dX3_isBroughtTo_15 rfl ?_
      refine kv_iald (pc := 17) dX3_isBroughtTo_17 (show sh (q0 + 3) = _ from kso_3_3 hw h0) h (fun h => ?_)
      refine kv_iconst (pc := 18) (v := (-1)) dX3_isBroughtTo_18 (by decide) ?_
      refine kv_icmp_eq (pc := 19) (tgt := 45) dX3_isBroughtTo_19 (by decide) h (fun h => ?_) (fun h => ?_)
      · refine kv_sub (pc := 45) [(0, .ref q0), (1, .ref q1), (2, .ref q2), (3, .int a3), (4, .int v4)] [0, 1, 2, 3, 4] rfl ?_
        exact wX3_isBroughtTo_L45 sh hw l hst q0 h0 q1 h1 q2 h2 a3 (fX3_isBroughtTo_L3 q0 q1 q2 a3 fu) ih v4 σ r h
      · refine kv_aload_n (pc := 22) 0 dX3_isBroughtTo_22 rfl rfl ?_
        refine kv_getR (pc := 23) (q2 := q0 + 3) dX3_isBroughtTo_23 h0 rfl (i := 2) (by decide) rfl fl_X3_18 rfl rfl ?_
        refine kv_iload (pc := 26) 4 dX3_isBroughtTo_26 rfl ?_
        refine kv_iald (pc := 28) dX3_isBroughtTo_28 (show sh (q0 + 3) = _ from kso_3_3 hw h0) h (fun h => ?_)
        refine kv_aload_n (pc := 29) 1 dX3_isBroughtTo_29 rfl rfl ?_
        refine kv_aload_n (pc := 30) 2 dX3_isBroughtTo_30 rfl rfl ?_
        refine kv_iload_n (pc := 31) 3 dX3_isBroughtTo_31 rfl rfl ?_
        refine kv_iload (pc := 32) 4 dX3_isBroughtTo_32 rfl ?_
        refine kv_cV (pc := 34) [.int a3, .int v4] (fun r1 => (0, .int r1, σ)) (fun r1 => (.int r1 :: [.ref q1, .int (σ (q0 + 3) v4.toNatClampNeg)])) (fun r1 => σ) 37 0 0 h (fun r1 g2 => tX1_mapCell sh hw l hst q2 h2 a3 v4 σ r1 g2) dX3_isBroughtTo_34 rfl h2 rfl yw_X1_mapCell lk_X3_119 (by decide) (Nat.le_of_ble_eq_true rfl) (by decide) (fun _ => rfl) (fun _ => rfl) ⟨rfl, rfl, rfl⟩ (fun _ _ h0 => absurd rfl h0) (fun r1 g2 z3 h => ?_)
        refine kv_cV (pc := 37) [.int r1] (fun r4 => (0, .int r4, σ)) (fun r4 => (.int r4 :: [.int (σ (q0 + 3) v4.toNatClampNeg)])) (fun r4 => σ) 40 0 0 h (fun r4 g5 => tX3_colourOf sh hw l hst q1 h1 r1 σ r4 g5) dX3_isBroughtTo_37 rfl h1 rfl yw_X3_colourOf lk_X3_106 (by decide) (Nat.le_of_ble_eq_true rfl) (by decide) (fun _ => rfl) (fun _ => rfl) ⟨rfl, rfl, rfl⟩ (fun _ _ h0 => absurd rfl h0) (fun r4 g5 z6 h => ?_)
        refine kv_icmp_eq (pc := 40) (tgt := 45) dX3_isBroughtTo_40 (by decide) h (fun h => ?_) (fun h => ?_)
        · refine kv_sub (pc := 45) [(0, .ref q0), (1, .ref q1), (2, .ref q2), (3, .int a3), (4, .int v4)] [0, 1, 2, 3, 4] rfl ?_
          exact wX3_isBroughtTo_L45 sh hw l hst q0 h0 q1 h1 q2 h2 a3 (fX3_isBroughtTo_L3 q0 q1 q2 a3 fu) ih v4 σ r h
        · refine kv_iconst (pc := 43) (v := 0) dX3_isBroughtTo_43 (by decide) ?_
          exact kv_zret (pc := 44) dX3_isBroughtTo_44 rfl rfl (by cases h; rfl) (by decide) (by decide)
set_option maxHeartbeats 4000000 in
set_option maxRecDepth 100000 in
theorem tX3_isBroughtTo (sh : KSh) (hw : KWf sh) (l : Launch) (hst : l.stackTraces = false) (q0 : Nat) (h0 : sh q0 = .inl 3) (q1 : Nat) (h1 : sh q1 = .inl 3) (q2 : Nat) (h2 : sh q2 = .inl 1) (a3 : Int32) (σ : Sto) (r : Bool) (h : fX3_isBroughtTo q0 q1 q2 a3 σ = some r) : CT sh l mX3_isBroughtTo yX3_isBroughtTo [.ref q0, .ref q1, .ref q2, .int a3] σ (0, .int (kb r), σ) := by
  refine kct [(0, .ref q0), (1, .ref q1), (2, .ref q2), (3, .int a3)] hst (by decide +kernel) rfl rfl (Nat.le_of_ble_eq_true rfl) ?_
  rw [fX3_isBroughtTo] at h
  refine kv_iconst (pc := 0) (v := 0) dX3_isBroughtTo_0 (by decide) ?_
  refine kv_istore (pc := 1) [(4, .int 0), (0, .ref q0), (1, .ref q1), (2, .ref q2), (3, .int a3)] dX3_isBroughtTo_1 (by decide) rfl ?_
  refine kv_sub (pc := 3) [(0, .ref q0), (1, .ref q1), (2, .ref q2), (3, .int a3), (4, .int 0)] [1, 2, 3, 4, 0] rfl ?_
  exact wX3_isBroughtTo_L3 sh hw l hst q0 h0 q1 h1 q2 h2 a3 kFU 0 σ r h
theorem yw_X3_isBroughtTo : KMV yX3_isBroughtTo mX3_isBroughtTo RX3 3 := ⟨⟨rfl, by decide +kernel, by decide +kernel, by decide +kernel⟩, ⟨rfl, rfl⟩, kg_in 1029 (by decide +kernel) (by decide +kernel), kg_in 1030 (by decide +kernel) (by decide +kernel), kg_in 53 (by decide +kernel) (by decide +kernel), kg_in 1031 (by decide +kernel) (by decide +kernel)⟩
