theorem dX0_rankOf_0 : decode cX0_rankOf 0 = .ok (.aload_n 0, 1) := by decide +kernel
theorem dX0_rankOf_1 : decode cX0_rankOf 1 = .ok (.getfield 56, 3) := by decide +kernel
theorem dX0_rankOf_4 : decode cX0_rankOf 4 = .ok (.aload_n 0, 1) := by decide +kernel
theorem dX0_rankOf_5 : decode cX0_rankOf 5 = .ok (.iload_n 1, 1) := by decide +kernel
theorem dX0_rankOf_6 : decode cX0_rankOf 6 = .ok (.invokevirtual 45, 3) := by decide +kernel
theorem dX0_rankOf_9 : decode cX0_rankOf 9 = .ok (.aload_n 0, 1) := by decide +kernel
theorem dX0_rankOf_10 : decode cX0_rankOf 10 = .ok (.getfield 60, 3) := by decide +kernel
theorem dX0_rankOf_13 : decode cX0_rankOf 13 = .ok (.invokevirtual 63, 3) := by decide +kernel
theorem dX0_rankOf_16 : decode cX0_rankOf 16 = .ok (.istore_n 3, 1) := by decide +kernel
theorem dX0_rankOf_17 : decode cX0_rankOf 17 = .ok (.aload_n 0, 1) := by decide +kernel
theorem dX0_rankOf_18 : decode cX0_rankOf 18 = .ok (.iload_n 1, 1) := by decide +kernel
theorem dX0_rankOf_19 : decode cX0_rankOf 19 = .ok (.invokevirtual 69, 3) := by decide +kernel
theorem dX0_rankOf_22 : decode cX0_rankOf 22 = .ok (.istore 4, 2) := by decide +kernel
theorem dX0_rankOf_24 : decode cX0_rankOf 24 = .ok (.iload_n 2, 1) := by decide +kernel
theorem dX0_rankOf_25 : decode cX0_rankOf 25 = .ok (.ifCond .eq 10, 3) := by decide +kernel
theorem dX0_rankOf_28 : decode cX0_rankOf 28 = .ok (.bipush 12, 2) := by decide +kernel
theorem dX0_rankOf_30 : decode cX0_rankOf 30 = .ok (.iload_n 3, 1) := by decide +kernel
theorem dX0_rankOf_31 : decode cX0_rankOf 31 = .ok (.iadd, 1) := by decide +kernel
theorem dX0_rankOf_32 : decode cX0_rankOf 32 = .ok (.goto 7, 3) := by decide +kernel
theorem dX0_rankOf_35 : decode cX0_rankOf 35 = .ok (.bipush 12, 2) := by decide +kernel
theorem dX0_rankOf_37 : decode cX0_rankOf 37 = .ok (.iload_n 3, 1) := by decide +kernel
theorem dX0_rankOf_38 : decode cX0_rankOf 38 = .ok (.isub, 1) := by decide +kernel
theorem dX0_rankOf_39 : decode cX0_rankOf 39 = .ok (.istore 5, 2) := by decide +kernel
theorem dX0_rankOf_41 : decode cX0_rankOf 41 = .ok (.iload_n 2, 1) := by decide +kernel
theorem dX0_rankOf_42 : decode cX0_rankOf 42 = .ok (.ifCond .eq 8, 3) := by decide +kernel
theorem dX0_rankOf_45 : decode cX0_rankOf 45 = .ok (.iload 4, 2) := by decide +kernel
theorem dX0_rankOf_47 : decode cX0_rankOf 47 = .ok (.goto 8, 3) := by decide +kernel
theorem dX0_rankOf_50 : decode cX0_rankOf 50 = .ok (.bipush 10, 2) := by decide +kernel
theorem dX0_rankOf_52 : decode cX0_rankOf 52 = .ok (.iload 4, 2) := by decide +kernel
theorem dX0_rankOf_54 : decode cX0_rankOf 54 = .ok (.isub, 1) := by decide +kernel
theorem dX0_rankOf_55 : decode cX0_rankOf 55 = .ok (.istore 6, 2) := by decide +kernel
theorem dX0_rankOf_57 : decode cX0_rankOf 57 = .ok (.iload 5, 2) := by decide +kernel
theorem dX0_rankOf_59 : decode cX0_rankOf 59 = .ok (.bipush 11, 2) := by decide +kernel
theorem dX0_rankOf_61 : decode cX0_rankOf 61 = .ok (.imul, 1) := by decide +kernel
theorem dX0_rankOf_62 : decode cX0_rankOf 62 = .ok (.iload 6, 2) := by decide +kernel
theorem dX0_rankOf_64 : decode cX0_rankOf 64 = .ok (.iadd, 1) := by decide +kernel
theorem dX0_rankOf_65 : decode cX0_rankOf 65 = .ok (.bipush 32, 2) := by decide +kernel
theorem dX0_rankOf_67 : decode cX0_rankOf 67 = .ok (.imul, 1) := by decide +kernel
theorem dX0_rankOf_68 : decode cX0_rankOf 68 = .ok (.iload_n 1, 1) := by decide +kernel
theorem dX0_rankOf_69 : decode cX0_rankOf 69 = .ok (.iadd, 1) := by decide +kernel
theorem dX0_rankOf_70 : decode cX0_rankOf 70 = .ok (.ireturn, 1) := by decide +kernel
abbrev mX0_rankOf : KM := (RX0, cX0_rankOf, 7, (some .int), { frames := 2, cells := 0, slots := 0, locals := 47 }, 0, 0)
def fX0_rankOf_L55 (q0 : Nat) (a1 : Int32) (a2 : Int32) (v5 : Int32) (s0 : Int32) (σ : Sto) : Option Int32 :=
  some ((((v5 * 11) + s0) * 32) + a1)
def fX0_rankOf_L39 (q0 : Nat) (a1 : Int32) (a2 : Int32) (v4 : Int32) (s0 : Int32) (σ : Sto) : Option Int32 :=
  if a2 = 0 then
    fX0_rankOf_L55 q0 a1 a2 s0 (10 - v4) σ
  else
    fX0_rankOf_L55 q0 a1 a2 s0 v4 σ
def fX0_rankOf (q0 : Nat) (a1 : Int32) (a2 : Int32) (σ : Sto) : Option Int32 :=
  (fX5_cellOf q0 a1 σ).bind fun r1 =>
  (fX1_depthOf (q0 + 1) r1 (σ q0 1) σ).bind fun r4 =>
  (fX5_weightOf q0 a1 σ).bind fun r7 =>
  if a2 = 0 then
    fX0_rankOf_L39 q0 a1 a2 r7 (12 - r4) σ
  else
    fX0_rankOf_L39 q0 a1 a2 r7 (12 + r4) σ
set_option maxHeartbeats 4000000 in
set_option maxRecDepth 100000 in
theorem wX0_rankOf_L55 (sh : KSh) (hw : KWf sh) (l : Launch) (hst : l.stackTraces = false) (q0 : Nat) (h0 : sh q0 = .inl 5) (a1 : Int32) (a2 : Int32) : ∀ (v5 : Int32), ∀ (s0 : Int32), ∀ (σ : Sto), ∀ (r : Int32), fX0_rankOf_L55 q0 a1 a2 v5 s0 σ = some r → VV sh l mX0_rankOf 0 0 55 [(1, .int a1), (5, .int v5)] [.int s0] σ (0, .int r, σ) := by
  intro v5 s0 σ r h
  rw [fX0_rankOf_L55] at h
  refine kv_istore (pc := 55) [(6, .int s0), (1, .int a1), (5, .int v5)] dX0_rankOf_55 (by decide) rfl ?_
  refine kv_iload (pc := 57) 2 dX0_rankOf_57 rfl ?_
  refine kv_bipush (pc := 59) (v := 11) dX0_rankOf_59 (by decide) ?_
  refine kv_imul (pc := 61) dX0_rankOf_61 ?_
  refine kv_iload (pc := 62) 0 dX0_rankOf_62 rfl ?_
  refine kv_iadd (pc := 64) dX0_rankOf_64 ?_
  refine kv_bipush (pc := 65) (v := 32) dX0_rankOf_65 (by decide) ?_
  refine kv_imul (pc := 67) dX0_rankOf_67 ?_
  refine kv_iload_n (pc := 68) 1 dX0_rankOf_68 rfl rfl ?_
  refine kv_iadd (pc := 69) dX0_rankOf_69 ?_
  exact kv_iret (pc := 70) dX0_rankOf_70 rfl (by cases h; rfl) (by decide) (by decide)
set_option maxHeartbeats 4000000 in
set_option maxRecDepth 100000 in
theorem wX0_rankOf_L39 (sh : KSh) (hw : KWf sh) (l : Launch) (hst : l.stackTraces = false) (q0 : Nat) (h0 : sh q0 = .inl 5) (a1 : Int32) (a2 : Int32) : ∀ (v4 : Int32), ∀ (s0 : Int32), ∀ (σ : Sto), ∀ (r : Int32), fX0_rankOf_L39 q0 a1 a2 v4 s0 σ = some r → VV sh l mX0_rankOf 0 0 39 [(1, .int a1), (2, .int a2), (4, .int v4)] [.int s0] σ (0, .int r, σ) := by
  intro v4 s0 σ r h
  rw [fX0_rankOf_L39] at h
  refine kv_istore (pc := 39) [(5, .int s0), (1, .int a1), (2, .int a2), (4, .int v4)] dX0_rankOf_39 (by decide) rfl ?_
  refine kv_iload_n (pc := 41) 2 dX0_rankOf_41 rfl rfl ?_
  refine kv_if_eq (pc := 42) (tgt := 50) dX0_rankOf_42 (by decide) h (fun h => ?_) (fun h => ?_)
  · refine kv_bipush (pc := 50) (v := 10) dX0_rankOf_50 (by decide) ?_
    refine kv_iload (pc := 52) 3 dX0_rankOf_52 rfl ?_
    refine kv_isub (pc := 54) dX0_rankOf_54 ?_
    refine kv_sub (pc := 55) [(1, .int a1), (5, .int s0)] [1, 0] rfl ?_
    exact wX0_rankOf_L55 sh hw l hst q0 h0 a1 a2 s0 (10 - v4) σ r h
  · refine kv_iload (pc := 45) 3 dX0_rankOf_45 rfl ?_
    refine kv_goto (pc := 47) (tgt := 55) dX0_rankOf_47 (by decide) ?_
    refine kv_sub (pc := 55) [(1, .int a1), (5, .int s0)] [1, 0] rfl ?_
    exact wX0_rankOf_L55 sh hw l hst q0 h0 a1 a2 s0 v4 σ r h
set_option maxHeartbeats 4000000 in
set_option maxRecDepth 100000 in
theorem tX0_rankOf (sh : KSh) (hw : KWf sh) (l : Launch) (hst : l.stackTraces = false) (q0 : Nat) (h0 : sh q0 = .inl 5) (a1 : Int32) (a2 : Int32) (σ : Sto) (r : Int32) (h : fX0_rankOf q0 a1 a2 σ = some r) : CT sh l mX0_rankOf yX0_rankOf [.ref q0, .int a1, .int a2] σ (0, .int r, σ) := by
  refine kct [(0, .ref q0), (1, .int a1), (2, .int a2)] hst (by decide +kernel) rfl rfl (Nat.le_of_ble_eq_true rfl) ?_
  rw [fX0_rankOf] at h
  refine kv_aload_n (pc := 0) 0 dX0_rankOf_0 rfl rfl ?_
  refine kv_getR (pc := 1) (q2 := q0 + 1) dX0_rankOf_1 h0 rfl (i := 0) (by decide) rfl fl_X0_56 rfl rfl ?_
  refine kv_aload_n (pc := 4) 0 dX0_rankOf_4 rfl rfl ?_
  refine kv_iload_n (pc := 5) 1 dX0_rankOf_5 rfl rfl ?_
  refine kv_cV (pc := 6) [.int a1] (fun r1 => (0, .int r1, σ)) (fun r1 => (.int r1 :: [.ref (q0 + 1)])) (fun r1 => σ) 9 0 0 h (fun r1 g2 => tX5_cellOf sh hw l hst q0 h0 a1 σ r1 g2) dX0_rankOf_6 rfl h0 rfl yw_X5_cellOf lk_X0_45 (by decide) (Nat.le_of_ble_eq_true rfl) (by decide) (fun _ => rfl) (fun _ => rfl) ⟨rfl, rfl, rfl⟩ (fun _ _ h0 => absurd rfl h0) (fun r1 g2 z3 h => ?_)
  refine kv_aload_n (pc := 9) 0 dX0_rankOf_9 rfl rfl ?_
  refine kv_getI (pc := 10) dX0_rankOf_10 h0 rfl (i := 1) (by decide) rfl fl_X0_60 rfl ?_
  refine kv_cV (pc := 13) [.int r1, .int (σ q0 1)] (fun r4 => (0, .int r4, σ)) (fun r4 => (.int r4 :: [])) (fun r4 => σ) 16 0 0 h (fun r4 g5 => tX1_depthOf sh hw l hst (q0 + 1) (show sh (q0 + 1) = _ from kso_5_1 hw h0) r1 (σ q0 1) σ r4 g5) dX0_rankOf_13 rfl (show sh (q0 + 1) = _ from kso_5_1 hw h0) rfl yw_X1_depthOf lk_X0_63 (by decide) (Nat.le_of_ble_eq_true rfl) (by decide) (fun _ => rfl) (fun _ => rfl) ⟨rfl, rfl, rfl⟩ (fun _ _ h0 => absurd rfl h0) (fun r4 g5 z6 h => ?_)
  refine kv_istore_n (pc := 16) [(3, .int r4), (0, .ref q0), (1, .int a1), (2, .int a2)] dX0_rankOf_16 rfl (by decide) rfl ?_
  refine kv_aload_n (pc := 17) 1 dX0_rankOf_17 rfl rfl ?_
  refine kv_iload_n (pc := 18) 2 dX0_rankOf_18 rfl rfl ?_
  refine kv_cV (pc := 19) [.int a1] (fun r7 => (0, .int r7, σ)) (fun r7 => (.int r7 :: [])) (fun r7 => σ) 22 0 0 h (fun r7 g8 => tX5_weightOf sh hw l hst q0 h0 a1 σ r7 g8) dX0_rankOf_19 rfl h0 rfl yw_X5_weightOf lk_X0_69 (by decide) (Nat.le_of_ble_eq_true rfl) (by decide) (fun _ => rfl) (fun _ => rfl) ⟨rfl, rfl, rfl⟩ (fun _ _ h0 => absurd rfl h0) (fun r7 g8 z9 h => ?_)
  refine kv_istore (pc := 22) [(4, .int r7), (3, .int r4), (0, .ref q0), (1, .int a1), (2, .int a2)] dX0_rankOf_22 (by decide) rfl ?_
  refine kv_iload_n (pc := 24) 4 dX0_rankOf_24 rfl rfl ?_
  refine kv_if_eq (pc := 25) (tgt := 35) dX0_rankOf_25 (by decide) h (fun h => ?_) (fun h => ?_)
  · refine kv_bipush (pc := 35) (v := 12) dX0_rankOf_35 (by decide) ?_
    refine kv_iload_n (pc := 37) 1 dX0_rankOf_37 rfl rfl ?_
    refine kv_isub (pc := 38) dX0_rankOf_38 ?_
    refine kv_sub (pc := 39) [(1, .int a1), (2, .int a2), (4, .int r7)] [3, 4, 0] rfl ?_
    exact wX0_rankOf_L39 sh hw l hst q0 h0 a1 a2 r7 (12 - r4) σ r h
  · refine kv_bipush (pc := 28) (v := 12) dX0_rankOf_28 (by decide) ?_
    refine kv_iload_n (pc := 30) 1 dX0_rankOf_30 rfl rfl ?_
    refine kv_iadd (pc := 31) dX0_rankOf_31 ?_
    refine kv_goto (pc := 32) (tgt := 39) dX0_rankOf_32 (by decide) ?_
    refine kv_sub (pc := 39) [(1, .int a1), (2, .int a2), (4, .int r7)] [3, 4, 0] rfl ?_
    exact wX0_rankOf_L39 sh hw l hst q0 h0 a1 a2 r7 (12 + r4) σ r h
theorem yw_X0_rankOf : KMS yX0_rankOf mX0_rankOf 3 := ⟨⟨by decide +kernel, by decide +kernel, by decide +kernel⟩, ⟨rfl, rfl⟩, kg_in 760 (by decide +kernel) (by decide +kernel), kg_in 54 (by decide +kernel) (by decide +kernel), kg_in 761 (by decide +kernel) (by decide +kernel)⟩
theorem dX0_insert_0 : decode cX0_insert 0 = .ok (.aload_n 0, 1) := by decide +kernel
theorem dX0_insert_1 : decode cX0_insert 1 = .ok (.getfield 25, 3) := by decide +kernel
theorem dX0_insert_4 : decode cX0_insert 4 = .ok (.ifCond .lt 12, 3) := by decide +kernel
theorem dX0_insert_7 : decode cX0_insert 7 = .ok (.aload_n 0, 1) := by decide +kernel
theorem dX0_insert_8 : decode cX0_insert 8 = .ok (.getfield 25, 3) := by decide +kernel
theorem dX0_insert_11 : decode cX0_insert 11 = .ok (.bipush 30, 2) := by decide +kernel
theorem dX0_insert_13 : decode cX0_insert 13 = .ok (.if_icmp .lt 4, 3) := by decide +kernel
theorem dX0_insert_16 : decode cX0_insert 16 = .ok (.return_, 1) := by decide +kernel
theorem dX0_insert_17 : decode cX0_insert 17 = .ok (.aload_n 0, 1) := by decide +kernel
theorem dX0_insert_18 : decode cX0_insert 18 = .ok (.getfield 25, 3) := by decide +kernel
theorem dX0_insert_21 : decode cX0_insert 21 = .ok (.istore_n 2, 1) := by decide +kernel
theorem dX0_insert_22 : decode cX0_insert 22 = .ok (.aload_n 0, 1) := by decide +kernel
theorem dX0_insert_23 : decode cX0_insert 23 = .ok (.dup, 1) := by decide +kernel
theorem dX0_insert_24 : decode cX0_insert 24 = .ok (.getfield 25, 3) := by decide +kernel
theorem dX0_insert_27 : decode cX0_insert 27 = .ok (.iconst 1, 1) := by decide +kernel
theorem dX0_insert_28 : decode cX0_insert 28 = .ok (.iadd, 1) := by decide +kernel
theorem dX0_insert_29 : decode cX0_insert 29 = .ok (.putfield 25, 3) := by decide +kernel
theorem dX0_insert_32 : decode cX0_insert 32 = .ok (.iload_n 2, 1) := by decide +kernel
theorem dX0_insert_33 : decode cX0_insert 33 = .ok (.ifCond .le 35, 3) := by decide +kernel
theorem dX0_insert_36 : decode cX0_insert 36 = .ok (.aload_n 0, 1) := by decide +kernel
theorem dX0_insert_37 : decode cX0_insert 37 = .ok (.getfield 9, 3) := by decide +kernel
theorem dX0_insert_40 : decode cX0_insert 40 = .ok (.iload_n 2, 1) := by decide +kernel
theorem dX0_insert_41 : decode cX0_insert 41 = .ok (.iconst 1, 1) := by decide +kernel
theorem dX0_insert_42 : decode cX0_insert 42 = .ok (.isub, 1) := by decide +kernel
theorem dX0_insert_43 : decode cX0_insert 43 = .ok (.iaload, 1) := by decide +kernel
theorem dX0_insert_44 : decode cX0_insert 44 = .ok (.iload_n 1, 1) := by decide +kernel
theorem dX0_insert_45 : decode cX0_insert 45 = .ok (.if_icmp .le 23, 3) := by decide +kernel
theorem dX0_insert_48 : decode cX0_insert 48 = .ok (.aload_n 0, 1) := by decide +kernel
theorem dX0_insert_49 : decode cX0_insert 49 = .ok (.getfield 9, 3) := by decide +kernel
theorem dX0_insert_52 : decode cX0_insert 52 = .ok (.iload_n 2, 1) := by decide +kernel
theorem dX0_insert_53 : decode cX0_insert 53 = .ok (.aload_n 0, 1) := by decide +kernel
theorem dX0_insert_54 : decode cX0_insert 54 = .ok (.getfield 9, 3) := by decide +kernel
theorem dX0_insert_57 : decode cX0_insert 57 = .ok (.iload_n 2, 1) := by decide +kernel
theorem dX0_insert_58 : decode cX0_insert 58 = .ok (.iconst 1, 1) := by decide +kernel
theorem dX0_insert_59 : decode cX0_insert 59 = .ok (.isub, 1) := by decide +kernel
theorem dX0_insert_60 : decode cX0_insert 60 = .ok (.iaload, 1) := by decide +kernel
theorem dX0_insert_61 : decode cX0_insert 61 = .ok (.iastore, 1) := by decide +kernel
theorem dX0_insert_62 : decode cX0_insert 62 = .ok (.iinc 2 (-1), 3) := by decide +kernel
theorem dX0_insert_65 : decode cX0_insert 65 = .ok (.goto (-33), 3) := by decide +kernel
theorem dX0_insert_68 : decode cX0_insert 68 = .ok (.aload_n 0, 1) := by decide +kernel
theorem dX0_insert_69 : decode cX0_insert 69 = .ok (.getfield 9, 3) := by decide +kernel
theorem dX0_insert_72 : decode cX0_insert 72 = .ok (.iload_n 2, 1) := by decide +kernel
theorem dX0_insert_73 : decode cX0_insert 73 = .ok (.iload_n 1, 1) := by decide +kernel
theorem dX0_insert_74 : decode cX0_insert 74 = .ok (.iastore, 1) := by decide +kernel
theorem dX0_insert_75 : decode cX0_insert 75 = .ok (.return_, 1) := by decide +kernel
abbrev mX0_insert : KM := (RX0, cX0_insert, 3, none, { frames := 0, cells := 0, slots := 0, locals := 0 }, 0, 0)
def fX0_insert_L68 (q0 : Nat) (a1 : Int32) (v2 : Int32) (σ : Sto) : Option Sto :=
  if kin v2 30 = true then
    klet (su σ (q0 + 1) v2.toNatClampNeg a1) fun σ2 =>
    some σ2
  else none
def fX0_insert_L32 (q0 : Nat) (a1 : Int32) : Nat → Int32 → Sto → Option Sto
  | 0, _, _ => none
  | fu + 1, v2, σ =>
    if v2 ≤ 0 then
      fX0_insert_L68 q0 a1 v2 σ
    else
      if kin (v2 - 1) 30 = true then
        if (σ (q0 + 1) (v2 - 1).toNatClampNeg) ≤ a1 then
          fX0_insert_L68 q0 a1 v2 σ
        else
          if kin (v2 - 1) 30 = true then
            if kin v2 30 = true then
              klet (su σ (q0 + 1) v2.toNatClampNeg (σ (q0 + 1) (v2 - 1).toNatClampNeg)) fun σ3 =>
              fX0_insert_L32 q0 a1 fu (v2 + (-1)) σ3
            else none
          else none
      else none
def fX0_insert (q0 : Nat) (a1 : Int32) (σ : Sto) : Option Sto :=
  if (σ q0 1) < 0 then
    some σ
  else
    if (σ q0 1) < 30 then
      klet (su σ q0 1 ((σ q0 1) + 1)) fun σ1 =>
      fX0_insert_L32 q0 a1 kFU (σ q0 1) σ1
    else
      some σ
set_option maxHeartbeats 4000000 in
set_option maxRecDepth 100000 in
theorem wX0_insert_L68 (sh : KSh) (hw : KWf sh) (l : Launch) (hst : l.stackTraces = false) (q0 : Nat) (h0 : sh q0 = .inl 0) (a1 : Int32) : ∀ (v2 : Int32), ∀ (σ : Sto), ∀ (r : Sto), fX0_insert_L68 q0 a1 v2 σ = some r → VV sh l mX0_insert 0 0 68 [(0, .ref q0), (1, .int a1), (2, .int v2)] [] σ (0, .int 0, r) := by
  intro v2 σ r h
  rw [fX0_insert_L68] at h
  refine kv_aload_n (pc := 68) 0 dX0_insert_68 rfl rfl ?_
  refine kv_getR (pc := 69) (q2 := q0 + 1) dX0_insert_69 h0 rfl (i := 0) (by decide) rfl fl_X0_9 rfl rfl ?_
  refine kv_iload_n (pc := 72) 2 dX0_insert_72 rfl rfl ?_
  refine kv_iload_n (pc := 73) 1 dX0_insert_73 rfl rfl ?_
  refine kv_iast (pc := 74) dX0_insert_74 (show sh (q0 + 1) = _ from kso_0_1 hw h0) h (fun h => ?_)
  refine kv_let h (fun σ2 h => ?_)
  exact kv_vret (pc := 75) (v := .int 0) dX0_insert_75 rfl (by cases h; rfl) (by decide) (by decide)
set_option maxHeartbeats 4000000 in
set_option maxRecDepth 100000 in
theorem wX0_insert_L32 (sh : KSh) (hw : KWf sh) (l : Launch) (hst : l.stackTraces = false) (q0 : Nat) (h0 : sh q0 = .inl 0) (a1 : Int32) : ∀ (fu : Nat), ∀ (v2 : Int32), ∀ (σ : Sto), ∀ (r : Sto), fX0_insert_L32 q0 a1 fu v2 σ = some r → VV sh l mX0_insert 0 0 32 [(0, .ref q0), (1, .int a1), (2, .int v2)] [] σ (0, .int 0, r) := by
  intro fu
  induction fu with
  | zero => intro v2 σ r h; rw [fX0_insert_L32] at h; cases h
  | succ fu ih =>
    intro v2 σ r h
    rw [fX0_insert_L32] at h
    refine kv_iload_n (pc := 32) 2 dX0_insert_32 rfl rfl ?_
    refine kv_if_le (pc := 33) (tgt := 68) dX0_insert_33 (by decide) h (fun h => ?_) (fun h => ?_)
    · refine kv_sub (pc := 68) [(0, .ref q0), (1, .int a1), (2, .int v2)] [0, 1, 2] rfl ?_
      exact wX0_insert_L68 sh hw l hst q0 h0 a1 v2 σ r h
    · refine kv_aload_n (pc := 36) 0 dX0_insert_36 rfl rfl ?_
      refine kv_getR (pc := 37) (q2 := q0 + 1) dX0_insert_37 h0 rfl (i := 0) (by decide) rfl fl_X0_9 rfl rfl ?_
      refine kv_iload_n (pc := 40) 2 dX0_insert_40 rfl rfl ?_
      refine kv_iconst (pc := 41) (v := 1) dX0_insert_41 (by decide) ?_
      refine kv_isub (pc := 42) dX0_insert_42 ?_
      refine kv_iald (pc := 43) dX0_insert_43 (show sh (q0 + 1) = _ from kso_0_1 hw h0) h (fun h => ?_)
      refine kv_iload_n (pc := 44) 1 dX0_insert_44 rfl rfl ?_
      refine kv_icmp_le (pc := 45) (tgt := 68) dX0_insert_45 (by decide) h (fun h => ?_) (fun h => ?_)
      · refine kv_sub (pc := 68) [(0, .ref q0), (1, .int a1), (2, .int v2)] [0, 1, 2] rfl ?_
        exact wX0_insert_L68 sh hw l hst q0 h0 a1 v2 σ r h
      · refine kv_aload_n (pc := 48) 0 dX0_insert_48 rfl rfl ?_
        refine kv_getR (pc := 49) (q2 := q0 + 1) dX0_insert_49 h0 rfl (i := 0) (by decide) rfl fl_X0_9 rfl rfl ?_
        refine kv_iload_n (pc := 52) 2 dX0_insert_52 rfl rfl ?_
        refine kv_aload_n (pc := 53) 0 dX0_insert_53 rfl rfl ?_
        refine kv_getR (pc := 54) (q2 := q0 + 1) dX0_insert_54 h0 rfl (i := 0) (by decide) rfl fl_X0_9 rfl rfl ?_
        refine kv_iload_n (pc := 57) 2 dX0_insert_57 rfl rfl ?_
        refine kv_iconst (pc := 58) (v := 1) dX0_insert_58 (by decide) ?_
        refine kv_isub (pc := 59) dX0_insert_59 ?_
        refine kv_iald (pc := 60) dX0_insert_60 (show sh (q0 + 1) = _ from kso_0_1 hw h0) h (fun h => ?_)
        refine kv_iast (pc := 61) dX0_insert_61 (show sh (q0 + 1) = _ from kso_0_1 hw h0) h (fun h => ?_)
        refine kv_let h (fun σ3 h => ?_)
        refine kv_iinc (pc := 62) (v := v2 + (-1)) 2 [(2, .int (v2 + (-1))), (0, .ref q0), (1, .int a1)] dX0_insert_62 rfl rfl (by decide) rfl ?_
        refine kv_goto (pc := 65) (tgt := 32) dX0_insert_65 (by decide) ?_
        refine kv_sub (pc := 32) [(0, .ref q0), (1, .int a1), (2, .int (v2 + (-1)))] [1, 2, 0] rfl ?_
        exact ih (v2 + (-1)) σ3 r h
set_option maxHeartbeats 4000000 in
set_option maxRecDepth 100000 in
theorem tX0_insert (sh : KSh) (hw : KWf sh) (l : Launch) (hst : l.stackTraces = false) (q0 : Nat) (h0 : sh q0 = .inl 0) (a1 : Int32) (σ : Sto) (r : Sto) (h : fX0_insert q0 a1 σ = some r) : CT sh l mX0_insert yX0_insert [.ref q0, .int a1] σ (0, .int 0, r) := by
  refine kct [(0, .ref q0), (1, .int a1)] hst (by decide +kernel) rfl rfl (Nat.le_of_ble_eq_true rfl) ?_
  rw [fX0_insert] at h
  refine kv_aload_n (pc := 0) 0 dX0_insert_0 rfl rfl ?_
  refine kv_getI (pc := 1) dX0_insert_1 h0 rfl (i := 1) (by decide) rfl fl_X0_25 rfl ?_
  refine kv_if_lt (pc := 4) (tgt := 16) dX0_insert_4 (by decide) h (fun h => ?_) (fun h => ?_)
  · exact kv_vret (pc := 16) (v := .int 0) dX0_insert_16 rfl (by cases h; rfl) (by decide) (by decide)
  · refine kv_aload_n (pc := 7) 0 dX0_insert_7 rfl rfl ?_
    refine kv_getI (pc := 8) dX0_insert_8 h0 rfl (i := 1) (by decide) rfl fl_X0_25 rfl ?_
    refine kv_bipush (pc := 11) (v := 30) dX0_insert_11 (by decide) ?_
    refine kv_icmp_lt (pc := 13) (tgt := 17) dX0_insert_13 (by decide) h (fun h => ?_) (fun h => ?_)
    · refine kv_aload_n (pc := 17) 0 dX0_insert_17 rfl rfl ?_
      refine kv_getI (pc := 18) dX0_insert_18 h0 rfl (i := 1) (by decide) rfl fl_X0_25 rfl ?_
      refine kv_istore_n (pc := 21) [(2, .int (σ q0 1)), (0, .ref q0), (1, .int a1)] dX0_insert_21 rfl (by decide) rfl ?_
      refine kv_aload_n (pc := 22) 1 dX0_insert_22 rfl rfl ?_
      refine kv_dup (pc := 23) dX0_insert_23 rfl ?_
      refine kv_getI (pc := 24) dX0_insert_24 h0 rfl (i := 1) (by decide) rfl fl_X0_25 rfl ?_
      refine kv_iconst (pc := 27) (v := 1) dX0_insert_27 (by decide) ?_
      refine kv_iadd (pc := 28) dX0_insert_28 ?_
      refine kv_put (pc := 29) tyX0 tyX0_ok nmX0 dX0_insert_29 h0 rfl (i := 1) (by decide) rfl fl_X0_25 rfl rfl rfl rfl rfl ?_
      refine kv_let h (fun σ1 h => ?_)
      refine kv_sub (pc := 32) [(0, .ref q0), (1, .int a1), (2, .int (σ q0 1))] [1, 2, 0] rfl ?_
      exact wX0_insert_L32 sh hw l hst q0 h0 a1 kFU (σ q0 1) σ1 r h
    · exact kv_vret (pc := 16) (v := .int 0) dX0_insert_16 rfl (by cases h; rfl) (by decide) (by decide)
theorem yw_X0_insert : KMV yX0_insert mX0_insert RX0 1 := ⟨⟨rfl, by decide +kernel, by decide +kernel, by decide +kernel⟩, ⟨rfl, rfl⟩, kg_in 772 (by decide +kernel) (by decide +kernel), kg_in 32 (by decide +kernel) (by decide +kernel), kg_in 54 (by decide +kernel) (by decide +kernel), kg_in 773 (by decide +kernel) (by decide +kernel)⟩
theorem dX0_lineUp_0 : decode cX0_lineUp 0 = .ok (.aload_n 0, 1) := by decide +kernel
theorem dX0_lineUp_1 : decode cX0_lineUp 1 = .ok (.iconst 0, 1) := by decide +kernel
theorem dX0_lineUp_2 : decode cX0_lineUp 2 = .ok (.putfield 25, 3) := by decide +kernel
theorem dX0_lineUp_5 : decode cX0_lineUp 5 = .ok (.iconst 0, 1) := by decide +kernel
theorem dX0_lineUp_6 : decode cX0_lineUp 6 = .ok (.istore_n 3, 1) := by decide +kernel
theorem dX0_lineUp_7 : decode cX0_lineUp 7 = .ok (.iload_n 3, 1) := by decide +kernel
theorem dX0_lineUp_8 : decode cX0_lineUp 8 = .ok (.aload_n 1, 1) := by decide +kernel
theorem dX0_lineUp_9 : decode cX0_lineUp 9 = .ok (.getfield 38, 3) := by decide +kernel
theorem dX0_lineUp_12 : decode cX0_lineUp 12 = .ok (.if_icmp .ge 76, 3) := by decide +kernel
theorem dX0_lineUp_15 : decode cX0_lineUp 15 = .ok (.aload_n 1, 1) := by decide +kernel
theorem dX0_lineUp_16 : decode cX0_lineUp 16 = .ok (.iload_n 3, 1) := by decide +kernel
theorem dX0_lineUp_17 : decode cX0_lineUp 17 = .ok (.invokevirtual 41, 3) := by decide +kernel
theorem dX0_lineUp_20 : decode cX0_lineUp 20 = .ok (.istore 4, 2) := by decide +kernel
theorem dX0_lineUp_22 : decode cX0_lineUp 22 = .ok (.iload_n 2, 1) := by decide +kernel
theorem dX0_lineUp_23 : decode cX0_lineUp 23 = .ok (.ifCond .eq 17, 3) := by decide +kernel
theorem dX0_lineUp_26 : decode cX0_lineUp 26 = .ok (.iload 4, 2) := by decide +kernel
theorem dX0_lineUp_28 : decode cX0_lineUp 28 = .ok (.iconst 2, 1) := by decide +kernel
theorem dX0_lineUp_29 : decode cX0_lineUp 29 = .ok (.if_icmp .ne 7, 3) := by decide +kernel
theorem dX0_lineUp_32 : decode cX0_lineUp 32 = .ok (.iconst 1, 1) := by decide +kernel
theorem dX0_lineUp_33 : decode cX0_lineUp 33 = .ok (.goto 23, 3) := by decide +kernel
theorem dX0_lineUp_36 : decode cX0_lineUp 36 = .ok (.iconst 0, 1) := by decide +kernel
theorem dX0_lineUp_37 : decode cX0_lineUp 37 = .ok (.goto 19, 3) := by decide +kernel
theorem dX0_lineUp_40 : decode cX0_lineUp 40 = .ok (.iload 4, 2) := by decide +kernel
theorem dX0_lineUp_42 : decode cX0_lineUp 42 = .ok (.ifCond .eq 9, 3) := by decide +kernel
theorem dX0_lineUp_45 : decode cX0_lineUp 45 = .ok (.iload 4, 2) := by decide +kernel
theorem dX0_lineUp_47 : decode cX0_lineUp 47 = .ok (.iconst 1, 1) := by decide +kernel
theorem dX0_lineUp_48 : decode cX0_lineUp 48 = .ok (.if_icmp .ne 7, 3) := by decide +kernel
theorem dX0_lineUp_51 : decode cX0_lineUp 51 = .ok (.iconst 1, 1) := by decide +kernel
theorem dX0_lineUp_52 : decode cX0_lineUp 52 = .ok (.goto 4, 3) := by decide +kernel
theorem dX0_lineUp_55 : decode cX0_lineUp 55 = .ok (.iconst 0, 1) := by decide +kernel
theorem dX0_lineUp_56 : decode cX0_lineUp 56 = .ok (.istore 5, 2) := by decide +kernel
theorem dX0_lineUp_58 : decode cX0_lineUp 58 = .ok (.iload 5, 2) := by decide +kernel
theorem dX0_lineUp_60 : decode cX0_lineUp 60 = .ok (.ifCond .eq 22, 3) := by decide +kernel
theorem dX0_lineUp_63 : decode cX0_lineUp 63 = .ok (.aload_n 1, 1) := by decide +kernel
theorem dX0_lineUp_64 : decode cX0_lineUp 64 = .ok (.iload_n 3, 1) := by decide +kernel
theorem dX0_lineUp_65 : decode cX0_lineUp 65 = .ok (.invokevirtual 45, 3) := by decide +kernel
theorem dX0_lineUp_68 : decode cX0_lineUp 68 = .ok (.iconst (-1), 1) := by decide +kernel
theorem dX0_lineUp_69 : decode cX0_lineUp 69 = .ok (.if_icmp .eq 13, 3) := by decide +kernel
theorem dX0_lineUp_72 : decode cX0_lineUp 72 = .ok (.aload_n 0, 1) := by decide +kernel
theorem dX0_lineUp_73 : decode cX0_lineUp 73 = .ok (.aload_n 1, 1) := by decide +kernel
theorem dX0_lineUp_74 : decode cX0_lineUp 74 = .ok (.iload_n 3, 1) := by decide +kernel
theorem dX0_lineUp_75 : decode cX0_lineUp 75 = .ok (.iload_n 2, 1) := by decide +kernel
theorem dX0_lineUp_76 : decode cX0_lineUp 76 = .ok (.invokestatic 48, 3) := by decide +kernel
theorem dX0_lineUp_79 : decode cX0_lineUp 79 = .ok (.invokevirtual 52, 3) := by decide +kernel
theorem dX0_lineUp_82 : decode cX0_lineUp 82 = .ok (.iinc 3 1, 3) := by decide +kernel
theorem dX0_lineUp_85 : decode cX0_lineUp 85 = .ok (.goto (-78), 3) := by decide +kernel
theorem dX0_lineUp_88 : decode cX0_lineUp 88 = .ok (.return_, 1) := by decide +kernel
abbrev mX0_lineUp : KM := (RX0, cX0_lineUp, 6, none, { frames := 3, cells := 0, slots := 0, locals := 73 }, 0, 0)
def fX0_lineUp_L82 (q0 : Nat) (q1 : Nat) (a2 : Int32) (K7 : Int32 → Sto → Option Sto) (v3 : Int32) (σ : Sto) : Option Sto :=
  K7 (v3 + 1) σ
def fX0_lineUp_L56 (q0 : Nat) (q1 : Nat) (a2 : Int32) (K7 : Int32 → Sto → Option Sto) (v3 : Int32) (s0 : Int32) (σ : Sto) : Option Sto :=
  if s0 = 0 then
    fX0_lineUp_L82 q0 q1 a2 K7 v3 σ
  else
    (fX5_cellOf q1 v3 σ).bind fun r5 =>
    if r5 = (-1) then
      fX0_lineUp_L82 q0 q1 a2 K7 v3 σ
    else
      (fX0_rankOf q1 v3 a2 σ).bind fun r8 =>
      (fX0_insert q0 r8 σ).bind fun r11 =>
      fX0_lineUp_L82 q0 q1 a2 K7 v3 r11
def fX0_lineUp_L51 (q0 : Nat) (q1 : Nat) (a2 : Int32) (K7 : Int32 → Sto → Option Sto) (v3 : Int32) (σ : Sto) : Option Sto :=
  fX0_lineUp_L56 q0 q1 a2 K7 v3 1 σ
def fX0_lineUp_L7 (q0 : Nat) (q1 : Nat) (a2 : Int32) : Nat → Int32 → Sto → Option Sto
  | 0, _, _ => none
  | fu + 1, v3, σ =>
    if (σ q1 8) ≤ v3 then
      some σ
    else
      (fX5_kindOf q1 v3 σ).bind fun r2 =>
      if a2 = 0 then
        if r2 = 0 then
          fX0_lineUp_L51 q0 q1 a2 (fX0_lineUp_L7 q0 q1 a2 fu) v3 σ
        else
          if r2 = 1 then
            fX0_lineUp_L51 q0 q1 a2 (fX0_lineUp_L7 q0 q1 a2 fu) v3 σ
          else
            fX0_lineUp_L56 q0 q1 a2 (fX0_lineUp_L7 q0 q1 a2 fu) v3 0 σ
      else
        if r2 = 2 then
          fX0_lineUp_L56 q0 q1 a2 (fX0_lineUp_L7 q0 q1 a2 fu) v3 1 σ
        else
          fX0_lineUp_L56 q0 q1 a2 (fX0_lineUp_L7 q0 q1 a2 fu) v3 0 σ
def fX0_lineUp (q0 : Nat) (q1 : Nat) (a2 : Int32) (σ : Sto) : Option Sto :=
  klet (su σ q0 1 0) fun σ1 =>
  fX0_lineUp_L7 q0 q1 a2 kFU 0 σ1
set_option maxHeartbeats 4000000 in
set_option maxRecDepth 100000 in
theorem wX0_lineUp_L82 (sh : KSh) (hw : KWf sh) (l : Launch) (hst : l.stackTraces = false) (q0 : Nat) (h0 : sh q0 = .inl 0) (q1 : Nat) (h1 : sh q1 = .inl 5) (a2 : Int32) (K7 : Int32 → Sto → Option Sto) (hK7 : ∀ (v3 : Int32), ∀ (σ : Sto), ∀ (r : Sto), K7 v3 σ = some r → VV sh l mX0_lineUp 0 0 7 [(0, .ref q0), (1, .ref q1), (2, .int a2), (3, .int v3)] [] σ (0, .int 0, r)) : ∀ (v3 : Int32), ∀ (σ : Sto), ∀ (r : Sto), fX0_lineUp_L82 q0 q1 a2 K7 v3 σ = some r → VV sh l mX0_lineUp 0 0 82 [(0, .ref q0), (1, .ref q1), (2, .int a2), (3, .int v3)] [] σ (0, .int 0, r) := by
  intro v3 σ r h
  rw [fX0_lineUp_L82] at h
  refine kv_iinc (pc := 82) (v := v3 + 1) 3 [(3, .int (v3 + 1)), (0, .ref q0), (1, .ref q1), (2, .int a2)] dX0_lineUp_82 rfl rfl (by decide) rfl ?_
  refine kv_goto (pc := 85) (tgt := 7) dX0_lineUp_85 (by decide) ?_
  refine kv_sub (pc := 7) [(0, .ref q0), (1, .ref q1), (2, .int a2), (3, .int (v3 + 1))] [1, 2, 3, 0] rfl ?_
  exact hK7 (v3 + 1) σ r h
set_option maxHeartbeats 4000000 in
set_option maxRecDepth 100000 in
theorem wX0_lineUp_L56 (sh : KSh) (hw : KWf sh) (l : Launch) (hst : l.stackTraces = false) (q0 : Nat) (h0 : sh q0 = .inl 0) (q1 : Nat) (h1 : sh q1 = .inl 5) (a2 : Int32) (K7 : Int32 → Sto → Option Sto) (hK7 : ∀ (v3 : Int32), ∀ (σ : Sto), ∀ (r : Sto), K7 v3 σ = some r → VV sh l mX0_lineUp 0 0 7 [(0, .ref q0), (1, .ref q1), (2, .int a2), (3, .int v3)] [] σ (0, .int 0, r)) : ∀ (v3 : Int32), ∀ (s0 : Int32), ∀ (σ : Sto), ∀ (r : Sto), fX0_lineUp_L56 q0 q1 a2 K7 v3 s0 σ = some r → VV sh l mX0_lineUp 0 0 56 [(0, .ref q0), (1, .ref q1), (2, .int a2), (3, .int v3)] [.int s0] σ (0, .int 0, r) := by
  intro v3 s0 σ r h
  rw [fX0_lineUp_L56] at h
  refine kv_istore (pc := 56) [(5, .int s0), (0, .ref q0), (1, .ref q1), (2, .int a2), (3, .int v3)] dX0_lineUp_56 (by decide) rfl ?_
  refine kv_iload (pc := 58) 0 dX0_lineUp_58 rfl ?_
  refine kv_if_eq (pc := 60) (tgt := 82) dX0_lineUp_60 (by decide) h (fun h => ?_) (fun h => ?_)
  · refine kv_sub (pc := 82) [(0, .ref q0), (1, .ref q1), (2, .int a2), (3, .int v3)] [1, 2, 3, 4] rfl ?_
    exact wX0_lineUp_L82 sh hw l hst q0 h0 q1 h1 a2 K7 hK7 v3 σ r h
  · refine kv_aload_n (pc := 63) 2 dX0_lineUp_63 rfl rfl ?_
    refine kv_iload_n (pc := 64) 4 dX0_lineUp_64 rfl rfl ?_
    refine kv_cV (pc := 65) [.int v3] (fun r5 => (0, .int r5, σ)) (fun r5 => (.int r5 :: [])) (fun r5 => σ) 68 0 0 h (fun r5 g6 => tX5_cellOf sh hw l hst q1 h1 v3 σ r5 g6) dX0_lineUp_65 rfl h1 rfl yw_X5_cellOf lk_X0_45 (by decide) (Nat.le_of_ble_eq_true rfl) (by decide) (fun _ => rfl) (fun _ => rfl) ⟨rfl, rfl, rfl⟩ (fun _ _ h0 => absurd rfl h0) (fun r5 g6 z7 h => ?_)
    refine kv_iconst (pc := 68) (v := (-1)) dX0_lineUp_68 (by decide) ?_
    refine kv_icmp_eq (pc := 69) (tgt := 82) dX0_lineUp_69 (by decide) h (fun h => ?_) (fun h => ?_)
    · refine kv_sub (pc := 82) [(0, .ref q0), (1, .ref q1), (2, .int a2), (3, .int v3)] [1, 2, 3, 4] rfl ?_
      exact wX0_lineUp_L82 sh hw l hst q0 h0 q1 h1 a2 K7 hK7 v3 σ r h
    · refine kv_aload_n (pc := 72) 1 dX0_lineUp_72 rfl rfl ?_
      refine kv_aload_n (pc := 73) 2 dX0_lineUp_73 rfl rfl ?_
      refine kv_iload_n (pc := 74) 4 dX0_lineUp_74 rfl rfl ?_
      refine kv_iload_n (pc := 75) 3 dX0_lineUp_75 rfl rfl ?_
      refine kv_cS (pc := 76) [.ref q1, .int v3, .int a2] (fun r8 => (0, .int r8, σ)) (fun r8 => (.int r8 :: [.ref q0])) (fun r8 => σ) 79 0 0 h (fun r8 g9 => tX0_rankOf sh hw l hst q1 h1 v3 a2 σ r8 g9) dX0_lineUp_76 rfl yw_X0_rankOf lk_X0_48 (by decide) (Nat.le_of_ble_eq_true rfl) (by decide) (fun _ => rfl) (fun _ => rfl) ⟨rfl, rfl, rfl⟩ (fun _ _ h0 => absurd rfl h0) (fun r8 g9 z10 h => ?_)
      refine kv_cV (pc := 79) [.int r8] (fun r11 => (0, .int 0, r11)) (fun r11 => []) (fun r11 => r11) 82 0 0 h (fun r11 g12 => tX0_insert sh hw l hst q0 h0 r8 σ r11 g12) dX0_lineUp_79 rfl h0 rfl yw_X0_insert lk_X0_52 (by decide) (Nat.le_of_ble_eq_true rfl) (by decide) (fun _ => rfl) (fun _ => rfl) ⟨rfl, rfl, rfl⟩ (fun _ _ h0 => absurd rfl h0) (fun r11 g12 z13 h => ?_)
      refine kv_sub (pc := 82) [(0, .ref q0), (1, .ref q1), (2, .int a2), (3, .int v3)] [1, 2, 3, 4] rfl ?_
      exact wX0_lineUp_L82 sh hw l hst q0 h0 q1 h1 a2 K7 hK7 v3 r11 r h
set_option maxHeartbeats 4000000 in
set_option maxRecDepth 100000 in
theorem wX0_lineUp_L51 (sh : KSh) (hw : KWf sh) (l : Launch) (hst : l.stackTraces = false) (q0 : Nat) (h0 : sh q0 = .inl 0) (q1 : Nat) (h1 : sh q1 = .inl 5) (a2 : Int32) (K7 : Int32 → Sto → Option Sto) (hK7 : ∀ (v3 : Int32), ∀ (σ : Sto), ∀ (r : Sto), K7 v3 σ = some r → VV sh l mX0_lineUp 0 0 7 [(0, .ref q0), (1, .ref q1), (2, .int a2), (3, .int v3)] [] σ (0, .int 0, r)) : ∀ (v3 : Int32), ∀ (σ : Sto), ∀ (r : Sto), fX0_lineUp_L51 q0 q1 a2 K7 v3 σ = some r → VV sh l mX0_lineUp 0 0 51 [(0, .ref q0), (1, .ref q1), (2, .int a2), (3, .int v3)] [] σ (0, .int 0, r) := by
  intro v3 σ r h
  rw [fX0_lineUp_L51] at h
  refine kv_iconst (pc := 51) (v := 1) dX0_lineUp_51 (by decide) ?_
  refine kv_goto (pc := 52) (tgt := 56) dX0_lineUp_52 (by decide) ?_
  refine kv_sub (pc := 56) [(0, .ref q0), (1, .ref q1), (2, .int a2), (3, .int v3)] [0, 1, 2, 3] rfl ?_
  exact wX0_lineUp_L56 sh hw l hst q0 h0 q1 h1 a2 K7 hK7 v3 1 σ r h
set_option maxHeartbeats 4000000 in
set_option maxRecDepth 100000 in
theorem wX0_lineUp_L7 (sh : KSh) (hw : KWf sh) (l : Launch) (hst : l.stackTraces = false) (q0 : Nat) (h0 : sh q0 = .inl 0) (q1 : Nat) (h1 : sh q1 = .inl 5) (a2 : Int32) : ∀ (fu : Nat), ∀ (v3 : Int32), ∀ (σ : Sto), ∀ (r : Sto), fX0_lineUp_L7 q0 q1 a2 fu v3 σ = some r → VV sh l mX0_lineUp 0 0 7 [(0, .ref q0), (1, .ref q1), (2, .int a2), (3, .int v3)] [] σ (0, .int 0, r) := by
  intro fu
  induction fu with
  | zero => intro v3 σ r h; rw [fX0_lineUp_L7] at h; cases h
  | succ fu ih =>
    intro v3 σ r h
    rw [fX0_lineUp_L7] at h
    refine kv_iload_n (pc := 7) 3 dX0_lineUp_7 rfl rfl ?_
    refine kv_aload_n (pc := 8) 1 dX0_lineUp_8 rfl rfl ?_
    refine kv_getI (pc := 9) dX0_lineUp_9 h1 rfl (i := 8) (by decide) rfl fl_X0_38 rfl ?_
    refine kv_icmp_ge (pc := 12) (tgt := 88) dX0_lineUp_12 (by decide) h (fun h => ?_) (fun h => ?_)
    · exact kv_vret (pc := 88) (v := .int 0) dX0_lineUp_88 rfl (by cases h; rfl) (by decide) (by decide)
    · refine kv_aload_n (pc := 15) 1 dX0_lineUp_15 rfl rfl ?_
      refine kv_iload_n (pc := 16) 3 dX0_lineUp_16 rfl rfl ?_
      refine kv_cV (pc := 17) [.int v3] (fun r2 => (0, .int r2, σ)) (fun r2 => (.int r2 :: [])) (fun r2 => σ) 20 0 0 h (fun r2 g3 => tX5_kindOf sh hw l hst q1 h1 v3 σ r2 g3) dX0_lineUp_17 rfl h1 rfl yw_X5_kindOf lk_X0_41 (by decide) (Nat.le_of_ble_eq_true rfl) (by decide) (fun _ => rfl) (fun _ => rfl) ⟨rfl, rfl, rfl⟩ (fun _ _ h0 => absurd rfl h0) (fun r2 g3 z4 h => ?_)
      refine kv_istore (pc := 20) [(4, .int r2), (0, .ref q0), (1, .ref q1), (2, .int a2), (3, .int v3)] dX0_lineUp_20 (by decide) rfl ?_
      refine kv_iload_n (pc := 22) 3 dX0_lineUp_22 rfl rfl ?_
      refine kv_if_eq (pc := 23) (tgt := 40) dX0_lineUp_23 (by decide) h (fun h => ?_) (fun h => ?_)
      · refine kv_iload (pc := 40) 0 dX0_lineUp_40 rfl ?_
        refine kv_if_eq (pc := 42) (tgt := 51) dX0_lineUp_42 (by decide) h (fun h => ?_) (fun h => ?_)
        · refine kv_sub (pc := 51) [(0, .ref q0), (1, .ref q1), (2, .int a2), (3, .int v3)] [1, 2, 3, 4] rfl ?_
          exact wX0_lineUp_L51 sh hw l hst q0 h0 q1 h1 a2 (fX0_lineUp_L7 q0 q1 a2 fu) ih v3 σ r h
        · refine kv_iload (pc := 45) 0 dX0_lineUp_45 rfl ?_
          refine kv_iconst (pc := 47) (v := 1) dX0_lineUp_47 (by decide) ?_
          refine kv_icmp_ne (pc := 48) (tgt := 55) dX0_lineUp_48 (by decide) h (fun h => ?_) (fun h => ?_)
          · refine kv_iconst (pc := 55) (v := 0) dX0_lineUp_55 (by decide) ?_
            refine kv_sub (pc := 56) [(0, .ref q0), (1, .ref q1), (2, .int a2), (3, .int v3)] [1, 2, 3, 4] rfl ?_
            exact wX0_lineUp_L56 sh hw l hst q0 h0 q1 h1 a2 (fX0_lineUp_L7 q0 q1 a2 fu) ih v3 0 σ r h
          · refine kv_sub (pc := 51) [(0, .ref q0), (1, .ref q1), (2, .int a2), (3, .int v3)] [1, 2, 3, 4] rfl ?_
            exact wX0_lineUp_L51 sh hw l hst q0 h0 q1 h1 a2 (fX0_lineUp_L7 q0 q1 a2 fu) ih v3 σ r h
      · refine kv_iload (pc := 26) 0 dX0_lineUp_26 rfl ?_
        refine kv_iconst (pc := 28) (v := 2) dX0_lineUp_28 (by decide) ?_
        refine kv_icmp_ne (pc := 29) (tgt := 36) dX0_lineUp_29 (by decide) h (fun h => ?_) (fun h => ?_)
        · refine kv_iconst (pc := 36) (v := 0) dX0_lineUp_36 (by decide) ?_
          refine kv_goto (pc := 37) (tgt := 56) dX0_lineUp_37 (by decide) ?_
          refine kv_sub (pc := 56) [(0, .ref q0), (1, .ref q1), (2, .int a2), (3, .int v3)] [1, 2, 3, 4] rfl ?_
          exact wX0_lineUp_L56 sh hw l hst q0 h0 q1 h1 a2 (fX0_lineUp_L7 q0 q1 a2 fu) ih v3 0 σ r h
        · refine kv_iconst (pc := 32) (v := 1) dX0_lineUp_32 (by decide) ?_
          refine kv_goto (pc := 33) (tgt := 56) dX0_lineUp_33 (by decide) ?_
          refine kv_sub (pc := 56) [(0, .ref q0), (1, .ref q1), (2, .int a2), (3, .int v3)] [1, 2, 3, 4] rfl ?_
          exact wX0_lineUp_L56 sh hw l hst q0 h0 q1 h1 a2 (fX0_lineUp_L7 q0 q1 a2 fu) ih v3 1 σ r h
set_option maxHeartbeats 4000000 in
set_option maxRecDepth 100000 in
theorem tX0_lineUp (sh : KSh) (hw : KWf sh) (l : Launch) (hst : l.stackTraces = false) (q0 : Nat) (h0 : sh q0 = .inl 0) (q1 : Nat) (h1 : sh q1 = .inl 5) (a2 : Int32) (σ : Sto) (r : Sto) (h : fX0_lineUp q0 q1 a2 σ = some r) : CT sh l mX0_lineUp yX0_lineUp [.ref q0, .ref q1, .int a2] σ (0, .int 0, r) := by
  refine kct [(0, .ref q0), (1, .ref q1), (2, .int a2)] hst (by decide +kernel) rfl rfl (Nat.le_of_ble_eq_true rfl) ?_
  rw [fX0_lineUp] at h
  refine kv_aload_n (pc := 0) 0 dX0_lineUp_0 rfl rfl ?_
  refine kv_iconst (pc := 1) (v := 0) dX0_lineUp_1 (by decide) ?_
  refine kv_put (pc := 2) tyX0 tyX0_ok nmX0 dX0_lineUp_2 h0 rfl (i := 1) (by decide) rfl fl_X0_25 rfl rfl rfl rfl rfl ?_
  refine kv_let h (fun σ1 h => ?_)
  refine kv_iconst (pc := 5) (v := 0) dX0_lineUp_5 (by decide) ?_
  refine kv_istore_n (pc := 6) [(3, .int 0), (0, .ref q0), (1, .ref q1), (2, .int a2)] dX0_lineUp_6 rfl (by decide) rfl ?_
  refine kv_sub (pc := 7) [(0, .ref q0), (1, .ref q1), (2, .int a2), (3, .int 0)] [1, 2, 3, 0] rfl ?_
  exact wX0_lineUp_L7 sh hw l hst q0 h0 q1 h1 a2 kFU 0 σ1 r h
theorem yw_X0_lineUp : KMV yX0_lineUp mX0_lineUp RX0 2 := ⟨⟨rfl, by decide +kernel, by decide +kernel, by decide +kernel⟩, ⟨rfl, rfl⟩, kg_in 752 (by decide +kernel) (by decide +kernel), kg_in 31 (by decide +kernel) (by decide +kernel), kg_in 54 (by decide +kernel) (by decide +kernel), kg_in 753 (by decide +kernel) (by decide +kernel)⟩
theorem dX0_enter_0 : decode cX0_enter 0 = .ok (.iload_n 2, 1) := by decide +kernel
theorem dX0_enter_1 : decode cX0_enter 1 = .ok (.iconst (-1), 1) := by decide +kernel
theorem dX0_enter_2 : decode cX0_enter 2 = .ok (.if_icmp .eq 12, 3) := by decide +kernel
theorem dX0_enter_5 : decode cX0_enter 5 = .ok (.aload_n 0, 1) := by decide +kernel
theorem dX0_enter_6 : decode cX0_enter 6 = .ok (.iload_n 2, 1) := by decide +kernel
theorem dX0_enter_7 : decode cX0_enter 7 = .ok (.invokevirtual 93, 3) := by decide +kernel
theorem dX0_enter_10 : decode cX0_enter 10 = .ok (.iconst (-1), 1) := by decide +kernel
theorem dX0_enter_11 : decode cX0_enter 11 = .ok (.if_icmp .eq 5, 3) := by decide +kernel
theorem dX0_enter_14 : decode cX0_enter 14 = .ok (.iconst 0, 1) := by decide +kernel
theorem dX0_enter_15 : decode cX0_enter 15 = .ok (.ireturn, 1) := by decide +kernel
theorem dX0_enter_16 : decode cX0_enter 16 = .ok (.aload_n 0, 1) := by decide +kernel
theorem dX0_enter_17 : decode cX0_enter 17 = .ok (.iload_n 1, 1) := by decide +kernel
theorem dX0_enter_18 : decode cX0_enter 18 = .ok (.iload_n 2, 1) := by decide +kernel
theorem dX0_enter_19 : decode cX0_enter 19 = .ok (.invokevirtual 109, 3) := by decide +kernel
theorem dX0_enter_22 : decode cX0_enter 22 = .ok (.aload_n 0, 1) := by decide +kernel
theorem dX0_enter_23 : decode cX0_enter 23 = .ok (.iload_n 1, 1) := by decide +kernel
theorem dX0_enter_24 : decode cX0_enter 24 = .ok (.invokevirtual 106, 3) := by decide +kernel
theorem dX0_enter_27 : decode cX0_enter 27 = .ok (.iconst 1, 1) := by decide +kernel
theorem dX0_enter_28 : decode cX0_enter 28 = .ok (.ireturn, 1) := by decide +kernel
abbrev mX0_enter : KM := (RX0, cX0_enter, 3, (some .boolean), { frames := 2, cells := 0, slots := 0, locals := 43 }, 0, 0)
def fX0_enter (q0 : Nat) (a1 : Int32) (a2 : Int32) (σ : Sto) : Option (Bool × Sto) :=
  if a2 = (-1) then
    some (false, σ)
  else
    (fX5_chipOn q0 a2 σ).bind fun r1 =>
    if r1 = (-1) then
      (fX5_shift q0 a1 a2 σ).bind fun r4 =>
      (fX5_countMove q0 a1 r4).bind fun r7 =>
      some (true, r7)
    else
      some (false, σ)
set_option maxHeartbeats 4000000 in
set_option maxRecDepth 100000 in
theorem tX0_enter (sh : KSh) (hw : KWf sh) (l : Launch) (hst : l.stackTraces = false) (q0 : Nat) (h0 : sh q0 = .inl 5) (a1 : Int32) (a2 : Int32) (σ : Sto) (r : (Bool × Sto)) (h : fX0_enter q0 a1 a2 σ = some r) : CT sh l mX0_enter yX0_enter [.ref q0, .int a1, .int a2] σ (0, .int (kb r.1), r.2) := by
  refine kct [(0, .ref q0), (1, .int a1), (2, .int a2)] hst (by decide +kernel) rfl rfl (Nat.le_of_ble_eq_true rfl) ?_
  rw [fX0_enter] at h
  refine kv_iload_n (pc := 0) 2 dX0_enter_0 rfl rfl ?_
  refine kv_iconst (pc := 1) (v := (-1)) dX0_enter_1 (by decide) ?_
  refine kv_icmp_eq (pc := 2) (tgt := 14) dX0_enter_2 (by decide) h (fun h => ?_) (fun h => ?_)
  · refine kv_iconst (pc := 14) (v := 0) dX0_enter_14 (by decide) ?_
    exact kv_zret (pc := 15) dX0_enter_15 rfl rfl (by cases h; rfl) (by decide) (by decide)
  · refine kv_aload_n (pc := 5) 0 dX0_enter_5 rfl rfl ?_
    refine kv_iload_n (pc := 6) 2 dX0_enter_6 rfl rfl ?_
    refine kv_cV (pc := 7) [.int a2] (fun r1 => (0, .int r1, σ)) (fun r1 => (.int r1 :: [])) (fun r1 => σ) 10 0 0 h (fun r1 g2 => tX5_chipOn sh hw l hst q0 h0 a2 σ r1 g2) dX0_enter_7 rfl h0 rfl yw_X5_chipOn lk_X0_93 (by decide) (Nat.le_of_ble_eq_true rfl) (by decide) (fun _ => rfl) (fun _ => rfl) ⟨rfl, rfl, rfl⟩ (fun _ _ h0 => absurd rfl h0) (fun r1 g2 z3 h => ?_)
    refine kv_iconst (pc := 10) (v := (-1)) dX0_enter_10 (by decide) ?_
    refine kv_icmp_eq (pc := 11) (tgt := 16) dX0_enter_11 (by decide) h (fun h => ?_) (fun h => ?_)
    · refine kv_aload_n (pc := 16) 0 dX0_enter_16 rfl rfl ?_
      refine kv_iload_n (pc := 17) 1 dX0_enter_17 rfl rfl ?_
      refine kv_iload_n (pc := 18) 2 dX0_enter_18 rfl rfl ?_
      refine kv_cV (pc := 19) [.int a1, .int a2] (fun r4 => (0, .int 0, r4)) (fun r4 => []) (fun r4 => r4) 22 0 0 h (fun r4 g5 => tX5_shift sh hw l hst q0 h0 a1 a2 σ r4 g5) dX0_enter_19 rfl h0 rfl yw_X5_shift lk_X0_109 (by decide) (Nat.le_of_ble_eq_true rfl) (by decide) (fun _ => rfl) (fun _ => rfl) ⟨rfl, rfl, rfl⟩ (fun _ _ h0 => absurd rfl h0) (fun r4 g5 z6 h => ?_)
      refine kv_aload_n (pc := 22) 0 dX0_enter_22 rfl rfl ?_
      refine kv_iload_n (pc := 23) 1 dX0_enter_23 rfl rfl ?_
      refine kv_cV (pc := 24) [.int a1] (fun r7 => (0, .int 0, r7)) (fun r7 => []) (fun r7 => r7) 27 0 0 h (fun r7 g8 => tX5_countMove sh hw l hst q0 h0 a1 r4 r7 g8) dX0_enter_24 rfl h0 rfl yw_X5_countMove lk_X0_106 (by decide) (Nat.le_of_ble_eq_true rfl) (by decide) (fun _ => rfl) (fun _ => rfl) ⟨rfl, rfl, rfl⟩ (fun _ _ h0 => absurd rfl h0) (fun r7 g8 z9 h => ?_)
      refine kv_iconst (pc := 27) (v := 1) dX0_enter_27 (by decide) ?_
      exact kv_zret (pc := 28) dX0_enter_28 rfl rfl (by cases h; rfl) (by decide) (by decide)
    · refine kv_iconst (pc := 14) (v := 0) dX0_enter_14 (by decide) ?_
      exact kv_zret (pc := 15) dX0_enter_15 rfl rfl (by cases h; rfl) (by decide) (by decide)
theorem yw_X0_enter : KMS yX0_enter mX0_enter 3 := ⟨⟨by decide +kernel, by decide +kernel, by decide +kernel⟩, ⟨rfl, rfl⟩, kg_in 786 (by decide +kernel) (by decide +kernel), kg_in 54 (by decide +kernel) (by decide +kernel), kg_in 787 (by decide +kernel) (by decide +kernel)⟩
theorem dX0_drop_0 : decode cX0_drop 0 = .ok (.aload_n 0, 1) := by decide +kernel
theorem dX0_drop_1 : decode cX0_drop 1 = .ok (.getfield 56, 3) := by decide +kernel
theorem dX0_drop_4 : decode cX0_drop 4 = .ok (.aload_n 0, 1) := by decide +kernel
theorem dX0_drop_5 : decode cX0_drop 5 = .ok (.iload_n 1, 1) := by decide +kernel
theorem dX0_drop_6 : decode cX0_drop 6 = .ok (.invokevirtual 45, 3) := by decide +kernel
theorem dX0_drop_9 : decode cX0_drop 9 = .ok (.aload_n 0, 1) := by decide +kernel
theorem dX0_drop_10 : decode cX0_drop 10 = .ok (.getfield 60, 3) := by decide +kernel
theorem dX0_drop_13 : decode cX0_drop 13 = .ok (.invokevirtual 90, 3) := by decide +kernel
theorem dX0_drop_16 : decode cX0_drop 16 = .ok (.istore_n 2, 1) := by decide +kernel
theorem dX0_drop_17 : decode cX0_drop 17 = .ok (.aload_n 0, 1) := by decide +kernel
theorem dX0_drop_18 : decode cX0_drop 18 = .ok (.iload_n 2, 1) := by decide +kernel
theorem dX0_drop_19 : decode cX0_drop 19 = .ok (.invokevirtual 93, 3) := by decide +kernel
theorem dX0_drop_22 : decode cX0_drop 22 = .ok (.istore_n 3, 1) := by decide +kernel
theorem dX0_drop_23 : decode cX0_drop 23 = .ok (.aload_n 0, 1) := by decide +kernel
theorem dX0_drop_24 : decode cX0_drop 24 = .ok (.iload_n 3, 1) := by decide +kernel
theorem dX0_drop_25 : decode cX0_drop 25 = .ok (.invokevirtual 41, 3) := by decide +kernel
theorem dX0_drop_28 : decode cX0_drop 28 = .ok (.iconst 2, 1) := by decide +kernel
theorem dX0_drop_29 : decode cX0_drop 29 = .ok (.if_icmp .eq 10, 3) := by decide +kernel
theorem dX0_drop_32 : decode cX0_drop 32 = .ok (.aload_n 0, 1) := by decide +kernel
theorem dX0_drop_33 : decode cX0_drop 33 = .ok (.iload_n 1, 1) := by decide +kernel
theorem dX0_drop_34 : decode cX0_drop 34 = .ok (.iload_n 2, 1) := by decide +kernel
theorem dX0_drop_35 : decode cX0_drop 35 = .ok (.invokestatic 96, 3) := by decide +kernel
theorem dX0_drop_38 : decode cX0_drop 38 = .ok (.ireturn, 1) := by decide +kernel
theorem dX0_drop_39 : decode cX0_drop 39 = .ok (.aload_n 0, 1) := by decide +kernel
theorem dX0_drop_40 : decode cX0_drop 40 = .ok (.iload_n 1, 1) := by decide +kernel
theorem dX0_drop_41 : decode cX0_drop 41 = .ok (.iload_n 3, 1) := by decide +kernel
theorem dX0_drop_42 : decode cX0_drop 42 = .ok (.invokevirtual 99, 3) := by decide +kernel
theorem dX0_drop_45 : decode cX0_drop 45 = .ok (.aload_n 0, 1) := by decide +kernel
theorem dX0_drop_46 : decode cX0_drop 46 = .ok (.dup, 1) := by decide +kernel
theorem dX0_drop_47 : decode cX0_drop 47 = .ok (.getfield 103, 3) := by decide +kernel
theorem dX0_drop_50 : decode cX0_drop 50 = .ok (.iconst 1, 1) := by decide +kernel
theorem dX0_drop_51 : decode cX0_drop 51 = .ok (.iadd, 1) := by decide +kernel
theorem dX0_drop_52 : decode cX0_drop 52 = .ok (.putfield 103, 3) := by decide +kernel
theorem dX0_drop_55 : decode cX0_drop 55 = .ok (.aload_n 0, 1) := by decide +kernel
theorem dX0_drop_56 : decode cX0_drop 56 = .ok (.iload_n 1, 1) := by decide +kernel
theorem dX0_drop_57 : decode cX0_drop 57 = .ok (.invokevirtual 106, 3) := by decide +kernel
theorem dX0_drop_60 : decode cX0_drop 60 = .ok (.iconst 1, 1) := by decide +kernel
theorem dX0_drop_61 : decode cX0_drop 61 = .ok (.ireturn, 1) := by decide +kernel
abbrev mX0_drop : KM := (RX0, cX0_drop, 4, (some .boolean), { frames := 3, cells := 0, slots := 0, locals := 67 }, 0, 0)
def fX0_drop (q0 : Nat) (a1 : Int32) (σ : Sto) : Option (Bool × Sto) :=
  (fX5_cellOf q0 a1 σ).bind fun r1 =>
  (fX1_boxNeighbour (q0 + 1) r1 (σ q0 1) σ).bind fun r4 =>
  (fX5_chipOn q0 r4 σ).bind fun r7 =>
  (fX5_kindOf q0 r7 σ).bind fun r10 =>
  if r10 = 2 then
    (fX5_exchange q0 a1 r7 σ).bind fun r13 =>
    klet (su r13 q0 6 ((r13 q0 6) + 1)) fun σ16 =>
    (fX5_countMove q0 a1 σ16).bind fun r17 =>
    some (true, r17)
  else
    (fX0_enter q0 a1 r4 σ).bind fun r20 =>
    some (r20.1, r20.2)
set_option maxHeartbeats 4000000 in
set_option maxRecDepth 100000 in
theorem tX0_drop (sh : KSh) (hw : KWf sh) (l : Launch) (hst : l.stackTraces = false) (q0 : Nat) (h0 : sh q0 = .inl 5) (a1 : Int32) (σ : Sto) (r : (Bool × Sto)) (h : fX0_drop q0 a1 σ = some r) : CT sh l mX0_drop yX0_drop [.ref q0, .int a1] σ (0, .int (kb r.1), r.2) := by
  refine kct [(0, .ref q0), (1, .int a1)] hst (by decide +kernel) rfl rfl (Nat.le_of_ble_eq_true rfl) ?_
  rw [fX0_drop] at h
  refine kv_aload_n (pc := 0) 0 dX0_drop_0 rfl rfl ?_
  refine kv_getR (pc := 1) (q2 := q0 + 1) dX0_drop_1 h0 rfl (i := 0) (by decide) rfl fl_X0_56 rfl rfl ?_
  refine kv_aload_n (pc := 4) 0 dX0_drop_4 rfl rfl ?_
  refine kv_iload_n (pc := 5) 1 dX0_drop_5 rfl rfl ?_
  refine kv_cV (pc := 6) [.int a1] (fun r1 => (0, .int r1, σ)) (fun r1 => (.int r1 :: [.ref (q0 + 1)])) (fun r1 => σ) 9 0 0 h (fun r1 g2 => tX5_cellOf sh hw l hst q0 h0 a1 σ r1 g2) dX0_drop_6 rfl h0 rfl yw_X5_cellOf lk_X0_45 (by decide) (Nat.le_of_ble_eq_true rfl) (by decide) (fun _ => rfl) (fun _ => rfl) ⟨rfl, rfl, rfl⟩ (fun _ _ h0 => absurd rfl h0) (fun r1 g2 z3 h => ?_)
  refine kv_aload_n (pc := 9) 0 dX0_drop_9 rfl rfl ?_
  refine kv_getI (pc := 10) dX0_drop_10 h0 rfl (i := 1) (by decide) rfl fl_X0_60 rfl ?_
  refine kv_cV (pc := 13) [.int r1, .int (σ q0 1)] (fun r4 => (0, .int r4, σ)) (fun r4 => (.int r4 :: [])) (fun r4 => σ) 16 0 0 h (fun r4 g5 => tX1_boxNeighbour sh hw l hst (q0 + 1) (show sh (q0 + 1) = _ from kso_5_1 hw h0) r1 (σ q0 1) σ r4 g5) dX0_drop_13 rfl (show sh (q0 + 1) = _ from kso_5_1 hw h0) rfl yw_X1_boxNeighbour lk_X0_90 (by decide) (Nat.le_of_ble_eq_true rfl) (by decide) (fun _ => rfl) (fun _ => rfl) ⟨rfl, rfl, rfl⟩ (fun _ _ h0 => absurd rfl h0) (fun r4 g5 z6 h => ?_)
  refine kv_istore_n (pc := 16) [(2, .int r4), (0, .ref q0), (1, .int a1)] dX0_drop_16 rfl (by decide) rfl ?_
  refine kv_aload_n (pc := 17) 1 dX0_drop_17 rfl rfl ?_
  refine kv_iload_n (pc := 18) 0 dX0_drop_18 rfl rfl ?_
  refine kv_cV (pc := 19) [.int r4] (fun r7 => (0, .int r7, σ)) (fun r7 => (.int r7 :: [])) (fun r7 => σ) 22 0 0 h (fun r7 g8 => tX5_chipOn sh hw l hst q0 h0 r4 σ r7 g8) dX0_drop_19 rfl h0 rfl yw_X5_chipOn lk_X0_93 (by decide) (Nat.le_of_ble_eq_true rfl) (by decide) (fun _ => rfl) (fun _ => rfl) ⟨rfl, rfl, rfl⟩ (fun _ _ h0 => absurd rfl h0) (fun r7 g8 z9 h => ?_)
  refine kv_istore_n (pc := 22) [(3, .int r7), (2, .int r4), (0, .ref q0), (1, .int a1)] dX0_drop_22 rfl (by decide) rfl ?_
  refine kv_aload_n (pc := 23) 2 dX0_drop_23 rfl rfl ?_
  refine kv_iload_n (pc := 24) 0 dX0_drop_24 rfl rfl ?_
  refine kv_cV (pc := 25) [.int r7] (fun r10 => (0, .int r10, σ)) (fun r10 => (.int r10 :: [])) (fun r10 => σ) 28 0 0 h (fun r10 g11 => tX5_kindOf sh hw l hst q0 h0 r7 σ r10 g11) dX0_drop_25 rfl h0 rfl yw_X5_kindOf lk_X0_41 (by decide) (Nat.le_of_ble_eq_true rfl) (by decide) (fun _ => rfl) (fun _ => rfl) ⟨rfl, rfl, rfl⟩ (fun _ _ h0 => absurd rfl h0) (fun r10 g11 z12 h => ?_)
  refine kv_iconst (pc := 28) (v := 2) dX0_drop_28 (by decide) ?_
  refine kv_icmp_eq (pc := 29) (tgt := 39) dX0_drop_29 (by decide) h (fun h => ?_) (fun h => ?_)
  · refine kv_aload_n (pc := 39) 2 dX0_drop_39 rfl rfl ?_
    refine kv_iload_n (pc := 40) 3 dX0_drop_40 rfl rfl ?_
    refine kv_iload_n (pc := 41) 0 dX0_drop_41 rfl rfl ?_
    refine kv_cV (pc := 42) [.int a1, .int r7] (fun r13 => (0, .int 0, r13)) (fun r13 => []) (fun r13 => r13) 45 0 0 h (fun r13 g14 => tX5_exchange sh hw l hst q0 h0 a1 r7 σ r13 g14) dX0_drop_42 rfl h0 rfl yw_X5_exchange lk_X0_99 (by decide) (Nat.le_of_ble_eq_true rfl) (by decide) (fun _ => rfl) (fun _ => rfl) ⟨rfl, rfl, rfl⟩ (fun _ _ h0 => absurd rfl h0) (fun r13 g14 z15 h => ?_)
    refine kv_aload_n (pc := 45) 2 dX0_drop_45 rfl rfl ?_
    refine kv_dup (pc := 46) dX0_drop_46 rfl ?_
    refine kv_getI (pc := 47) dX0_drop_47 h0 rfl (i := 6) (by decide) rfl fl_X0_103 rfl ?_
    refine kv_iconst (pc := 50) (v := 1) dX0_drop_50 (by decide) ?_
    refine kv_iadd (pc := 51) dX0_drop_51 ?_
    refine kv_put (pc := 52) tyX5 tyX5_ok nmX5 dX0_drop_52 h0 rfl (i := 6) (by decide) rfl fl_X0_103 rfl rfl rfl rfl rfl ?_
    refine kv_let h (fun σ16 h => ?_)
    refine kv_aload_n (pc := 55) 2 dX0_drop_55 rfl rfl ?_
    refine kv_iload_n (pc := 56) 3 dX0_drop_56 rfl rfl ?_
    refine kv_cV (pc := 57) [.int a1] (fun r17 => (0, .int 0, r17)) (fun r17 => []) (fun r17 => r17) 60 0 0 h (fun r17 g18 => tX5_countMove sh hw l hst q0 h0 a1 σ16 r17 g18) dX0_drop_57 rfl h0 rfl yw_X5_countMove lk_X0_106 (by decide) (Nat.le_of_ble_eq_true rfl) (by decide) (fun _ => rfl) (fun _ => rfl) ⟨rfl, rfl, rfl⟩ (fun _ _ h0 => absurd rfl h0) (fun r17 g18 z19 h => ?_)
    refine kv_iconst (pc := 60) (v := 1) dX0_drop_60 (by decide) ?_
    exact kv_zret (pc := 61) dX0_drop_61 rfl rfl (by cases h; rfl) (by decide) (by decide)
  · refine kv_aload_n (pc := 32) 2 dX0_drop_32 rfl rfl ?_
    refine kv_iload_n (pc := 33) 3 dX0_drop_33 rfl rfl ?_
    refine kv_iload_n (pc := 34) 1 dX0_drop_34 rfl rfl ?_
    refine kv_cS (pc := 35) [.ref q0, .int a1, .int r4] (fun r20 => (0, .int (kb r20.1), r20.2)) (fun r20 => (.int (kb r20.1) :: [])) (fun r20 => r20.2) 38 0 0 h (fun r20 g21 => tX0_enter sh hw l hst q0 h0 a1 r4 σ r20 g21) dX0_drop_35 rfl yw_X0_enter lk_X0_96 (by decide) (Nat.le_of_ble_eq_true rfl) (by decide) (fun _ => rfl) (fun _ => rfl) ⟨rfl, rfl, rfl⟩ (fun _ _ h0 => absurd rfl h0) (fun r20 g21 z22 h => ?_)
    exact kv_zret (pc := 38) dX0_drop_38 rfl (kb_n _) (by cases h; rfl) (by decide) (by decide)
theorem yw_X0_drop : KMS yX0_drop mX0_drop 2 := ⟨⟨by decide +kernel, by decide +kernel, by decide +kernel⟩, ⟨rfl, rfl⟩, kg_in 778 (by decide +kernel) (by decide +kernel), kg_in 54 (by decide +kernel) (by decide +kernel), kg_in 779 (by decide +kernel) (by decide +kernel)⟩
theorem dX0_roll_0 : decode cX0_roll 0 = .ok (.aload_n 0, 1) := by decide +kernel
theorem dX0_roll_1 : decode cX0_roll 1 = .ok (.iload_n 1, 1) := by decide +kernel
theorem dX0_roll_2 : decode cX0_roll 2 = .ok (.aload_n 0, 1) := by decide +kernel
theorem dX0_roll_3 : decode cX0_roll 3 = .ok (.getfield 56, 3) := by decide +kernel
theorem dX0_roll_6 : decode cX0_roll 6 = .ok (.aload_n 0, 1) := by decide +kernel
theorem dX0_roll_7 : decode cX0_roll 7 = .ok (.iload_n 1, 1) := by decide +kernel
theorem dX0_roll_8 : decode cX0_roll 8 = .ok (.invokevirtual 45, 3) := by decide +kernel
theorem dX0_roll_11 : decode cX0_roll 11 = .ok (.iload_n 2, 1) := by decide +kernel
theorem dX0_roll_12 : decode cX0_roll 12 = .ok (.invokevirtual 90, 3) := by decide +kernel
theorem dX0_roll_15 : decode cX0_roll 15 = .ok (.invokestatic 96, 3) := by decide +kernel
theorem dX0_roll_18 : decode cX0_roll 18 = .ok (.ireturn, 1) := by decide +kernel
abbrev mX0_roll : KM := (RX0, cX0_roll, 3, (some .boolean), { frames := 3, cells := 0, slots := 0, locals := 67 }, 0, 0)
def fX0_roll (q0 : Nat) (a1 : Int32) (a2 : Int32) (σ : Sto) : Option (Bool × Sto) :=
  (fX5_cellOf q0 a1 σ).bind fun r1 =>
  (fX1_boxNeighbour (q0 + 1) r1 a2 σ).bind fun r4 =>
  (fX0_enter q0 a1 r4 σ).bind fun r7 =>
  some (r7.1, r7.2)
set_option maxHeartbeats 4000000 in
set_option maxRecDepth 100000 in
theorem tX0_roll (sh : KSh) (hw : KWf sh) (l : Launch) (hst : l.stackTraces = false) (q0 : Nat) (h0 : sh q0 = .inl 5) (a1 : Int32) (a2 : Int32) (σ : Sto) (r : (Bool × Sto)) (h : fX0_roll q0 a1 a2 σ = some r) : CT sh l mX0_roll yX0_roll [.ref q0, .int a1, .int a2] σ (0, .int (kb r.1), r.2) := by
  refine kct [(0, .ref q0), (1, .int a1), (2, .int a2)] hst (by decide +kernel) rfl rfl (Nat.le_of_ble_eq_true rfl) ?_
  rw [fX0_roll] at h
  refine kv_aload_n (pc := 0) 0 dX0_roll_0 rfl rfl ?_
  refine kv_iload_n (pc := 1) 1 dX0_roll_1 rfl rfl ?_
  refine kv_aload_n (pc := 2) 0 dX0_roll_2 rfl rfl ?_
  refine kv_getR (pc := 3) (q2 := q0 + 1) dX0_roll_3 h0 rfl (i := 0) (by decide) rfl fl_X0_56 rfl rfl ?_
  refine kv_aload_n (pc := 6) 0 dX0_roll_6 rfl rfl ?_
  refine kv_iload_n (pc := 7) 1 dX0_roll_7 rfl rfl ?_
  refine kv_cV (pc := 8) [.int a1] (fun r1 => (0, .int r1, σ)) (fun r1 => (.int r1 :: [.ref (q0 + 1), .int a1, .ref q0])) (fun r1 => σ) 11 0 0 h (fun r1 g2 => tX5_cellOf sh hw l hst q0 h0 a1 σ r1 g2) dX0_roll_8 rfl h0 rfl yw_X5_cellOf lk_X0_45 (by decide) (Nat.le_of_ble_eq_true rfl) (by decide) (fun _ => rfl) (fun _ => rfl) ⟨rfl, rfl, rfl⟩ (fun _ _ h0 => absurd rfl h0) (fun r1 g2 z3 h => ?_)
  refine kv_iload_n (pc := 11) 2 dX0_roll_11 rfl rfl ?_
  refine kv_cV (pc := 12) [.int r1, .int a2] (fun r4 => (0, .int r4, σ)) (fun r4 => (.int r4 :: [.int a1, .ref q0])) (fun r4 => σ) 15 0 0 h (fun r4 g5 => tX1_boxNeighbour sh hw l hst (q0 + 1) (show sh (q0 + 1) = _ from kso_5_1 hw h0) r1 a2 σ r4 g5) dX0_roll_12 rfl (show sh (q0 + 1) = _ from kso_5_1 hw h0) rfl yw_X1_boxNeighbour lk_X0_90 (by decide) (Nat.le_of_ble_eq_true rfl) (by decide) (fun _ => rfl) (fun _ => rfl) ⟨rfl, rfl, rfl⟩ (fun _ _ h0 => absurd rfl h0) (fun r4 g5 z6 h => ?_)
  refine kv_cS (pc := 15) [.ref q0, .int a1, .int r4] (fun r7 => (0, .int (kb r7.1), r7.2)) (fun r7 => (.int (kb r7.1) :: [])) (fun r7 => r7.2) 18 0 0 h (fun r7 g8 => tX0_enter sh hw l hst q0 h0 a1 r4 σ r7 g8) dX0_roll_15 rfl yw_X0_enter lk_X0_96 (by decide) (Nat.le_of_ble_eq_true rfl) (by decide) (fun _ => rfl) (fun _ => rfl) ⟨rfl, rfl, rfl⟩ (fun _ _ h0 => absurd rfl h0) (fun r7 g8 z9 h => ?_)
  exact kv_zret (pc := 18) dX0_roll_18 rfl (kb_n _) (by cases h; rfl) (by decide) (by decide)
theorem yw_X0_roll : KMS yX0_roll mX0_roll 3 := ⟨⟨by decide +kernel, by decide +kernel, by decide +kernel⟩, ⟨rfl, rfl⟩, kg_in 806 (by decide +kernel) (by decide +kernel), kg_in 54 (by decide +kernel) (by decide +kernel), kg_in 807 (by decide +kernel) (by decide +kernel)⟩
theorem dX0_tryToFall_0 : decode cX0_tryToFall 0 = .ok (.aload_n 0, 1) := by decide +kernel
theorem dX0_tryToFall_1 : decode cX0_tryToFall 1 = .ok (.iload_n 1, 1) := by decide +kernel
theorem dX0_tryToFall_2 : decode cX0_tryToFall 2 = .ok (.invokestatic 72, 3) := by decide +kernel
theorem dX0_tryToFall_5 : decode cX0_tryToFall 5 = .ok (.ifCond .ne 12, 3) := by decide +kernel
theorem dX0_tryToFall_8 : decode cX0_tryToFall 8 = .ok (.aload_n 0, 1) := by decide +kernel
theorem dX0_tryToFall_9 : decode cX0_tryToFall 9 = .ok (.iload_n 1, 1) := by decide +kernel
theorem dX0_tryToFall_10 : decode cX0_tryToFall 10 = .ok (.invokevirtual 41, 3) := by decide +kernel
theorem dX0_tryToFall_13 : decode cX0_tryToFall 13 = .ok (.iconst 1, 1) := by decide +kernel
theorem dX0_tryToFall_14 : decode cX0_tryToFall 14 = .ok (.if_icmp .eq 4, 3) := by decide +kernel
theorem dX0_tryToFall_17 : decode cX0_tryToFall 17 = .ok (.return_, 1) := by decide +kernel
theorem dX0_tryToFall_18 : decode cX0_tryToFall 18 = .ok (.aload_n 0, 1) := by decide +kernel
theorem dX0_tryToFall_19 : decode cX0_tryToFall 19 = .ok (.getfield 35, 3) := by decide +kernel
theorem dX0_tryToFall_22 : decode cX0_tryToFall 22 = .ok (.iconst 2, 1) := by decide +kernel
theorem dX0_tryToFall_23 : decode cX0_tryToFall 23 = .ok (.irem, 1) := by decide +kernel
theorem dX0_tryToFall_24 : decode cX0_tryToFall 24 = .ok (.ifCond .eq 7, 3) := by decide +kernel
theorem dX0_tryToFall_27 : decode cX0_tryToFall 27 = .ok (.iconst 1, 1) := by decide +kernel
theorem dX0_tryToFall_28 : decode cX0_tryToFall 28 = .ok (.goto 4, 3) := by decide +kernel
theorem dX0_tryToFall_31 : decode cX0_tryToFall 31 = .ok (.iconst 0, 1) := by decide +kernel
theorem dX0_tryToFall_32 : decode cX0_tryToFall 32 = .ok (.istore_n 2, 1) := by decide +kernel
theorem dX0_tryToFall_33 : decode cX0_tryToFall 33 = .ok (.aload_n 0, 1) := by decide +kernel
theorem dX0_tryToFall_34 : decode cX0_tryToFall 34 = .ok (.getfield 56, 3) := by decide +kernel
theorem dX0_tryToFall_37 : decode cX0_tryToFall 37 = .ok (.aload_n 0, 1) := by decide +kernel
theorem dX0_tryToFall_38 : decode cX0_tryToFall 38 = .ok (.getfield 60, 3) := by decide +kernel
theorem dX0_tryToFall_41 : decode cX0_tryToFall 41 = .ok (.iconst 1, 1) := by decide +kernel
theorem dX0_tryToFall_42 : decode cX0_tryToFall 42 = .ok (.iadd, 1) := by decide +kernel
theorem dX0_tryToFall_43 : decode cX0_tryToFall 43 = .ok (.invokevirtual 76, 3) := by decide +kernel
theorem dX0_tryToFall_46 : decode cX0_tryToFall 46 = .ok (.istore_n 3, 1) := by decide +kernel
theorem dX0_tryToFall_47 : decode cX0_tryToFall 47 = .ok (.aload_n 0, 1) := by decide +kernel
theorem dX0_tryToFall_48 : decode cX0_tryToFall 48 = .ok (.getfield 56, 3) := by decide +kernel
theorem dX0_tryToFall_51 : decode cX0_tryToFall 51 = .ok (.aload_n 0, 1) := by decide +kernel
theorem dX0_tryToFall_52 : decode cX0_tryToFall 52 = .ok (.getfield 60, 3) := by decide +kernel
theorem dX0_tryToFall_55 : decode cX0_tryToFall 55 = .ok (.aload_n 0, 1) := by decide +kernel
theorem dX0_tryToFall_56 : decode cX0_tryToFall 56 = .ok (.getfield 56, 3) := by decide +kernel
theorem dX0_tryToFall_59 : decode cX0_tryToFall 59 = .ok (.invokevirtual 79, 3) := by decide +kernel
theorem dX0_tryToFall_62 : decode cX0_tryToFall 62 = .ok (.iadd, 1) := by decide +kernel
theorem dX0_tryToFall_63 : decode cX0_tryToFall 63 = .ok (.iconst 1, 1) := by decide +kernel
theorem dX0_tryToFall_64 : decode cX0_tryToFall 64 = .ok (.isub, 1) := by decide +kernel
theorem dX0_tryToFall_65 : decode cX0_tryToFall 65 = .ok (.invokevirtual 76, 3) := by decide +kernel
theorem dX0_tryToFall_68 : decode cX0_tryToFall 68 = .ok (.istore 4, 2) := by decide +kernel
theorem dX0_tryToFall_70 : decode cX0_tryToFall 70 = .ok (.aload_n 0, 1) := by decide +kernel
theorem dX0_tryToFall_71 : decode cX0_tryToFall 71 = .ok (.iload_n 1, 1) := by decide +kernel
theorem dX0_tryToFall_72 : decode cX0_tryToFall 72 = .ok (.iload_n 2, 1) := by decide +kernel
theorem dX0_tryToFall_73 : decode cX0_tryToFall 73 = .ok (.ifCond .eq 8, 3) := by decide +kernel
theorem dX0_tryToFall_76 : decode cX0_tryToFall 76 = .ok (.iload 4, 2) := by decide +kernel
theorem dX0_tryToFall_78 : decode cX0_tryToFall 78 = .ok (.goto 4, 3) := by decide +kernel
theorem dX0_tryToFall_81 : decode cX0_tryToFall 81 = .ok (.iload_n 3, 1) := by decide +kernel
theorem dX0_tryToFall_82 : decode cX0_tryToFall 82 = .ok (.invokestatic 83, 3) := by decide +kernel
theorem dX0_tryToFall_85 : decode cX0_tryToFall 85 = .ok (.ifCond .ne 21, 3) := by decide +kernel
theorem dX0_tryToFall_88 : decode cX0_tryToFall 88 = .ok (.aload_n 0, 1) := by decide +kernel
theorem dX0_tryToFall_89 : decode cX0_tryToFall 89 = .ok (.iload_n 1, 1) := by decide +kernel
theorem dX0_tryToFall_90 : decode cX0_tryToFall 90 = .ok (.iload_n 2, 1) := by decide +kernel
theorem dX0_tryToFall_91 : decode cX0_tryToFall 91 = .ok (.ifCond .eq 7, 3) := by decide +kernel
theorem dX0_tryToFall_94 : decode cX0_tryToFall 94 = .ok (.iload_n 3, 1) := by decide +kernel
theorem dX0_tryToFall_95 : decode cX0_tryToFall 95 = .ok (.goto 5, 3) := by decide +kernel
theorem dX0_tryToFall_98 : decode cX0_tryToFall 98 = .ok (.iload 4, 2) := by decide +kernel
theorem dX0_tryToFall_100 : decode cX0_tryToFall 100 = .ok (.invokestatic 83, 3) := by decide +kernel
theorem dX0_tryToFall_103 : decode cX0_tryToFall 103 = .ok (.ifCond .eq 13, 3) := by decide +kernel
theorem dX0_tryToFall_106 : decode cX0_tryToFall 106 = .ok (.aload_n 0, 1) := by decide +kernel
theorem dX0_tryToFall_107 : decode cX0_tryToFall 107 = .ok (.dup, 1) := by decide +kernel
theorem dX0_tryToFall_108 : decode cX0_tryToFall 108 = .ok (.getfield 87, 3) := by decide +kernel
theorem dX0_tryToFall_111 : decode cX0_tryToFall 111 = .ok (.iconst 1, 1) := by decide +kernel
theorem dX0_tryToFall_112 : decode cX0_tryToFall 112 = .ok (.iadd, 1) := by decide +kernel
theorem dX0_tryToFall_113 : decode cX0_tryToFall 113 = .ok (.putfield 87, 3) := by decide +kernel
theorem dX0_tryToFall_116 : decode cX0_tryToFall 116 = .ok (.return_, 1) := by decide +kernel
abbrev mX0_tryToFall : KM := (RX0, cX0_tryToFall, 5, none, { frames := 4, cells := 0, slots := 0, locals := 90 }, 0, 0)
def fX0_tryToFall_L106 (q0 : Nat) (a1 : Int32) (σ : Sto) : Option Sto :=
  klet (su σ q0 7 ((σ q0 7) + 1)) fun σ10 =>
  some σ10
def fX0_tryToFall_L32 (q0 : Nat) (a1 : Int32) (s0 : Int32) (σ : Sto) : Option Sto :=
  if s0 = 0 then
    (fX0_roll q0 a1 (fX1_wrapped (q0 + 1) ((σ q0 1) + 1) σ) σ).bind fun r7 =>
    if r7.1 = true then
      fX0_tryToFall_L106 q0 a1 r7.2
    else
      if s0 = 0 then
        (fX0_roll q0 a1 (fX1_wrapped (q0 + 1) (((σ q0 1) + (fX1_directions (q0 + 1) σ)) - 1) σ) r7.2).bind fun r11 =>
        if r11.1 = true then
          fX0_tryToFall_L106 q0 a1 r11.2
        else
          some r11.2
      else
        (fX0_roll q0 a1 (fX1_wrapped (q0 + 1) ((σ q0 1) + 1) σ) r7.2).bind fun r14 =>
        if r14.1 = true then
          fX0_tryToFall_L106 q0 a1 r14.2
        else
          some r14.2
  else
    (fX0_roll q0 a1 (fX1_wrapped (q0 + 1) (((σ q0 1) + (fX1_directions (q0 + 1) σ)) - 1) σ) σ).bind fun r17 =>
    if r17.1 = true then
      fX0_tryToFall_L106 q0 a1 r17.2
    else
      if s0 = 0 then
        (fX0_roll q0 a1 (fX1_wrapped (q0 + 1) (((σ q0 1) + (fX1_directions (q0 + 1) σ)) - 1) σ) r17.2).bind fun r20 =>
        if r20.1 = true then
          fX0_tryToFall_L106 q0 a1 r20.2
        else
          some r20.2
      else
        (fX0_roll q0 a1 (fX1_wrapped (q0 + 1) ((σ q0 1) + 1) σ) r17.2).bind fun r23 =>
        if r23.1 = true then
          fX0_tryToFall_L106 q0 a1 r23.2
        else
          some r23.2
def fX0_tryToFall (q0 : Nat) (a1 : Int32) (σ : Sto) : Option Sto :=
  (fX0_drop q0 a1 σ).bind fun r1 =>
  if r1.1 = true then
    some r1.2
  else
    (fX5_kindOf q0 a1 r1.2).bind fun r4 =>
    if r4 = 1 then
      if (krem (r1.2 q0 3) 2) = 0 then
        fX0_tryToFall_L32 q0 a1 0 r1.2
      else
        fX0_tryToFall_L32 q0 a1 1 r1.2
    else
      some r1.2
set_option maxHeartbeats 4000000 in
set_option maxRecDepth 100000 in
theorem wX0_tryToFall_L106 (sh : KSh) (hw : KWf sh) (l : Launch) (hst : l.stackTraces = false) (q0 : Nat) (h0 : sh q0 = .inl 5) (a1 : Int32) : ∀ (σ : Sto), ∀ (r : Sto), fX0_tryToFall_L106 q0 a1 σ = some r → VV sh l mX0_tryToFall 0 0 106 [(0, .ref q0)] [] σ (0, .int 0, r) := by
  intro σ r h
  rw [fX0_tryToFall_L106] at h
  refine kv_aload_n (pc := 106) 0 dX0_tryToFall_106 rfl rfl ?_
  refine kv_dup (pc := 107) dX0_tryToFall_107 rfl ?_
  refine kv_getI (pc := 108) dX0_tryToFall_108 h0 rfl (i := 7) (by decide) rfl fl_X0_87 rfl ?_
  refine kv_iconst (pc := 111) (v := 1) dX0_tryToFall_111 (by decide) ?_
  refine kv_iadd (pc := 112) dX0_tryToFall_112 ?_
  refine kv_put (pc := 113) tyX5 tyX5_ok nmX5 dX0_tryToFall_113 h0 rfl (i := 7) (by decide) rfl fl_X0_87 rfl rfl rfl rfl rfl ?_
  refine kv_let h (fun σ10 h => ?_)
  exact kv_vret (pc := 116) (v := .int 0) dX0_tryToFall_116 rfl (by cases h; rfl) (by decide) (by decide)
set_option maxHeartbeats 4000000 in
set_option maxRecDepth 100000 in
theorem wX0_tryToFall_L32 (sh : KSh) (hw : KWf sh) (l : Launch) (hst : l.stackTraces = false) (q0 : Nat) (h0 : sh q0 = .inl 5) (a1 : Int32) : ∀ (s0 : Int32), ∀ (σ : Sto), ∀ (r : Sto), fX0_tryToFall_L32 q0 a1 s0 σ = some r → VV sh l mX0_tryToFall 0 0 32 [(0, .ref q0), (1, .int a1)] [.int s0] σ (0, .int 0, r) := by
  intro s0 σ r h
  rw [fX0_tryToFall_L32] at h
  refine kv_istore_n (pc := 32) [(2, .int s0), (0, .ref q0), (1, .int a1)] dX0_tryToFall_32 rfl (by decide) rfl ?_
  refine kv_aload_n (pc := 33) 1 dX0_tryToFall_33 rfl rfl ?_
  refine kv_getR (pc := 34) (q2 := q0 + 1) dX0_tryToFall_34 h0 rfl (i := 0) (by decide) rfl fl_X0_56 rfl rfl ?_
  refine kv_aload_n (pc := 37) 1 dX0_tryToFall_37 rfl rfl ?_
  refine kv_getI (pc := 38) dX0_tryToFall_38 h0 rfl (i := 1) (by decide) rfl fl_X0_60 rfl ?_
  refine kv_iconst (pc := 41) (v := 1) dX0_tryToFall_41 (by decide) ?_
  refine kv_iadd (pc := 42) dX0_tryToFall_42 ?_
  refine kv_tV (pc := 43) (v := .int (fX1_wrapped (q0 + 1) ((σ q0 1) + 1) σ)) [.int ((σ q0 1) + 1)] (.int (fX1_wrapped (q0 + 1) ((σ q0 1) + 1) σ) :: []) 46 0 0 (tX1_wrapped sh hw l hst (q0 + 1) (show sh (q0 + 1) = _ from kso_5_1 hw h0) ((σ q0 1) + 1) σ) dX0_tryToFall_43 rfl (show sh (q0 + 1) = _ from kso_5_1 hw h0) rfl yw_X1_wrapped lk_X0_76 (by decide) (Nat.le_of_ble_eq_true rfl) (by decide) rfl ⟨rfl, rfl, rfl⟩ ?_
  refine kv_istore_n (pc := 46) [(3, .int (fX1_wrapped (q0 + 1) ((σ q0 1) + 1) σ)), (2, .int s0), (0, .ref q0), (1, .int a1)] dX0_tryToFall_46 rfl (by decide) rfl ?_
  refine kv_aload_n (pc := 47) 2 dX0_tryToFall_47 rfl rfl ?_
  refine kv_getR (pc := 48) (q2 := q0 + 1) dX0_tryToFall_48 h0 rfl (i := 0) (by decide) rfl fl_X0_56 rfl rfl ?_
  refine kv_aload_n (pc := 51) 2 dX0_tryToFall_51 rfl rfl ?_
  refine kv_getI (pc := 52) dX0_tryToFall_52 h0 rfl (i := 1) (by decide) rfl fl_X0_60 rfl ?_
  refine kv_aload_n (pc := 55) 2 dX0_tryToFall_55 rfl rfl ?_
  refine kv_getR (pc := 56) (q2 := q0 + 1) dX0_tryToFall_56 h0 rfl (i := 0) (by decide) rfl fl_X0_56 rfl rfl ?_
  refine kv_tV (pc := 59) (v := .int (fX1_directions (q0 + 1) σ)) [] (.int (fX1_directions (q0 + 1) σ) :: [.int (σ q0 1), .ref (q0 + 1)]) 62 0 0 (tX1_directions sh hw l hst (q0 + 1) (show sh (q0 + 1) = _ from kso_5_1 hw h0) σ) dX0_tryToFall_59 rfl (show sh (q0 + 1) = _ from kso_5_1 hw h0) rfl yw_X1_directions lk_X0_79 (by decide) (Nat.le_of_ble_eq_true rfl) (by decide) rfl ⟨rfl, rfl, rfl⟩ ?_
  refine kv_iadd (pc := 62) dX0_tryToFall_62 ?_
  refine kv_iconst (pc := 63) (v := 1) dX0_tryToFall_63 (by decide) ?_
  refine kv_isub (pc := 64) dX0_tryToFall_64 ?_
  refine kv_tV (pc := 65) (v := .int (fX1_wrapped (q0 + 1) (((σ q0 1) + (fX1_directions (q0 + 1) σ)) - 1) σ)) [.int (((σ q0 1) + (fX1_directions (q0 + 1) σ)) - 1)] (.int (fX1_wrapped (q0 + 1) (((σ q0 1) + (fX1_directions (q0 + 1) σ)) - 1) σ) :: []) 68 0 0 (tX1_wrapped sh hw l hst (q0 + 1) (show sh (q0 + 1) = _ from kso_5_1 hw h0) (((σ q0 1) + (fX1_directions (q0 + 1) σ)) - 1) σ) dX0_tryToFall_65 rfl (show sh (q0 + 1) = _ from kso_5_1 hw h0) rfl yw_X1_wrapped lk_X0_76 (by decide) (Nat.le_of_ble_eq_true rfl) (by decide) rfl ⟨rfl, rfl, rfl⟩ ?_
  refine kv_istore (pc := 68) [(4, .int (fX1_wrapped (q0 + 1) (((σ q0 1) + (fX1_directions (q0 + 1) σ)) - 1) σ)), (3, .int (fX1_wrapped (q0 + 1) ((σ q0 1) + 1) σ)), (2, .int s0), (0, .ref q0), (1, .int a1)] dX0_tryToFall_68 (by decide) rfl ?_
  refine kv_aload_n (pc := 70) 3 dX0_tryToFall_70 rfl rfl ?_
  refine kv_iload_n (pc := 71) 4 dX0_tryToFall_71 rfl rfl ?_
  refine kv_iload_n (pc := 72) 2 dX0_tryToFall_72 rfl rfl ?_
  refine kv_if_eq (pc := 73) (tgt := 81) dX0_tryToFall_73 (by decide) h (fun h => ?_) (fun h => ?_)
  · refine kv_iload_n (pc := 81) 1 dX0_tryToFall_81 rfl rfl ?_
    refine kv_cS (pc := 82) [.ref q0, .int a1, .int (fX1_wrapped (q0 + 1) ((σ q0 1) + 1) σ)] (fun r7 => (0, .int (kb r7.1), r7.2)) (fun r7 => (.int (kb r7.1) :: [])) (fun r7 => r7.2) 85 0 0 h (fun r7 g8 => tX0_roll sh hw l hst q0 h0 a1 (fX1_wrapped (q0 + 1) ((σ q0 1) + 1) σ) σ r7 g8) dX0_tryToFall_82 rfl yw_X0_roll lk_X0_83 (by decide) (Nat.le_of_ble_eq_true rfl) (by decide) (fun _ => rfl) (fun _ => rfl) ⟨rfl, rfl, rfl⟩ (fun _ _ h0 => absurd rfl h0) (fun r7 g8 z9 h => ?_)
    refine kv_ifb_ne (pc := 85) (tgt := 106) dX0_tryToFall_85 (by decide) h (fun h => ?_) (fun h => ?_)
    · refine kv_sub (pc := 106) [(0, .ref q0)] [3] rfl ?_
      exact wX0_tryToFall_L106 sh hw l hst q0 h0 a1 r7.2 r h
    · refine kv_aload_n (pc := 88) 3 dX0_tryToFall_88 rfl rfl ?_
      refine kv_iload_n (pc := 89) 4 dX0_tryToFall_89 rfl rfl ?_
      refine kv_iload_n (pc := 90) 2 dX0_tryToFall_90 rfl rfl ?_
      refine kv_if_eq (pc := 91) (tgt := 98) dX0_tryToFall_91 (by decide) h (fun h => ?_) (fun h => ?_)
      · refine kv_iload (pc := 98) 0 dX0_tryToFall_98 rfl ?_
        refine kv_cS (pc := 100) [.ref q0, .int a1, .int (fX1_wrapped (q0 + 1) (((σ q0 1) + (fX1_directions (q0 + 1) σ)) - 1) σ)] (fun r11 => (0, .int (kb r11.1), r11.2)) (fun r11 => (.int (kb r11.1) :: [])) (fun r11 => r11.2) 103 0 0 h (fun r11 g12 => tX0_roll sh hw l hst q0 h0 a1 (fX1_wrapped (q0 + 1) (((σ q0 1) + (fX1_directions (q0 + 1) σ)) - 1) σ) r7.2 r11 g12) dX0_tryToFall_100 rfl yw_X0_roll lk_X0_83 (by decide) (Nat.le_of_ble_eq_true rfl) (by decide) (fun _ => rfl) (fun _ => rfl) ⟨rfl, rfl, rfl⟩ (fun _ _ h0 => absurd rfl h0) (fun r11 g12 z13 h => ?_)
        refine kv_ifb_eq (pc := 103) (tgt := 116) dX0_tryToFall_103 (by decide) h (fun h => ?_) (fun h => ?_)
        · exact kv_vret (pc := 116) (v := .int 0) dX0_tryToFall_116 rfl (by cases h; rfl) (by decide) (by decide)
        · refine kv_sub (pc := 106) [(0, .ref q0)] [3] rfl ?_
          exact wX0_tryToFall_L106 sh hw l hst q0 h0 a1 r11.2 r h
      · refine kv_iload_n (pc := 94) 1 dX0_tryToFall_94 rfl rfl ?_
        refine kv_goto (pc := 95) (tgt := 100) dX0_tryToFall_95 (by decide) ?_
        refine kv_cS (pc := 100) [.ref q0, .int a1, .int (fX1_wrapped (q0 + 1) ((σ q0 1) + 1) σ)] (fun r14 => (0, .int (kb r14.1), r14.2)) (fun r14 => (.int (kb r14.1) :: [])) (fun r14 => r14.2) 103 0 0 h (fun r14 g15 => tX0_roll sh hw l hst q0 h0 a1 (fX1_wrapped (q0 + 1) ((σ q0 1) + 1) σ) r7.2 r14 g15) dX0_tryToFall_100 rfl yw_X0_roll lk_X0_83 (by decide) (Nat.le_of_ble_eq_true rfl) (by decide) (fun _ => rfl) (fun _ => rfl) ⟨rfl, rfl, rfl⟩ (fun _ _ h0 => absurd rfl h0) (fun r14 g15 z16 h => ?_)
        refine kv_ifb_eq (pc := 103) (tgt := 116) dX0_tryToFall_103 (by decide) h (fun h => ?_) (fun h => ?_)
        · exact kv_vret (pc := 116) (v := .int 0) dX0_tryToFall_116 rfl (by cases h; rfl) (by decide) (by decide)
        · refine kv_sub (pc := 106) [(0, .ref q0)] [3] rfl ?_
          exact wX0_tryToFall_L106 sh hw l hst q0 h0 a1 r14.2 r h
  · refine kv_iload (pc := 76) 0 dX0_tryToFall_76 rfl ?_
    refine kv_goto (pc := 78) (tgt := 82) dX0_tryToFall_78 (by decide) ?_
    refine kv_cS (pc := 82) [.ref q0, .int a1, .int (fX1_wrapped (q0 + 1) (((σ q0 1) + (fX1_directions (q0 + 1) σ)) - 1) σ)] (fun r17 => (0, .int (kb r17.1), r17.2)) (fun r17 => (.int (kb r17.1) :: [])) (fun r17 => r17.2) 85 0 0 h (fun r17 g18 => tX0_roll sh hw l hst q0 h0 a1 (fX1_wrapped (q0 + 1) (((σ q0 1) + (fX1_directions (q0 + 1) σ)) - 1) σ) σ r17 g18) dX0_tryToFall_82 rfl yw_X0_roll lk_X0_83 (by decide) (Nat.le_of_ble_eq_true rfl) (by decide) (fun _ => rfl) (fun _ => rfl) ⟨rfl, rfl, rfl⟩ (fun _ _ h0 => absurd rfl h0) (fun r17 g18 z19 h => ?_)
    refine kv_ifb_ne (pc := 85) (tgt := 106) dX0_tryToFall_85 (by decide) h (fun h => ?_) (fun h => ?_)
    · refine kv_sub (pc := 106) [(0, .ref q0)] [3] rfl ?_
      exact wX0_tryToFall_L106 sh hw l hst q0 h0 a1 r17.2 r h
    · refine kv_aload_n (pc := 88) 3 dX0_tryToFall_88 rfl rfl ?_
      refine kv_iload_n (pc := 89) 4 dX0_tryToFall_89 rfl rfl ?_
      refine kv_iload_n (pc := 90) 2 dX0_tryToFall_90 rfl rfl ?_
      refine kv_if_eq (pc := 91) (tgt := 98) dX0_tryToFall_91 (by decide) h (fun h => ?_) (fun h => ?_)
      · refine kv_iload (pc := 98) 0 dX0_tryToFall_98 rfl ?_
        refine kv_cS (pc := 100) [.ref q0, .int a1, .int (fX1_wrapped (q0 + 1) (((σ q0 1) + (fX1_directions (q0 + 1) σ)) - 1) σ)] (fun r20 => (0, .int (kb r20.1), r20.2)) (fun r20 => (.int (kb r20.1) :: [])) (fun r20 => r20.2) 103 0 0 h (fun r20 g21 => tX0_roll sh hw l hst q0 h0 a1 (fX1_wrapped (q0 + 1) (((σ q0 1) + (fX1_directions (q0 + 1) σ)) - 1) σ) r17.2 r20 g21) dX0_tryToFall_100 rfl yw_X0_roll lk_X0_83 (by decide) (Nat.le_of_ble_eq_true rfl) (by decide) (fun _ => rfl) (fun _ => rfl) ⟨rfl, rfl, rfl⟩ (fun _ _ h0 => absurd rfl h0) (fun r20 g21 z22 h => ?_)
        refine kv_ifb_eq (pc := 103) (tgt := 116) dX0_tryToFall_103 (by decide) h (fun h => ?_) (fun h => ?_)
        · exact kv_vret (pc := 116) (v := .int 0) dX0_tryToFall_116 rfl (by cases h; rfl) (by decide) (by decide)
        · refine kv_sub (pc := 106) [(0, .ref q0)] [3] rfl ?_
          exact wX0_tryToFall_L106 sh hw l hst q0 h0 a1 r20.2 r h
      · refine kv_iload_n (pc := 94) 1 dX0_tryToFall_94 rfl rfl ?_
        refine kv_goto (pc := 95) (tgt := 100) dX0_tryToFall_95 (by decide) ?_
        refine kv_cS (pc := 100) [.ref q0, .int a1, .int (fX1_wrapped (q0 + 1) ((σ q0 1) + 1) σ)] (fun r23 => (0, .int (kb r23.1), r23.2)) (fun r23 => (.int (kb r23.1) :: [])) (fun r23 => r23.2) 103 0 0 h (fun r23 g24 => tX0_roll sh hw l hst q0 h0 a1 (fX1_wrapped (q0 + 1) ((σ q0 1) + 1) σ) r17.2 r23 g24) dX0_tryToFall_100 rfl yw_X0_roll lk_X0_83 (by decide) (Nat.le_of_ble_eq_true rfl) (by decide) (fun _ => rfl) (fun _ => rfl) ⟨rfl, rfl, rfl⟩ (fun _ _ h0 => absurd rfl h0) (fun r23 g24 z25 h => ?_)
        refine kv_ifb_eq (pc := 103) (tgt := 116) dX0_tryToFall_103 (by decide) h (fun h => ?_) (fun h => ?_)
        · exact kv_vret (pc := 116) (v := .int 0) dX0_tryToFall_116 rfl (by cases h; rfl) (by decide) (by decide)
        · refine kv_sub (pc := 106) [(0, .ref q0)] [3] rfl ?_
          exact wX0_tryToFall_L106 sh hw l hst q0 h0 a1 r23.2 r h
set_option maxHeartbeats 4000000 in
set_option maxRecDepth 100000 in
theorem tX0_tryToFall (sh : KSh) (hw : KWf sh) (l : Launch) (hst : l.stackTraces = false) (q0 : Nat) (h0 : sh q0 = .inl 5) (a1 : Int32) (σ : Sto) (r : Sto) (h : fX0_tryToFall q0 a1 σ = some r) : CT sh l mX0_tryToFall yX0_tryToFall [.ref q0, .int a1] σ (0, .int 0, r) := by
  refine kct [(0, .ref q0), (1, .int a1)] hst (by decide +kernel) rfl rfl (Nat.le_of_ble_eq_true rfl) ?_
  rw [fX0_tryToFall] at h
  refine kv_aload_n (pc := 0) 0 dX0_tryToFall_0 rfl rfl ?_
  refine kv_iload_n (pc := 1) 1 dX0_tryToFall_1 rfl rfl ?_
  refine kv_cS (pc := 2) [.ref q0, .int a1] (fun r1 => (0, .int (kb r1.1), r1.2)) (fun r1 => (.int (kb r1.1) :: [])) (fun r1 => r1.2) 5 0 0 h (fun r1 g2 => tX0_drop sh hw l hst q0 h0 a1 σ r1 g2) dX0_tryToFall_2 rfl yw_X0_drop lk_X0_72 (by decide) (Nat.le_of_ble_eq_true rfl) (by decide) (fun _ => rfl) (fun _ => rfl) ⟨rfl, rfl, rfl⟩ (fun _ _ h0 => absurd rfl h0) (fun r1 g2 z3 h => ?_)
  refine kv_ifb_ne (pc := 5) (tgt := 17) dX0_tryToFall_5 (by decide) h (fun h => ?_) (fun h => ?_)
  · exact kv_vret (pc := 17) (v := .int 0) dX0_tryToFall_17 rfl (by cases h; rfl) (by decide) (by decide)
  · refine kv_aload_n (pc := 8) 0 dX0_tryToFall_8 rfl rfl ?_
    refine kv_iload_n (pc := 9) 1 dX0_tryToFall_9 rfl rfl ?_
    refine kv_cV (pc := 10) [.int a1] (fun r4 => (0, .int r4, r1.2)) (fun r4 => (.int r4 :: [])) (fun r4 => r1.2) 13 0 0 h (fun r4 g5 => tX5_kindOf sh hw l hst q0 h0 a1 r1.2 r4 g5) dX0_tryToFall_10 rfl h0 rfl yw_X5_kindOf lk_X0_41 (by decide) (Nat.le_of_ble_eq_true rfl) (by decide) (fun _ => rfl) (fun _ => rfl) ⟨rfl, rfl, rfl⟩ (fun _ _ h0 => absurd rfl h0) (fun r4 g5 z6 h => ?_)
    refine kv_iconst (pc := 13) (v := 1) dX0_tryToFall_13 (by decide) ?_
    refine kv_icmp_eq (pc := 14) (tgt := 18) dX0_tryToFall_14 (by decide) h (fun h => ?_) (fun h => ?_)
    · refine kv_aload_n (pc := 18) 0 dX0_tryToFall_18 rfl rfl ?_
      refine kv_getI (pc := 19) dX0_tryToFall_19 h0 rfl (i := 3) (by decide) rfl fl_X0_35 rfl ?_
      refine kv_iconst (pc := 22) (v := 2) dX0_tryToFall_22 (by decide) ?_
      refine kv_irem (pc := 23) dX0_tryToFall_23 (by decide) ?_
      refine kv_if_eq (pc := 24) (tgt := 31) dX0_tryToFall_24 (by decide) h (fun h => ?_) (fun h => ?_)
      · refine kv_iconst (pc := 31) (v := 0) dX0_tryToFall_31 (by decide) ?_
        refine kv_sub (pc := 32) [(0, .ref q0), (1, .int a1)] [0, 1] rfl ?_
        exact wX0_tryToFall_L32 sh hw l hst q0 h0 a1 0 r1.2 r h
      · refine kv_iconst (pc := 27) (v := 1) dX0_tryToFall_27 (by decide) ?_
        refine kv_goto (pc := 28) (tgt := 32) dX0_tryToFall_28 (by decide) ?_
        refine kv_sub (pc := 32) [(0, .ref q0), (1, .int a1)] [0, 1] rfl ?_
        exact wX0_tryToFall_L32 sh hw l hst q0 h0 a1 1 r1.2 r h
    · exact kv_vret (pc := 17) (v := .int 0) dX0_tryToFall_17 rfl (by cases h; rfl) (by decide) (by decide)
theorem yw_X0_tryToFall : KMS yX0_tryToFall mX0_tryToFall 2 := ⟨⟨by decide +kernel, by decide +kernel, by decide +kernel⟩, ⟨rfl, rfl⟩, kg_in 775 (by decide +kernel) (by decide +kernel), kg_in 54 (by decide +kernel) (by decide +kernel), kg_in 776 (by decide +kernel) (by decide +kernel)⟩
theorem dX0_tryToRise_0 : decode cX0_tryToRise 0 = .ok (.aload_n 0, 1) := by decide +kernel
theorem dX0_tryToRise_1 : decode cX0_tryToRise 1 = .ok (.getfield 56, 3) := by decide +kernel
theorem dX0_tryToRise_4 : decode cX0_tryToRise 4 = .ok (.aload_n 0, 1) := by decide +kernel
theorem dX0_tryToRise_5 : decode cX0_tryToRise 5 = .ok (.getfield 60, 3) := by decide +kernel
theorem dX0_tryToRise_8 : decode cX0_tryToRise 8 = .ok (.aload_n 0, 1) := by decide +kernel
theorem dX0_tryToRise_9 : decode cX0_tryToRise 9 = .ok (.getfield 56, 3) := by decide +kernel
theorem dX0_tryToRise_12 : decode cX0_tryToRise 12 = .ok (.invokevirtual 79, 3) := by decide +kernel
theorem dX0_tryToRise_15 : decode cX0_tryToRise 15 = .ok (.iconst 2, 1) := by decide +kernel
theorem dX0_tryToRise_16 : decode cX0_tryToRise 16 = .ok (.idiv, 1) := by decide +kernel
theorem dX0_tryToRise_17 : decode cX0_tryToRise 17 = .ok (.iadd, 1) := by decide +kernel
theorem dX0_tryToRise_18 : decode cX0_tryToRise 18 = .ok (.invokevirtual 76, 3) := by decide +kernel
theorem dX0_tryToRise_21 : decode cX0_tryToRise 21 = .ok (.istore_n 2, 1) := by decide +kernel
theorem dX0_tryToRise_22 : decode cX0_tryToRise 22 = .ok (.aload_n 0, 1) := by decide +kernel
theorem dX0_tryToRise_23 : decode cX0_tryToRise 23 = .ok (.iload_n 1, 1) := by decide +kernel
theorem dX0_tryToRise_24 : decode cX0_tryToRise 24 = .ok (.iload_n 2, 1) := by decide +kernel
theorem dX0_tryToRise_25 : decode cX0_tryToRise 25 = .ok (.invokestatic 83, 3) := by decide +kernel
theorem dX0_tryToRise_28 : decode cX0_tryToRise 28 = .ok (.pop, 1) := by decide +kernel
theorem dX0_tryToRise_29 : decode cX0_tryToRise 29 = .ok (.return_, 1) := by decide +kernel
abbrev mX0_tryToRise : KM := (RX0, cX0_tryToRise, 3, none, { frames := 4, cells := 0, slots := 0, locals := 89 }, 0, 0)
def fX0_tryToRise (q0 : Nat) (a1 : Int32) (σ : Sto) : Option Sto :=
  (fX0_roll q0 a1 (fX1_wrapped (q0 + 1) ((σ q0 1) + ((fX1_directions (q0 + 1) σ) / 2)) σ) σ).bind fun r1 =>
  some r1.2
set_option maxHeartbeats 4000000 in
set_option maxRecDepth 100000 in
theorem tX0_tryToRise (sh : KSh) (hw : KWf sh) (l : Launch) (hst : l.stackTraces = false) (q0 : Nat) (h0 : sh q0 = .inl 5) (a1 : Int32) (σ : Sto) (r : Sto) (h : fX0_tryToRise q0 a1 σ = some r) : CT sh l mX0_tryToRise yX0_tryToRise [.ref q0, .int a1] σ (0, .int 0, r) := by
  refine kct [(0, .ref q0), (1, .int a1)] hst (by decide +kernel) rfl rfl (Nat.le_of_ble_eq_true rfl) ?_
  rw [fX0_tryToRise] at h
  refine kv_aload_n (pc := 0) 0 dX0_tryToRise_0 rfl rfl ?_
  refine kv_getR (pc := 1) (q2 := q0 + 1) dX0_tryToRise_1 h0 rfl (i := 0) (by decide) rfl fl_X0_56 rfl rfl ?_
  refine kv_aload_n (pc := 4) 0 dX0_tryToRise_4 rfl rfl ?_
  refine kv_getI (pc := 5) dX0_tryToRise_5 h0 rfl (i := 1) (by decide) rfl fl_X0_60 rfl ?_
  refine kv_aload_n (pc := 8) 0 dX0_tryToRise_8 rfl rfl ?_
  refine kv_getR (pc := 9) (q2 := q0 + 1) dX0_tryToRise_9 h0 rfl (i := 0) (by decide) rfl fl_X0_56 rfl rfl ?_
  refine kv_tV (pc := 12) (v := .int (fX1_directions (q0 + 1) σ)) [] (.int (fX1_directions (q0 + 1) σ) :: [.int (σ q0 1), .ref (q0 + 1)]) 15 0 0 (tX1_directions sh hw l hst (q0 + 1) (show sh (q0 + 1) = _ from kso_5_1 hw h0) σ) dX0_tryToRise_12 rfl (show sh (q0 + 1) = _ from kso_5_1 hw h0) rfl yw_X1_directions lk_X0_79 (by decide) (Nat.le_of_ble_eq_true rfl) (by decide) rfl ⟨rfl, rfl, rfl⟩ ?_
  refine kv_iconst (pc := 15) (v := 2) dX0_tryToRise_15 (by decide) ?_
  refine kv_idiv (pc := 16) dX0_tryToRise_16 (by decide) ?_
  refine kv_iadd (pc := 17) dX0_tryToRise_17 ?_
  refine kv_tV (pc := 18) (v := .int (fX1_wrapped (q0 + 1) ((σ q0 1) + ((fX1_directions (q0 + 1) σ) / 2)) σ)) [.int ((σ q0 1) + ((fX1_directions (q0 + 1) σ) / 2))] (.int (fX1_wrapped (q0 + 1) ((σ q0 1) + ((fX1_directions (q0 + 1) σ) / 2)) σ) :: []) 21 0 0 (tX1_wrapped sh hw l hst (q0 + 1) (show sh (q0 + 1) = _ from kso_5_1 hw h0) ((σ q0 1) + ((fX1_directions (q0 + 1) σ) / 2)) σ) dX0_tryToRise_18 rfl (show sh (q0 + 1) = _ from kso_5_1 hw h0) rfl yw_X1_wrapped lk_X0_76 (by decide) (Nat.le_of_ble_eq_true rfl) (by decide) rfl ⟨rfl, rfl, rfl⟩ ?_
  refine kv_istore_n (pc := 21) [(2, .int (fX1_wrapped (q0 + 1) ((σ q0 1) + ((fX1_directions (q0 + 1) σ) / 2)) σ)), (0, .ref q0), (1, .int a1)] dX0_tryToRise_21 rfl (by decide) rfl ?_
  refine kv_aload_n (pc := 22) 1 dX0_tryToRise_22 rfl rfl ?_
  refine kv_iload_n (pc := 23) 2 dX0_tryToRise_23 rfl rfl ?_
  refine kv_iload_n (pc := 24) 0 dX0_tryToRise_24 rfl rfl ?_
  refine kv_cS (pc := 25) [.ref q0, .int a1, .int (fX1_wrapped (q0 + 1) ((σ q0 1) + ((fX1_directions (q0 + 1) σ) / 2)) σ)] (fun r1 => (0, .int (kb r1.1), r1.2)) (fun r1 => (.int (kb r1.1) :: [])) (fun r1 => r1.2) 28 0 0 h (fun r1 g2 => tX0_roll sh hw l hst q0 h0 a1 (fX1_wrapped (q0 + 1) ((σ q0 1) + ((fX1_directions (q0 + 1) σ) / 2)) σ) σ r1 g2) dX0_tryToRise_25 rfl yw_X0_roll lk_X0_83 (by decide) (Nat.le_of_ble_eq_true rfl) (by decide) (fun _ => rfl) (fun _ => rfl) ⟨rfl, rfl, rfl⟩ (fun _ _ h0 => absurd rfl h0) (fun r1 g2 z3 h => ?_)
  refine kv_pop (pc := 28) dX0_tryToRise_28 rfl ?_
  exact kv_vret (pc := 29) (v := .int 0) dX0_tryToRise_29 rfl (by cases h; rfl) (by decide) (by decide)
theorem yw_X0_tryToRise : KMS yX0_tryToRise mX0_tryToRise 2 := ⟨⟨by decide +kernel, by decide +kernel, by decide +kernel⟩, ⟨rfl, rfl⟩, kg_in 809 (by decide +kernel) (by decide +kernel), kg_in 54 (by decide +kernel) (by decide +kernel), kg_in 810 (by decide +kernel) (by decide +kernel)⟩
theorem dX0_makeTick_0 : decode cX0_makeTick 0 = .ok (.aload_n 1, 1) := by decide +kernel
theorem dX0_makeTick_1 : decode cX0_makeTick 1 = .ok (.getfield 15, 3) := by decide +kernel
theorem dX0_makeTick_4 : decode cX0_makeTick 4 = .ok (.istore_n 2, 1) := by decide +kernel
theorem dX0_makeTick_5 : decode cX0_makeTick 5 = .ok (.aload_n 0, 1) := by decide +kernel
theorem dX0_makeTick_6 : decode cX0_makeTick 6 = .ok (.aload_n 1, 1) := by decide +kernel
theorem dX0_makeTick_7 : decode cX0_makeTick 7 = .ok (.iconst 0, 1) := by decide +kernel
theorem dX0_makeTick_8 : decode cX0_makeTick 8 = .ok (.invokevirtual 21, 3) := by decide +kernel
theorem dX0_makeTick_11 : decode cX0_makeTick 11 = .ok (.iconst 0, 1) := by decide +kernel
theorem dX0_makeTick_12 : decode cX0_makeTick 12 = .ok (.istore_n 3, 1) := by decide +kernel
theorem dX0_makeTick_13 : decode cX0_makeTick 13 = .ok (.iload_n 3, 1) := by decide +kernel
theorem dX0_makeTick_14 : decode cX0_makeTick 14 = .ok (.aload_n 0, 1) := by decide +kernel
theorem dX0_makeTick_15 : decode cX0_makeTick 15 = .ok (.getfield 25, 3) := by decide +kernel
theorem dX0_makeTick_18 : decode cX0_makeTick 18 = .ok (.if_icmp .ge 28, 3) := by decide +kernel
theorem dX0_makeTick_21 : decode cX0_makeTick 21 = .ok (.iload_n 3, 1) := by decide +kernel
theorem dX0_makeTick_22 : decode cX0_makeTick 22 = .ok (.bipush 30, 2) := by decide +kernel
theorem dX0_makeTick_24 : decode cX0_makeTick 24 = .ok (.if_icmp .ge 22, 3) := by decide +kernel
theorem dX0_makeTick_27 : decode cX0_makeTick 27 = .ok (.aload_n 1, 1) := by decide +kernel
theorem dX0_makeTick_28 : decode cX0_makeTick 28 = .ok (.aload_n 0, 1) := by decide +kernel
theorem dX0_makeTick_29 : decode cX0_makeTick 29 = .ok (.getfield 9, 3) := by decide +kernel
theorem dX0_makeTick_32 : decode cX0_makeTick 32 = .ok (.iload_n 3, 1) := by decide +kernel
theorem dX0_makeTick_33 : decode cX0_makeTick 33 = .ok (.iaload, 1) := by decide +kernel
theorem dX0_makeTick_34 : decode cX0_makeTick 34 = .ok (.bipush 32, 2) := by decide +kernel
theorem dX0_makeTick_36 : decode cX0_makeTick 36 = .ok (.irem, 1) := by decide +kernel
theorem dX0_makeTick_37 : decode cX0_makeTick 37 = .ok (.invokestatic 28, 3) := by decide +kernel
theorem dX0_makeTick_40 : decode cX0_makeTick 40 = .ok (.iinc 3 1, 3) := by decide +kernel
theorem dX0_makeTick_43 : decode cX0_makeTick 43 = .ok (.goto (-30), 3) := by decide +kernel
theorem dX0_makeTick_46 : decode cX0_makeTick 46 = .ok (.aload_n 0, 1) := by decide +kernel
theorem dX0_makeTick_47 : decode cX0_makeTick 47 = .ok (.aload_n 1, 1) := by decide +kernel
theorem dX0_makeTick_48 : decode cX0_makeTick 48 = .ok (.iconst 1, 1) := by decide +kernel
theorem dX0_makeTick_49 : decode cX0_makeTick 49 = .ok (.invokevirtual 21, 3) := by decide +kernel
theorem dX0_makeTick_52 : decode cX0_makeTick 52 = .ok (.iconst 0, 1) := by decide +kernel
theorem dX0_makeTick_53 : decode cX0_makeTick 53 = .ok (.istore_n 3, 1) := by decide +kernel
theorem dX0_makeTick_54 : decode cX0_makeTick 54 = .ok (.iload_n 3, 1) := by decide +kernel
theorem dX0_makeTick_55 : decode cX0_makeTick 55 = .ok (.aload_n 0, 1) := by decide +kernel
theorem dX0_makeTick_56 : decode cX0_makeTick 56 = .ok (.getfield 25, 3) := by decide +kernel
theorem dX0_makeTick_59 : decode cX0_makeTick 59 = .ok (.if_icmp .ge 28, 3) := by decide +kernel
theorem dX0_makeTick_62 : decode cX0_makeTick 62 = .ok (.iload_n 3, 1) := by decide +kernel
theorem dX0_makeTick_63 : decode cX0_makeTick 63 = .ok (.bipush 30, 2) := by decide +kernel
theorem dX0_makeTick_65 : decode cX0_makeTick 65 = .ok (.if_icmp .ge 22, 3) := by decide +kernel
theorem dX0_makeTick_68 : decode cX0_makeTick 68 = .ok (.aload_n 1, 1) := by decide +kernel
theorem dX0_makeTick_69 : decode cX0_makeTick 69 = .ok (.aload_n 0, 1) := by decide +kernel
theorem dX0_makeTick_70 : decode cX0_makeTick 70 = .ok (.getfield 9, 3) := by decide +kernel
theorem dX0_makeTick_73 : decode cX0_makeTick 73 = .ok (.iload_n 3, 1) := by decide +kernel
theorem dX0_makeTick_74 : decode cX0_makeTick 74 = .ok (.iaload, 1) := by decide +kernel
theorem dX0_makeTick_75 : decode cX0_makeTick 75 = .ok (.bipush 32, 2) := by decide +kernel
theorem dX0_makeTick_77 : decode cX0_makeTick 77 = .ok (.irem, 1) := by decide +kernel
theorem dX0_makeTick_78 : decode cX0_makeTick 78 = .ok (.invokestatic 32, 3) := by decide +kernel
theorem dX0_makeTick_81 : decode cX0_makeTick 81 = .ok (.iinc 3 1, 3) := by decide +kernel
theorem dX0_makeTick_84 : decode cX0_makeTick 84 = .ok (.goto (-30), 3) := by decide +kernel
theorem dX0_makeTick_87 : decode cX0_makeTick 87 = .ok (.aload_n 1, 1) := by decide +kernel
theorem dX0_makeTick_88 : decode cX0_makeTick 88 = .ok (.getfield 15, 3) := by decide +kernel
theorem dX0_makeTick_91 : decode cX0_makeTick 91 = .ok (.iload_n 2, 1) := by decide +kernel
theorem dX0_makeTick_92 : decode cX0_makeTick 92 = .ok (.isub, 1) := by decide +kernel
theorem dX0_makeTick_93 : decode cX0_makeTick 93 = .ok (.istore_n 3, 1) := by decide +kernel
theorem dX0_makeTick_94 : decode cX0_makeTick 94 = .ok (.iload_n 3, 1) := by decide +kernel
theorem dX0_makeTick_95 : decode cX0_makeTick 95 = .ok (.ifCond .le 13, 3) := by decide +kernel
theorem dX0_makeTick_98 : decode cX0_makeTick 98 = .ok (.aload_n 1, 1) := by decide +kernel
theorem dX0_makeTick_99 : decode cX0_makeTick 99 = .ok (.dup, 1) := by decide +kernel
theorem dX0_makeTick_100 : decode cX0_makeTick 100 = .ok (.getfield 35, 3) := by decide +kernel
theorem dX0_makeTick_103 : decode cX0_makeTick 103 = .ok (.iconst 1, 1) := by decide +kernel
theorem dX0_makeTick_104 : decode cX0_makeTick 104 = .ok (.iadd, 1) := by decide +kernel
theorem dX0_makeTick_105 : decode cX0_makeTick 105 = .ok (.putfield 35, 3) := by decide +kernel
theorem dX0_makeTick_108 : decode cX0_makeTick 108 = .ok (.iload_n 3, 1) := by decide +kernel
theorem dX0_makeTick_109 : decode cX0_makeTick 109 = .ok (.ireturn, 1) := by decide +kernel
abbrev mX0_makeTick : KM := (RX0, cX0_makeTick, 4, (some .int), { frames := 5, cells := 0, slots := 0, locals := 114 }, 0, 0)
def fX0_makeTick_L87 (q0 : Nat) (q1 : Nat) (v2 : Int32) (σ : Sto) : Option (Int32 × Sto) :=
  if ((σ q1 5) - v2) ≤ 0 then
    some (((σ q1 5) - v2), σ)
  else
    klet (su σ q1 3 ((σ q1 3) + 1)) fun σ7 =>
    some (((σ q1 5) - v2), σ7)
def fX0_makeTick_L54 (q0 : Nat) (q1 : Nat) : Nat → Int32 → Int32 → Sto → Option (Int32 × Sto)
  | 0, _, _, _ => none
  | fu + 1, v2, v3, σ =>
    if (σ q0 1) ≤ v3 then
      fX0_makeTick_L87 q0 q1 v2 σ
    else
      if 30 ≤ v3 then
        fX0_makeTick_L87 q0 q1 v2 σ
      else
        if kin v3 30 = true then
          (fX0_tryToRise q1 (krem (σ (q0 + 1) v3.toNatClampNeg) 32) σ).bind fun r8 =>
          fX0_makeTick_L54 q0 q1 fu v2 (v3 + 1) r8
        else none
def fX0_makeTick_L46 (q0 : Nat) (q1 : Nat) (v2 : Int32) (σ : Sto) : Option (Int32 × Sto) :=
  (fX0_lineUp q0 q1 1 σ).bind fun r4 =>
  fX0_makeTick_L54 q0 q1 kFU v2 0 r4
def fX0_makeTick_L13 (q0 : Nat) (q1 : Nat) : Nat → Int32 → Int32 → Sto → Option (Int32 × Sto)
  | 0, _, _, _ => none
  | fu + 1, v2, v3, σ =>
    if (σ q0 1) ≤ v3 then
      fX0_makeTick_L46 q0 q1 v2 σ
    else
      if 30 ≤ v3 then
        fX0_makeTick_L46 q0 q1 v2 σ
      else
        if kin v3 30 = true then
          (fX0_tryToFall q1 (krem (σ (q0 + 1) v3.toNatClampNeg) 32) σ).bind fun r11 =>
          fX0_makeTick_L13 q0 q1 fu v2 (v3 + 1) r11
        else none
def fX0_makeTick (q0 : Nat) (q1 : Nat) (σ : Sto) : Option (Int32 × Sto) :=
  (fX0_lineUp q0 q1 0 σ).bind fun r1 =>
  fX0_makeTick_L13 q0 q1 kFU (σ q1 5) 0 r1
set_option maxHeartbeats 4000000 in
set_option maxRecDepth 100000 in
theorem wX0_makeTick_L87 (sh : KSh) (hw : KWf sh) (l : Launch) (hst : l.stackTraces = false) (q0 : Nat) (h0 : sh q0 = .inl 0) (q1 : Nat) (h1 : sh q1 = .inl 5) : ∀ (v2 : Int32), ∀ (σ : Sto), ∀ (r : (Int32 × Sto)), fX0_makeTick_L87 q0 q1 v2 σ = some r → VV sh l mX0_makeTick 0 0 87 [(1, .ref q1), (2, .int v2)] [] σ (0, .int r.1, r.2) := by
  intro v2 σ r h
  rw [fX0_makeTick_L87] at h
  refine kv_aload_n (pc := 87) 0 dX0_makeTick_87 rfl rfl ?_
  refine kv_getI (pc := 88) dX0_makeTick_88 h1 rfl (i := 5) (by decide) rfl fl_X0_15 rfl ?_
  refine kv_iload_n (pc := 91) 1 dX0_makeTick_91 rfl rfl ?_
  refine kv_isub (pc := 92) dX0_makeTick_92 ?_
  refine kv_istore_n (pc := 93) [(3, .int ((σ q1 5) - v2)), (1, .ref q1), (2, .int v2)] dX0_makeTick_93 rfl (by decide) rfl ?_
  refine kv_iload_n (pc := 94) 0 dX0_makeTick_94 rfl rfl ?_
  refine kv_if_le (pc := 95) (tgt := 108) dX0_makeTick_95 (by decide) h (fun h => ?_) (fun h => ?_)
  · refine kv_iload_n (pc := 108) 0 dX0_makeTick_108 rfl rfl ?_
    exact kv_iret (pc := 109) dX0_makeTick_109 rfl (by cases h; rfl) (by decide) (by decide)
  · refine kv_aload_n (pc := 98) 1 dX0_makeTick_98 rfl rfl ?_
    refine kv_dup (pc := 99) dX0_makeTick_99 rfl ?_
    refine kv_getI (pc := 100) dX0_makeTick_100 h1 rfl (i := 3) (by decide) rfl fl_X0_35 rfl ?_
    refine kv_iconst (pc := 103) (v := 1) dX0_makeTick_103 (by decide) ?_
    refine kv_iadd (pc := 104) dX0_makeTick_104 ?_
    refine kv_put (pc := 105) tyX5 tyX5_ok nmX5 dX0_makeTick_105 h1 rfl (i := 3) (by decide) rfl fl_X0_35 rfl rfl rfl rfl rfl ?_
    refine kv_let h (fun σ7 h => ?_)
    refine kv_iload_n (pc := 108) 0 dX0_makeTick_108 rfl rfl ?_
    exact kv_iret (pc := 109) dX0_makeTick_109 rfl (by cases h; rfl) (by decide) (by decide)
set_option maxHeartbeats 4000000 in
set_option maxRecDepth 100000 in
theorem wX0_makeTick_L54 (sh : KSh) (hw : KWf sh) (l : Launch) (hst : l.stackTraces = false) (q0 : Nat) (h0 : sh q0 = .inl 0) (q1 : Nat) (h1 : sh q1 = .inl 5) : ∀ (fu : Nat), ∀ (v2 : Int32), ∀ (v3 : Int32), ∀ (σ : Sto), ∀ (r : (Int32 × Sto)), fX0_makeTick_L54 q0 q1 fu v2 v3 σ = some r → VV sh l mX0_makeTick 0 0 54 [(0, .ref q0), (1, .ref q1), (2, .int v2), (3, .int v3)] [] σ (0, .int r.1, r.2) := by
  intro fu
  induction fu with
  | zero => intro v2 v3 σ r h; rw [fX0_makeTick_L54] at h; cases h
  | succ fu ih =>
    intro v2 v3 σ r h
    rw [fX0_makeTick_L54] at h
    refine kv_iload_n (pc := 54) 3 dX0_makeTick_54 rfl rfl ?_
    refine kv_aload_n (pc := 55) 0 dX0_makeTick_55 rfl rfl ?_
    refine kv_getI (pc := 56) dX0_makeTick_56 h0 rfl (i := 1) (by decide) rfl fl_X0_25 rfl ?_
    refine kv_icmp_ge (pc := 59) (tgt := 87) dX0_makeTick_59 (by decide) h (fun h => ?_) (fun h => ?_)
    · refine kv_sub (pc := 87) [(1, .ref q1), (2, .int v2)] [1, 2] rfl ?_
      exact wX0_makeTick_L87 sh hw l hst q0 h0 q1 h1 v2 σ r h
    · refine kv_iload_n (pc := 62) 3 dX0_makeTick_62 rfl rfl ?_
      refine kv_bipush (pc := 63) (v := 30) dX0_makeTick_63 (by decide) ?_
      refine kv_icmp_ge (pc := 65) (tgt := 87) dX0_makeTick_65 (by decide) h (fun h => ?_) (fun h => ?_)
      · refine kv_sub (pc := 87) [(1, .ref q1), (2, .int v2)] [1, 2] rfl ?_
        exact wX0_makeTick_L87 sh hw l hst q0 h0 q1 h1 v2 σ r h
      · refine kv_aload_n (pc := 68) 1 dX0_makeTick_68 rfl rfl ?_
        refine kv_aload_n (pc := 69) 0 dX0_makeTick_69 rfl rfl ?_
        refine kv_getR (pc := 70) (q2 := q0 + 1) dX0_makeTick_70 h0 rfl (i := 0) (by decide) rfl fl_X0_9 rfl rfl ?_
        refine kv_iload_n (pc := 73) 3 dX0_makeTick_73 rfl rfl ?_
        refine kv_iald (pc := 74) dX0_makeTick_74 (show sh (q0 + 1) = _ from kso_0_1 hw h0) h (fun h => ?_)
        refine kv_bipush (pc := 75) (v := 32) dX0_makeTick_75 (by decide) ?_
        refine kv_irem (pc := 77) dX0_makeTick_77 (by decide) ?_
        refine kv_cS (pc := 78) [.ref q1, .int (krem (σ (q0 + 1) v3.toNatClampNeg) 32)] (fun r8 => (0, .int 0, r8)) (fun r8 => []) (fun r8 => r8) 81 0 0 h (fun r8 g9 => tX0_tryToRise sh hw l hst q1 h1 (krem (σ (q0 + 1) v3.toNatClampNeg) 32) σ r8 g9) dX0_makeTick_78 rfl yw_X0_tryToRise lk_X0_32 (by decide) (Nat.le_of_ble_eq_true rfl) (by decide) (fun _ => rfl) (fun _ => rfl) ⟨rfl, rfl, rfl⟩ (fun _ _ h0 => absurd rfl h0) (fun r8 g9 z10 h => ?_)
        refine kv_iinc (pc := 81) (v := v3 + 1) 3 [(3, .int (v3 + 1)), (0, .ref q0), (1, .ref q1), (2, .int v2)] dX0_makeTick_81 rfl rfl (by decide) rfl ?_
        refine kv_goto (pc := 84) (tgt := 54) dX0_makeTick_84 (by decide) ?_
        refine kv_sub (pc := 54) [(0, .ref q0), (1, .ref q1), (2, .int v2), (3, .int (v3 + 1))] [1, 2, 3, 0] rfl ?_
        exact ih v2 (v3 + 1) r8 r h
set_option maxHeartbeats 4000000 in
set_option maxRecDepth 100000 in
theorem wX0_makeTick_L46 (sh : KSh) (hw : KWf sh) (l : Launch) (hst : l.stackTraces = false) (q0 : Nat) (h0 : sh q0 = .inl 0) (q1 : Nat) (h1 : sh q1 = .inl 5) : ∀ (v2 : Int32), ∀ (σ : Sto), ∀ (r : (Int32 × Sto)), fX0_makeTick_L46 q0 q1 v2 σ = some r → VV sh l mX0_makeTick 0 0 46 [(0, .ref q0), (1, .ref q1), (2, .int v2)] [] σ (0, .int r.1, r.2) := by
  intro v2 σ r h
  rw [fX0_makeTick_L46] at h
  refine kv_aload_n (pc := 46) 0 dX0_makeTick_46 rfl rfl ?_
  refine kv_aload_n (pc := 47) 1 dX0_makeTick_47 rfl rfl ?_
  refine kv_iconst (pc := 48) (v := 1) dX0_makeTick_48 (by decide) ?_
  refine kv_cV (pc := 49) [.ref q1, .int 1] (fun r4 => (0, .int 0, r4)) (fun r4 => []) (fun r4 => r4) 52 0 0 h (fun r4 g5 => tX0_lineUp sh hw l hst q0 h0 q1 h1 1 σ r4 g5) dX0_makeTick_49 rfl h0 rfl yw_X0_lineUp lk_X0_21 (by decide) (Nat.le_of_ble_eq_true rfl) (by decide) (fun _ => rfl) (fun _ => rfl) ⟨rfl, rfl, rfl⟩ (fun _ _ h0 => absurd rfl h0) (fun r4 g5 z6 h => ?_)
  refine kv_iconst (pc := 52) (v := 0) dX0_makeTick_52 (by decide) ?_
  refine kv_istore_n (pc := 53) [(3, .int 0), (0, .ref q0), (1, .ref q1), (2, .int v2)] dX0_makeTick_53 rfl (by decide) rfl ?_
  refine kv_sub (pc := 54) [(0, .ref q0), (1, .ref q1), (2, .int v2), (3, .int 0)] [1, 2, 3, 0] rfl ?_
  exact wX0_makeTick_L54 sh hw l hst q0 h0 q1 h1 kFU v2 0 r4 r h
set_option maxHeartbeats 4000000 in
set_option maxRecDepth 100000 in
theorem wX0_makeTick_L13 (sh : KSh) (hw : KWf sh) (l : Launch) (hst : l.stackTraces = false) (q0 : Nat) (h0 : sh q0 = .inl 0) (q1 : Nat) (h1 : sh q1 = .inl 5) : ∀ (fu : Nat), ∀ (v2 : Int32), ∀ (v3 : Int32), ∀ (σ : Sto), ∀ (r : (Int32 × Sto)), fX0_makeTick_L13 q0 q1 fu v2 v3 σ = some r → VV sh l mX0_makeTick 0 0 13 [(0, .ref q0), (1, .ref q1), (2, .int v2), (3, .int v3)] [] σ (0, .int r.1, r.2) := by
  intro fu
  induction fu with
  | zero => intro v2 v3 σ r h; rw [fX0_makeTick_L13] at h; cases h
  | succ fu ih =>
    intro v2 v3 σ r h
    rw [fX0_makeTick_L13] at h
    refine kv_iload_n (pc := 13) 3 dX0_makeTick_13 rfl rfl ?_
    refine kv_aload_n (pc := 14) 0 dX0_makeTick_14 rfl rfl ?_
    refine kv_getI (pc := 15) dX0_makeTick_15 h0 rfl (i := 1) (by decide) rfl fl_X0_25 rfl ?_
    refine kv_icmp_ge (pc := 18) (tgt := 46) dX0_makeTick_18 (by decide) h (fun h => ?_) (fun h => ?_)
    · refine kv_sub (pc := 46) [(0, .ref q0), (1, .ref q1), (2, .int v2)] [0, 1, 2] rfl ?_
      exact wX0_makeTick_L46 sh hw l hst q0 h0 q1 h1 v2 σ r h
    · refine kv_iload_n (pc := 21) 3 dX0_makeTick_21 rfl rfl ?_
      refine kv_bipush (pc := 22) (v := 30) dX0_makeTick_22 (by decide) ?_
      refine kv_icmp_ge (pc := 24) (tgt := 46) dX0_makeTick_24 (by decide) h (fun h => ?_) (fun h => ?_)
      · refine kv_sub (pc := 46) [(0, .ref q0), (1, .ref q1), (2, .int v2)] [0, 1, 2] rfl ?_
        exact wX0_makeTick_L46 sh hw l hst q0 h0 q1 h1 v2 σ r h
      · refine kv_aload_n (pc := 27) 1 dX0_makeTick_27 rfl rfl ?_
        refine kv_aload_n (pc := 28) 0 dX0_makeTick_28 rfl rfl ?_
        refine kv_getR (pc := 29) (q2 := q0 + 1) dX0_makeTick_29 h0 rfl (i := 0) (by decide) rfl fl_X0_9 rfl rfl ?_
        refine kv_iload_n (pc := 32) 3 dX0_makeTick_32 rfl rfl ?_
        refine kv_iald (pc := 33) dX0_makeTick_33 (show sh (q0 + 1) = _ from kso_0_1 hw h0) h (fun h => ?_)
        refine kv_bipush (pc := 34) (v := 32) dX0_makeTick_34 (by decide) ?_
        refine kv_irem (pc := 36) dX0_makeTick_36 (by decide) ?_
        refine kv_cS (pc := 37) [.ref q1, .int (krem (σ (q0 + 1) v3.toNatClampNeg) 32)] (fun r11 => (0, .int 0, r11)) (fun r11 => []) (fun r11 => r11) 40 0 0 h (fun r11 g12 => tX0_tryToFall sh hw l hst q1 h1 (krem (σ (q0 + 1) v3.toNatClampNeg) 32) σ r11 g12) dX0_makeTick_37 rfl yw_X0_tryToFall lk_X0_28 (by decide) (Nat.le_of_ble_eq_true rfl) (by decide) (fun _ => rfl) (fun _ => rfl) ⟨rfl, rfl, rfl⟩ (fun _ _ h0 => absurd rfl h0) (fun r11 g12 z13 h => ?_)
        refine kv_iinc (pc := 40) (v := v3 + 1) 3 [(3, .int (v3 + 1)), (0, .ref q0), (1, .ref q1), (2, .int v2)] dX0_makeTick_40 rfl rfl (by decide) rfl ?_
        refine kv_goto (pc := 43) (tgt := 13) dX0_makeTick_43 (by decide) ?_
        refine kv_sub (pc := 13) [(0, .ref q0), (1, .ref q1), (2, .int v2), (3, .int (v3 + 1))] [1, 2, 3, 0] rfl ?_
        exact ih v2 (v3 + 1) r11 r h
set_option maxHeartbeats 4000000 in
set_option maxRecDepth 100000 in
theorem tX0_makeTick (sh : KSh) (hw : KWf sh) (l : Launch) (hst : l.stackTraces = false) (q0 : Nat) (h0 : sh q0 = .inl 0) (q1 : Nat) (h1 : sh q1 = .inl 5) (σ : Sto) (r : (Int32 × Sto)) (h : fX0_makeTick q0 q1 σ = some r) : CT sh l mX0_makeTick yX0_makeTick [.ref q0, .ref q1] σ (0, .int r.1, r.2) := by
  refine kct [(0, .ref q0), (1, .ref q1)] hst (by decide +kernel) rfl rfl (Nat.le_of_ble_eq_true rfl) ?_
  rw [fX0_makeTick] at h
  refine kv_aload_n (pc := 0) 1 dX0_makeTick_0 rfl rfl ?_
  refine kv_getI (pc := 1) dX0_makeTick_1 h1 rfl (i := 5) (by decide) rfl fl_X0_15 rfl ?_
  refine kv_istore_n (pc := 4) [(2, .int (σ q1 5)), (0, .ref q0), (1, .ref q1)] dX0_makeTick_4 rfl (by decide) rfl ?_
  refine kv_aload_n (pc := 5) 1 dX0_makeTick_5 rfl rfl ?_
  refine kv_aload_n (pc := 6) 2 dX0_makeTick_6 rfl rfl ?_
  refine kv_iconst (pc := 7) (v := 0) dX0_makeTick_7 (by decide) ?_
  refine kv_cV (pc := 8) [.ref q1, .int 0] (fun r1 => (0, .int 0, r1)) (fun r1 => []) (fun r1 => r1) 11 0 0 h (fun r1 g2 => tX0_lineUp sh hw l hst q0 h0 q1 h1 0 σ r1 g2) dX0_makeTick_8 rfl h0 rfl yw_X0_lineUp lk_X0_21 (by decide) (Nat.le_of_ble_eq_true rfl) (by decide) (fun _ => rfl) (fun _ => rfl) ⟨rfl, rfl, rfl⟩ (fun _ _ h0 => absurd rfl h0) (fun r1 g2 z3 h => ?_)
  refine kv_iconst (pc := 11) (v := 0) dX0_makeTick_11 (by decide) ?_
  refine kv_istore_n (pc := 12) [(3, .int 0), (2, .int (σ q1 5)), (0, .ref q0), (1, .ref q1)] dX0_makeTick_12 rfl (by decide) rfl ?_
  refine kv_sub (pc := 13) [(0, .ref q0), (1, .ref q1), (2, .int (σ q1 5)), (3, .int 0)] [2, 3, 1, 0] rfl ?_
  exact wX0_makeTick_L13 sh hw l hst q0 h0 q1 h1 kFU (σ q1 5) 0 r1 r h
theorem yw_X0_makeTick : KMV yX0_makeTick mX0_makeTick RX0 1 := ⟨⟨rfl, by decide +kernel, by decide +kernel, by decide +kernel⟩, ⟨rfl, rfl⟩, kg_in 747 (by decide +kernel) (by decide +kernel), kg_in 748 (by decide +kernel) (by decide +kernel), kg_in 54 (by decide +kernel) (by decide +kernel), kg_in 749 (by decide +kernel) (by decide +kernel)⟩
