theorem dJ7_fill_53178_0 : decode cJ7_fill_53178 0 = .ok (.iconst 0, 1) := by decide +kernel
theorem dJ7_fill_53178_1 : decode cJ7_fill_53178 1 = .ok (.istore_n 2, 1) := by decide +kernel
theorem dJ7_fill_53178_2 : decode cJ7_fill_53178 2 = .ok (.aload_n 0, 1) := by decide +kernel
theorem dJ7_fill_53178_3 : decode cJ7_fill_53178 3 = .ok (.arraylength, 1) := by decide +kernel
theorem dJ7_fill_53178_4 : decode cJ7_fill_53178 4 = .ok (.istore_n 3, 1) := by decide +kernel
theorem dJ7_fill_53178_5 : decode cJ7_fill_53178 5 = .ok (.iload_n 2, 1) := by decide +kernel
theorem dJ7_fill_53178_6 : decode cJ7_fill_53178 6 = .ok (.iload_n 3, 1) := by decide +kernel
theorem dJ7_fill_53178_7 : decode cJ7_fill_53178 7 = .ok (.if_icmp .ge 13, 3) := by decide +kernel
theorem dJ7_fill_53178_10 : decode cJ7_fill_53178 10 = .ok (.aload_n 0, 1) := by decide +kernel
theorem dJ7_fill_53178_11 : decode cJ7_fill_53178 11 = .ok (.iload_n 2, 1) := by decide +kernel
theorem dJ7_fill_53178_12 : decode cJ7_fill_53178 12 = .ok (.iload_n 1, 1) := by decide +kernel
theorem dJ7_fill_53178_13 : decode cJ7_fill_53178 13 = .ok (.iastore, 1) := by decide +kernel
theorem dJ7_fill_53178_14 : decode cJ7_fill_53178 14 = .ok (.iinc 2 1, 3) := by decide +kernel
theorem dJ7_fill_53178_17 : decode cJ7_fill_53178 17 = .ok (.goto (-12), 3) := by decide +kernel
theorem dJ7_fill_53178_20 : decode cJ7_fill_53178 20 = .ok (.return_, 1) := by decide +kernel
abbrev mJ7_fill_53178 : KM := (RJ7, cJ7_fill_53178, 4, none, { frames := 0, cells := 0, slots := 0, locals := 0 }, 0, 0)
def fJ7_fill_53178_L5 (q0 : Nat) (n0 : Nat) (a1 : Int32) : Nat → Int32 → Int32 → Sto → Option Sto
  | 0, _, _, _ => none
  | fu + 1, v2, v3, σ =>
    if v3 ≤ v2 then
      some σ
    else
      if kin v2 n0 = true then
        klet (su σ q0 v2.toNatClampNeg a1) fun σ1 =>
        fJ7_fill_53178_L5 q0 n0 a1 fu (v2 + 1) v3 σ1
      else none
def fJ7_fill_53178 (q0 : Nat) (n0 : Nat) (a1 : Int32) (σ : Sto) : Option Sto :=
  fJ7_fill_53178_L5 q0 n0 a1 kFU 0 (nI n0) σ
set_option maxHeartbeats 4000000 in
set_option maxRecDepth 100000 in
theorem wJ7_fill_53178_L5 (sh : KSh) (hw : KWf sh) (l : Launch) (hst : l.stackTraces = false) (q0 : Nat) (n0 : Nat) (h0 : sh q0 = .inr (0, n0)) (a1 : Int32) : ∀ (fu : Nat), ∀ (v2 : Int32), ∀ (v3 : Int32), ∀ (σ : Sto), ∀ (r : Sto), fJ7_fill_53178_L5 q0 n0 a1 fu v2 v3 σ = some r → VV sh l mJ7_fill_53178 0 0 5 [(0, .ref q0), (1, .int a1), (2, .int v2), (3, .int v3)] [] σ (0, .int 0, r) := by
  intro fu
  induction fu with
  | zero => intro v2 v3 σ r h; rw [fJ7_fill_53178_L5] at h; cases h
  | succ fu ih =>
    intro v2 v3 σ r h
    rw [fJ7_fill_53178_L5] at h
    refine kv_iload_n (pc := 5) 2 dJ7_fill_53178_5 rfl rfl ?_
    refine kv_iload_n (pc := 6) 3 dJ7_fill_53178_6 rfl rfl ?_
    refine kv_icmp_ge (pc := 7) (tgt := 20) dJ7_fill_53178_7 (by decide) h (fun h => ?_) (fun h => ?_)
    · exact kv_vret (pc := 20) (v := .int 0) dJ7_fill_53178_20 rfl (by cases h; rfl) (by decide) (by decide)
    · refine kv_aload_n (pc := 10) 0 dJ7_fill_53178_10 rfl rfl ?_
      refine kv_iload_n (pc := 11) 2 dJ7_fill_53178_11 rfl rfl ?_
      refine kv_iload_n (pc := 12) 1 dJ7_fill_53178_12 rfl rfl ?_
      refine kv_iast (pc := 13) dJ7_fill_53178_13 h0 h (fun h => ?_)
      refine kv_let h (fun σ1 h => ?_)
      refine kv_iinc (pc := 14) (v := v2 + 1) 2 [(2, .int (v2 + 1)), (0, .ref q0), (1, .int a1), (3, .int v3)] dJ7_fill_53178_14 rfl rfl (by decide) rfl ?_
      refine kv_goto (pc := 17) (tgt := 5) dJ7_fill_53178_17 (by decide) ?_
      refine kv_sub (pc := 5) [(0, .ref q0), (1, .int a1), (2, .int (v2 + 1)), (3, .int v3)] [1, 2, 0, 3] rfl ?_
      exact ih (v2 + 1) v3 σ1 r h
set_option maxHeartbeats 4000000 in
set_option maxRecDepth 100000 in
theorem tJ7_fill_53178 (sh : KSh) (hw : KWf sh) (l : Launch) (hst : l.stackTraces = false) (q0 : Nat) (n0 : Nat) (h0 : sh q0 = .inr (0, n0)) (a1 : Int32) (σ : Sto) (r : Sto) (h : fJ7_fill_53178 q0 n0 a1 σ = some r) : CT sh l mJ7_fill_53178 yJ7_fill_53178 [.ref q0, .int a1] σ (0, .int 0, r) := by
  refine kct [(0, .ref q0), (1, .int a1)] hst (by decide +kernel) rfl rfl (Nat.le_of_ble_eq_true rfl) ?_
  rw [fJ7_fill_53178] at h
  refine kv_iconst (pc := 0) (v := 0) dJ7_fill_53178_0 (by decide) ?_
  refine kv_istore_n (pc := 1) [(2, .int 0), (0, .ref q0), (1, .int a1)] dJ7_fill_53178_1 rfl (by decide) rfl ?_
  refine kv_aload_n (pc := 2) 1 dJ7_fill_53178_2 rfl rfl ?_
  refine kv_alen (pc := 3) (v := nI n0) dJ7_fill_53178_3 h0 (by decide) rfl ?_
  refine kv_istore_n (pc := 4) [(3, .int (nI n0)), (2, .int 0), (0, .ref q0), (1, .int a1)] dJ7_fill_53178_4 rfl (by decide) rfl ?_
  refine kv_sub (pc := 5) [(0, .ref q0), (1, .int a1), (2, .int 0), (3, .int (nI n0))] [2, 3, 1, 0] rfl ?_
  exact wJ7_fill_53178_L5 sh hw l hst q0 n0 h0 a1 kFU 0 (nI n0) σ r h
theorem yw_J7_fill_53178 : KMS yJ7_fill_53178 mJ7_fill_53178 2 := ⟨⟨by decide +kernel, by decide +kernel, by decide +kernel⟩, ⟨rfl, rfl⟩, kg_in 133 (by decide +kernel) (by decide +kernel), kg_in 51 (by decide +kernel) (by decide +kernel), kg_in 134 (by decide +kernel) (by decide +kernel)⟩
theorem dX1_xOf_0 : decode cX1_xOf 0 = .ok (.iload_n 0, 1) := by decide +kernel
theorem dX1_xOf_1 : decode cX1_xOf 1 = .ok (.bipush 15, 2) := by decide +kernel
theorem dX1_xOf_3 : decode cX1_xOf 3 = .ok (.irem, 1) := by decide +kernel
theorem dX1_xOf_4 : decode cX1_xOf 4 = .ok (.bipush 7, 2) := by decide +kernel
theorem dX1_xOf_6 : decode cX1_xOf 6 = .ok (.isub, 1) := by decide +kernel
theorem dX1_xOf_7 : decode cX1_xOf 7 = .ok (.ireturn, 1) := by decide +kernel
abbrev mX1_xOf : KM := (RX1, cX1_xOf, 1, (some .int), { frames := 0, cells := 0, slots := 0, locals := 0 }, 0, 0)
def fX1_xOf (a0 : Int32) : Int32 :=
  ((krem a0 15) - 7)
set_option maxHeartbeats 4000000 in
set_option maxRecDepth 100000 in
theorem tX1_xOf (sh : KSh) (hw : KWf sh) (l : Launch) (hst : l.stackTraces = false) (a0 : Int32) (σ : Sto) : CT sh l mX1_xOf yX1_xOf [.int a0] σ (0, .int (fX1_xOf a0), σ) := by
  refine kct [(0, .int a0)] hst (by decide +kernel) rfl rfl (Nat.le_of_ble_eq_true rfl) ?_
  generalize h : fX1_xOf a0 = r
  rw [fX1_xOf] at h
  refine kv_iload_n (pc := 0) 0 dX1_xOf_0 rfl rfl ?_
  refine kv_bipush (pc := 1) (v := 15) dX1_xOf_1 (by decide) ?_
  refine kv_irem (pc := 3) dX1_xOf_3 (by decide) ?_
  refine kv_bipush (pc := 4) (v := 7) dX1_xOf_4 (by decide) ?_
  refine kv_isub (pc := 6) dX1_xOf_6 ?_
  exact kv_iret (pc := 7) dX1_xOf_7 rfl (by subst h; rfl) (by decide) (by decide)
theorem yw_X1_xOf : KMS yX1_xOf mX1_xOf 1 := ⟨⟨by decide +kernel, by decide +kernel, by decide +kernel⟩, ⟨rfl, rfl⟩, kg_in 97 (by decide +kernel) (by decide +kernel), kg_in 49 (by decide +kernel) (by decide +kernel), kg_in 98 (by decide +kernel) (by decide +kernel)⟩
theorem dX1_yOf_0 : decode cX1_yOf 0 = .ok (.iload_n 0, 1) := by decide +kernel
theorem dX1_yOf_1 : decode cX1_yOf 1 = .ok (.bipush 15, 2) := by decide +kernel
theorem dX1_yOf_3 : decode cX1_yOf 3 = .ok (.idiv, 1) := by decide +kernel
theorem dX1_yOf_4 : decode cX1_yOf 4 = .ok (.bipush 7, 2) := by decide +kernel
theorem dX1_yOf_6 : decode cX1_yOf 6 = .ok (.isub, 1) := by decide +kernel
theorem dX1_yOf_7 : decode cX1_yOf 7 = .ok (.ireturn, 1) := by decide +kernel
abbrev mX1_yOf : KM := (RX1, cX1_yOf, 1, (some .int), { frames := 0, cells := 0, slots := 0, locals := 0 }, 0, 0)
def fX1_yOf (a0 : Int32) : Int32 :=
  ((a0 / 15) - 7)
set_option maxHeartbeats 4000000 in
set_option maxRecDepth 100000 in
theorem tX1_yOf (sh : KSh) (hw : KWf sh) (l : Launch) (hst : l.stackTraces = false) (a0 : Int32) (σ : Sto) : CT sh l mX1_yOf yX1_yOf [.int a0] σ (0, .int (fX1_yOf a0), σ) := by
  refine kct [(0, .int a0)] hst (by decide +kernel) rfl rfl (Nat.le_of_ble_eq_true rfl) ?_
  generalize h : fX1_yOf a0 = r
  rw [fX1_yOf] at h
  refine kv_iload_n (pc := 0) 0 dX1_yOf_0 rfl rfl ?_
  refine kv_bipush (pc := 1) (v := 15) dX1_yOf_1 (by decide) ?_
  refine kv_idiv (pc := 3) dX1_yOf_3 (by decide) ?_
  refine kv_bipush (pc := 4) (v := 7) dX1_yOf_4 (by decide) ?_
  refine kv_isub (pc := 6) dX1_yOf_6 ?_
  exact kv_iret (pc := 7) dX1_yOf_7 rfl (by subst h; rfl) (by decide) (by decide)
theorem yw_X1_yOf : KMS yX1_yOf mX1_yOf 1 := ⟨⟨by decide +kernel, by decide +kernel, by decide +kernel⟩, ⟨rfl, rfl⟩, kg_in 100 (by decide +kernel) (by decide +kernel), kg_in 49 (by decide +kernel) (by decide +kernel), kg_in 101 (by decide +kernel) (by decide +kernel)⟩
theorem dX1_stepX_0 : decode cX1_stepX 0 = .ok (.aload_n 0, 1) := by decide +kernel
theorem dX1_stepX_1 : decode cX1_stepX 1 = .ok (.getfield 26, 3) := by decide +kernel
theorem dX1_stepX_4 : decode cX1_stepX 4 = .ok (.ifCond .eq 9, 3) := by decide +kernel
theorem dX1_stepX_7 : decode cX1_stepX 7 = .ok (.getstatic 75, 3) := by decide +kernel
theorem dX1_stepX_10 : decode cX1_stepX 10 = .ok (.goto 6, 3) := by decide +kernel
theorem dX1_stepX_13 : decode cX1_stepX 13 = .ok (.getstatic 78, 3) := by decide +kernel
theorem dX1_stepX_16 : decode cX1_stepX 16 = .ok (.astore_n 2, 1) := by decide +kernel
theorem dX1_stepX_17 : decode cX1_stepX 17 = .ok (.iload_n 1, 1) := by decide +kernel
theorem dX1_stepX_18 : decode cX1_stepX 18 = .ok (.ifCond .lt 15, 3) := by decide +kernel
theorem dX1_stepX_21 : decode cX1_stepX 21 = .ok (.iload_n 1, 1) := by decide +kernel
theorem dX1_stepX_22 : decode cX1_stepX 22 = .ok (.aload_n 2, 1) := by decide +kernel
theorem dX1_stepX_23 : decode cX1_stepX 23 = .ok (.arraylength, 1) := by decide +kernel
theorem dX1_stepX_24 : decode cX1_stepX 24 = .ok (.if_icmp .ge 9, 3) := by decide +kernel
theorem dX1_stepX_27 : decode cX1_stepX 27 = .ok (.aload_n 2, 1) := by decide +kernel
theorem dX1_stepX_28 : decode cX1_stepX 28 = .ok (.iload_n 1, 1) := by decide +kernel
theorem dX1_stepX_29 : decode cX1_stepX 29 = .ok (.iaload, 1) := by decide +kernel
theorem dX1_stepX_30 : decode cX1_stepX 30 = .ok (.goto 4, 3) := by decide +kernel
theorem dX1_stepX_33 : decode cX1_stepX 33 = .ok (.iconst 0, 1) := by decide +kernel
theorem dX1_stepX_34 : decode cX1_stepX 34 = .ok (.ireturn, 1) := by decide +kernel
abbrev mX1_stepX : KM := (RX1, cX1_stepX, 3, (some .int), { frames := 0, cells := 0, slots := 0, locals := 0 }, 0, 0)
def fX1_stepX (q0 : Nat) (a1 : Int32) (σ : Sto) : Option Int32 :=
  if (σ q0 2) = 0 then
    if a1 < 0 then
      some 0
    else
      if 8 ≤ a1 then
        some 0
      else
        if kin a1 8 = true then
          some (kst 0 a1)
        else none
  else
    if a1 < 0 then
      some 0
    else
      if 6 ≤ a1 then
        some 0
      else
        if kin a1 6 = true then
          some (kst 2 a1)
        else none
set_option maxHeartbeats 4000000 in
set_option maxRecDepth 100000 in
theorem tX1_stepX (sh : KSh) (hw : KWf sh) (l : Launch) (hst : l.stackTraces = false) (q0 : Nat) (h0 : sh q0 = .inl 1) (a1 : Int32) (σ : Sto) (r : Int32) (h : fX1_stepX q0 a1 σ = some r) : CT sh l mX1_stepX yX1_stepX [.ref q0, .int a1] σ (0, .int r, σ) := by
  refine kct [(0, .ref q0), (1, .int a1)] hst (by decide +kernel) rfl rfl (Nat.le_of_ble_eq_true rfl) ?_
  rw [fX1_stepX] at h
  refine kv_aload_n (pc := 0) 0 dX1_stepX_0 rfl rfl ?_
  refine kv_getI (pc := 1) dX1_stepX_1 h0 rfl (i := 2) (by decide) rfl fl_X1_26 rfl ?_
  refine kv_if_eq (pc := 4) (tgt := 13) dX1_stepX_4 (by decide) h (fun h => ?_) (fun h => ?_)
  · refine kv_gets (pc := 13) (j := 0) dX1_stepX_13 (by decide) fl_X1_78 ?_
    refine kv_astore_n (pc := 16) [(2, .ref 1000), (0, .ref q0), (1, .int a1)] dX1_stepX_16 rfl (by decide) rfl ?_
    refine kv_iload_n (pc := 17) 2 dX1_stepX_17 rfl rfl ?_
    refine kv_if_lt (pc := 18) (tgt := 33) dX1_stepX_18 (by decide) h (fun h => ?_) (fun h => ?_)
    · refine kv_iconst (pc := 33) (v := 0) dX1_stepX_33 (by decide) ?_
      exact kv_iret (pc := 34) dX1_stepX_34 rfl (by cases h; rfl) (by decide) (by decide)
    · refine kv_iload_n (pc := 21) 2 dX1_stepX_21 rfl rfl ?_
      refine kv_aload_n (pc := 22) 0 dX1_stepX_22 rfl rfl ?_
      refine kv_tlen (pc := 23) (j := 0) (v := 8) dX1_stepX_23 rfl (by decide) (by decide) ?_
      refine kv_icmp_ge (pc := 24) (tgt := 33) dX1_stepX_24 (by decide) h (fun h => ?_) (fun h => ?_)
      · refine kv_iconst (pc := 33) (v := 0) dX1_stepX_33 (by decide) ?_
        exact kv_iret (pc := 34) dX1_stepX_34 rfl (by cases h; rfl) (by decide) (by decide)
      · refine kv_aload_n (pc := 27) 0 dX1_stepX_27 rfl rfl ?_
        refine kv_iload_n (pc := 28) 2 dX1_stepX_28 rfl rfl ?_
        refine kv_tald (pc := 29) (j := 0) dX1_stepX_29 rfl (by decide) (N0 := 8) (by decide) h (fun h => ?_)
        refine kv_goto (pc := 30) (tgt := 34) dX1_stepX_30 (by decide) ?_
        exact kv_iret (pc := 34) dX1_stepX_34 rfl (by cases h; rfl) (by decide) (by decide)
  · refine kv_gets (pc := 7) (j := 2) dX1_stepX_7 (by decide) fl_X1_75 ?_
    refine kv_goto (pc := 10) (tgt := 16) dX1_stepX_10 (by decide) ?_
    refine kv_astore_n (pc := 16) [(2, .ref 1002), (0, .ref q0), (1, .int a1)] dX1_stepX_16 rfl (by decide) rfl ?_
    refine kv_iload_n (pc := 17) 2 dX1_stepX_17 rfl rfl ?_
    refine kv_if_lt (pc := 18) (tgt := 33) dX1_stepX_18 (by decide) h (fun h => ?_) (fun h => ?_)
    · refine kv_iconst (pc := 33) (v := 0) dX1_stepX_33 (by decide) ?_
      exact kv_iret (pc := 34) dX1_stepX_34 rfl (by cases h; rfl) (by decide) (by decide)
    · refine kv_iload_n (pc := 21) 2 dX1_stepX_21 rfl rfl ?_
      refine kv_aload_n (pc := 22) 0 dX1_stepX_22 rfl rfl ?_
      refine kv_tlen (pc := 23) (j := 2) (v := 6) dX1_stepX_23 rfl (by decide) (by decide) ?_
      refine kv_icmp_ge (pc := 24) (tgt := 33) dX1_stepX_24 (by decide) h (fun h => ?_) (fun h => ?_)
      · refine kv_iconst (pc := 33) (v := 0) dX1_stepX_33 (by decide) ?_
        exact kv_iret (pc := 34) dX1_stepX_34 rfl (by cases h; rfl) (by decide) (by decide)
      · refine kv_aload_n (pc := 27) 0 dX1_stepX_27 rfl rfl ?_
        refine kv_iload_n (pc := 28) 2 dX1_stepX_28 rfl rfl ?_
        refine kv_tald (pc := 29) (j := 2) dX1_stepX_29 rfl (by decide) (N0 := 6) (by decide) h (fun h => ?_)
        refine kv_goto (pc := 30) (tgt := 34) dX1_stepX_30 (by decide) ?_
        exact kv_iret (pc := 34) dX1_stepX_34 rfl (by cases h; rfl) (by decide) (by decide)
theorem yw_X1_stepX : KMV yX1_stepX mX1_stepX RX1 1 := ⟨⟨rfl, by decide +kernel, by decide +kernel, by decide +kernel⟩, ⟨rfl, rfl⟩, kg_in 728 (by decide +kernel) (by decide +kernel), kg_in 29 (by decide +kernel) (by decide +kernel), kg_in 49 (by decide +kernel) (by decide +kernel), kg_in 729 (by decide +kernel) (by decide +kernel)⟩
theorem dX1_stepY_0 : decode cX1_stepY 0 = .ok (.aload_n 0, 1) := by decide +kernel
theorem dX1_stepY_1 : decode cX1_stepY 1 = .ok (.getfield 26, 3) := by decide +kernel
theorem dX1_stepY_4 : decode cX1_stepY 4 = .ok (.ifCond .eq 9, 3) := by decide +kernel
theorem dX1_stepY_7 : decode cX1_stepY 7 = .ok (.getstatic 81, 3) := by decide +kernel
theorem dX1_stepY_10 : decode cX1_stepY 10 = .ok (.goto 6, 3) := by decide +kernel
theorem dX1_stepY_13 : decode cX1_stepY 13 = .ok (.getstatic 84, 3) := by decide +kernel
theorem dX1_stepY_16 : decode cX1_stepY 16 = .ok (.astore_n 2, 1) := by decide +kernel
theorem dX1_stepY_17 : decode cX1_stepY 17 = .ok (.iload_n 1, 1) := by decide +kernel
theorem dX1_stepY_18 : decode cX1_stepY 18 = .ok (.ifCond .lt 15, 3) := by decide +kernel
theorem dX1_stepY_21 : decode cX1_stepY 21 = .ok (.iload_n 1, 1) := by decide +kernel
theorem dX1_stepY_22 : decode cX1_stepY 22 = .ok (.aload_n 2, 1) := by decide +kernel
theorem dX1_stepY_23 : decode cX1_stepY 23 = .ok (.arraylength, 1) := by decide +kernel
theorem dX1_stepY_24 : decode cX1_stepY 24 = .ok (.if_icmp .ge 9, 3) := by decide +kernel
theorem dX1_stepY_27 : decode cX1_stepY 27 = .ok (.aload_n 2, 1) := by decide +kernel
theorem dX1_stepY_28 : decode cX1_stepY 28 = .ok (.iload_n 1, 1) := by decide +kernel
theorem dX1_stepY_29 : decode cX1_stepY 29 = .ok (.iaload, 1) := by decide +kernel
theorem dX1_stepY_30 : decode cX1_stepY 30 = .ok (.goto 4, 3) := by decide +kernel
theorem dX1_stepY_33 : decode cX1_stepY 33 = .ok (.iconst 0, 1) := by decide +kernel
theorem dX1_stepY_34 : decode cX1_stepY 34 = .ok (.ireturn, 1) := by decide +kernel
abbrev mX1_stepY : KM := (RX1, cX1_stepY, 3, (some .int), { frames := 0, cells := 0, slots := 0, locals := 0 }, 0, 0)
def fX1_stepY (q0 : Nat) (a1 : Int32) (σ : Sto) : Option Int32 :=
  if (σ q0 2) = 0 then
    if a1 < 0 then
      some 0
    else
      if 8 ≤ a1 then
        some 0
      else
        if kin a1 8 = true then
          some (kst 1 a1)
        else none
  else
    if a1 < 0 then
      some 0
    else
      if 6 ≤ a1 then
        some 0
      else
        if kin a1 6 = true then
          some (kst 3 a1)
        else none
set_option maxHeartbeats 4000000 in
set_option maxRecDepth 100000 in
theorem tX1_stepY (sh : KSh) (hw : KWf sh) (l : Launch) (hst : l.stackTraces = false) (q0 : Nat) (h0 : sh q0 = .inl 1) (a1 : Int32) (σ : Sto) (r : Int32) (h : fX1_stepY q0 a1 σ = some r) : CT sh l mX1_stepY yX1_stepY [.ref q0, .int a1] σ (0, .int r, σ) := by
  refine kct [(0, .ref q0), (1, .int a1)] hst (by decide +kernel) rfl rfl (Nat.le_of_ble_eq_true rfl) ?_
  rw [fX1_stepY] at h
  refine kv_aload_n (pc := 0) 0 dX1_stepY_0 rfl rfl ?_
  refine kv_getI (pc := 1) dX1_stepY_1 h0 rfl (i := 2) (by decide) rfl fl_X1_26 rfl ?_
  refine kv_if_eq (pc := 4) (tgt := 13) dX1_stepY_4 (by decide) h (fun h => ?_) (fun h => ?_)
  · refine kv_gets (pc := 13) (j := 1) dX1_stepY_13 (by decide) fl_X1_84 ?_
    refine kv_astore_n (pc := 16) [(2, .ref 1001), (0, .ref q0), (1, .int a1)] dX1_stepY_16 rfl (by decide) rfl ?_
    refine kv_iload_n (pc := 17) 2 dX1_stepY_17 rfl rfl ?_
    refine kv_if_lt (pc := 18) (tgt := 33) dX1_stepY_18 (by decide) h (fun h => ?_) (fun h => ?_)
    · refine kv_iconst (pc := 33) (v := 0) dX1_stepY_33 (by decide) ?_
      exact kv_iret (pc := 34) dX1_stepY_34 rfl (by cases h; rfl) (by decide) (by decide)
    · refine kv_iload_n (pc := 21) 2 dX1_stepY_21 rfl rfl ?_
      refine kv_aload_n (pc := 22) 0 dX1_stepY_22 rfl rfl ?_
      refine kv_tlen (pc := 23) (j := 1) (v := 8) dX1_stepY_23 rfl (by decide) (by decide) ?_
      refine kv_icmp_ge (pc := 24) (tgt := 33) dX1_stepY_24 (by decide) h (fun h => ?_) (fun h => ?_)
      · refine kv_iconst (pc := 33) (v := 0) dX1_stepY_33 (by decide) ?_
        exact kv_iret (pc := 34) dX1_stepY_34 rfl (by cases h; rfl) (by decide) (by decide)
      · refine kv_aload_n (pc := 27) 0 dX1_stepY_27 rfl rfl ?_
        refine kv_iload_n (pc := 28) 2 dX1_stepY_28 rfl rfl ?_
        refine kv_tald (pc := 29) (j := 1) dX1_stepY_29 rfl (by decide) (N0 := 8) (by decide) h (fun h => ?_)
        refine kv_goto (pc := 30) (tgt := 34) dX1_stepY_30 (by decide) ?_
        exact kv_iret (pc := 34) dX1_stepY_34 rfl (by cases h; rfl) (by decide) (by decide)
  · refine kv_gets (pc := 7) (j := 3) dX1_stepY_7 (by decide) fl_X1_81 ?_
    refine kv_goto (pc := 10) (tgt := 16) dX1_stepY_10 (by decide) ?_
    refine kv_astore_n (pc := 16) [(2, .ref 1003), (0, .ref q0), (1, .int a1)] dX1_stepY_16 rfl (by decide) rfl ?_
    refine kv_iload_n (pc := 17) 2 dX1_stepY_17 rfl rfl ?_
    refine kv_if_lt (pc := 18) (tgt := 33) dX1_stepY_18 (by decide) h (fun h => ?_) (fun h => ?_)
    · refine kv_iconst (pc := 33) (v := 0) dX1_stepY_33 (by decide) ?_
      exact kv_iret (pc := 34) dX1_stepY_34 rfl (by cases h; rfl) (by decide) (by decide)
    · refine kv_iload_n (pc := 21) 2 dX1_stepY_21 rfl rfl ?_
      refine kv_aload_n (pc := 22) 0 dX1_stepY_22 rfl rfl ?_
      refine kv_tlen (pc := 23) (j := 3) (v := 6) dX1_stepY_23 rfl (by decide) (by decide) ?_
      refine kv_icmp_ge (pc := 24) (tgt := 33) dX1_stepY_24 (by decide) h (fun h => ?_) (fun h => ?_)
      · refine kv_iconst (pc := 33) (v := 0) dX1_stepY_33 (by decide) ?_
        exact kv_iret (pc := 34) dX1_stepY_34 rfl (by cases h; rfl) (by decide) (by decide)
      · refine kv_aload_n (pc := 27) 0 dX1_stepY_27 rfl rfl ?_
        refine kv_iload_n (pc := 28) 2 dX1_stepY_28 rfl rfl ?_
        refine kv_tald (pc := 29) (j := 3) dX1_stepY_29 rfl (by decide) (N0 := 6) (by decide) h (fun h => ?_)
        refine kv_goto (pc := 30) (tgt := 34) dX1_stepY_30 (by decide) ?_
        exact kv_iret (pc := 34) dX1_stepY_34 rfl (by cases h; rfl) (by decide) (by decide)
theorem yw_X1_stepY : KMV yX1_stepY mX1_stepY RX1 1 := ⟨⟨rfl, by decide +kernel, by decide +kernel, by decide +kernel⟩, ⟨rfl, rfl⟩, kg_in 720 (by decide +kernel) (by decide +kernel), kg_in 28 (by decide +kernel) (by decide +kernel), kg_in 49 (by decide +kernel) (by decide +kernel), kg_in 721 (by decide +kernel) (by decide +kernel)⟩
theorem dX1_depthOf_0 : decode cX1_depthOf 0 = .ok (.iload_n 1, 1) := by decide +kernel
theorem dX1_depthOf_1 : decode cX1_depthOf 1 = .ok (.invokestatic 30, 3) := by decide +kernel
theorem dX1_depthOf_4 : decode cX1_depthOf 4 = .ok (.istore_n 3, 1) := by decide +kernel
theorem dX1_depthOf_5 : decode cX1_depthOf 5 = .ok (.iload_n 1, 1) := by decide +kernel
theorem dX1_depthOf_6 : decode cX1_depthOf 6 = .ok (.invokestatic 34, 3) := by decide +kernel
theorem dX1_depthOf_9 : decode cX1_depthOf 9 = .ok (.istore 4, 2) := by decide +kernel
theorem dX1_depthOf_11 : decode cX1_depthOf 11 = .ok (.iload_n 3, 1) := by decide +kernel
theorem dX1_depthOf_12 : decode cX1_depthOf 12 = .ok (.aload_n 0, 1) := by decide +kernel
theorem dX1_depthOf_13 : decode cX1_depthOf 13 = .ok (.iload_n 2, 1) := by decide +kernel
theorem dX1_depthOf_14 : decode cX1_depthOf 14 = .ok (.invokevirtual 90, 3) := by decide +kernel
theorem dX1_depthOf_17 : decode cX1_depthOf 17 = .ok (.imul, 1) := by decide +kernel
theorem dX1_depthOf_18 : decode cX1_depthOf 18 = .ok (.iload 4, 2) := by decide +kernel
theorem dX1_depthOf_20 : decode cX1_depthOf 20 = .ok (.aload_n 0, 1) := by decide +kernel
theorem dX1_depthOf_21 : decode cX1_depthOf 21 = .ok (.iload_n 2, 1) := by decide +kernel
theorem dX1_depthOf_22 : decode cX1_depthOf 22 = .ok (.invokevirtual 87, 3) := by decide +kernel
theorem dX1_depthOf_25 : decode cX1_depthOf 25 = .ok (.imul, 1) := by decide +kernel
theorem dX1_depthOf_26 : decode cX1_depthOf 26 = .ok (.iadd, 1) := by decide +kernel
theorem dX1_depthOf_27 : decode cX1_depthOf 27 = .ok (.istore 5, 2) := by decide +kernel
theorem dX1_depthOf_29 : decode cX1_depthOf 29 = .ok (.aload_n 0, 1) := by decide +kernel
theorem dX1_depthOf_30 : decode cX1_depthOf 30 = .ok (.getfield 26, 3) := by decide +kernel
theorem dX1_depthOf_33 : decode cX1_depthOf 33 = .ok (.ifCond .eq 27, 3) := by decide +kernel
theorem dX1_depthOf_36 : decode cX1_depthOf 36 = .ok (.iconst 2, 1) := by decide +kernel
theorem dX1_depthOf_37 : decode cX1_depthOf 37 = .ok (.iload 5, 2) := by decide +kernel
theorem dX1_depthOf_39 : decode cX1_depthOf 39 = .ok (.imul, 1) := by decide +kernel
theorem dX1_depthOf_40 : decode cX1_depthOf 40 = .ok (.iload_n 3, 1) := by decide +kernel
theorem dX1_depthOf_41 : decode cX1_depthOf 41 = .ok (.aload_n 0, 1) := by decide +kernel
theorem dX1_depthOf_42 : decode cX1_depthOf 42 = .ok (.iload_n 2, 1) := by decide +kernel
theorem dX1_depthOf_43 : decode cX1_depthOf 43 = .ok (.invokevirtual 87, 3) := by decide +kernel
theorem dX1_depthOf_46 : decode cX1_depthOf 46 = .ok (.imul, 1) := by decide +kernel
theorem dX1_depthOf_47 : decode cX1_depthOf 47 = .ok (.iadd, 1) := by decide +kernel
theorem dX1_depthOf_48 : decode cX1_depthOf 48 = .ok (.iload 4, 2) := by decide +kernel
theorem dX1_depthOf_50 : decode cX1_depthOf 50 = .ok (.aload_n 0, 1) := by decide +kernel
theorem dX1_depthOf_51 : decode cX1_depthOf 51 = .ok (.iload_n 2, 1) := by decide +kernel
theorem dX1_depthOf_52 : decode cX1_depthOf 52 = .ok (.invokevirtual 90, 3) := by decide +kernel
theorem dX1_depthOf_55 : decode cX1_depthOf 55 = .ok (.imul, 1) := by decide +kernel
theorem dX1_depthOf_56 : decode cX1_depthOf 56 = .ok (.iadd, 1) := by decide +kernel
theorem dX1_depthOf_57 : decode cX1_depthOf 57 = .ok (.goto 5, 3) := by decide +kernel
theorem dX1_depthOf_60 : decode cX1_depthOf 60 = .ok (.iload 5, 2) := by decide +kernel
theorem dX1_depthOf_62 : decode cX1_depthOf 62 = .ok (.ireturn, 1) := by decide +kernel
abbrev mX1_depthOf : KM := (RX1, cX1_depthOf, 6, (some .int), { frames := 1, cells := 0, slots := 0, locals := 22 }, 0, 0)
def fX1_depthOf (q0 : Nat) (a1 : Int32) (a2 : Int32) (σ : Sto) : Option Int32 :=
  (fX1_stepX q0 a2 σ).bind fun r1 =>
  (fX1_stepY q0 a2 σ).bind fun r4 =>
  if (σ q0 2) = 0 then
    some (((fX1_xOf a1) * r1) + ((fX1_yOf a1) * r4))
  else
    (fX1_stepY q0 a2 σ).bind fun r7 =>
    (fX1_stepX q0 a2 σ).bind fun r10 =>
    some (((2 * (((fX1_xOf a1) * r1) + ((fX1_yOf a1) * r4))) + ((fX1_xOf a1) * r7)) + ((fX1_yOf a1) * r10))
set_option maxHeartbeats 4000000 in
set_option maxRecDepth 100000 in
theorem tX1_depthOf (sh : KSh) (hw : KWf sh) (l : Launch) (hst : l.stackTraces = false) (q0 : Nat) (h0 : sh q0 = .inl 1) (a1 : Int32) (a2 : Int32) (σ : Sto) (r : Int32) (h : fX1_depthOf q0 a1 a2 σ = some r) : CT sh l mX1_depthOf yX1_depthOf [.ref q0, .int a1, .int a2] σ (0, .int r, σ) := by
  refine kct [(0, .ref q0), (1, .int a1), (2, .int a2)] hst (by decide +kernel) rfl rfl (Nat.le_of_ble_eq_true rfl) ?_
  rw [fX1_depthOf] at h
  refine kv_iload_n (pc := 0) 1 dX1_depthOf_0 rfl rfl ?_
  refine kv_tS (pc := 1) (v := .int (fX1_xOf a1)) [.int a1] (.int (fX1_xOf a1) :: []) 4 0 0 (tX1_xOf sh hw l hst a1 σ) dX1_depthOf_1 rfl yw_X1_xOf lk_X1_30 (by decide) (Nat.le_of_ble_eq_true rfl) (by decide) rfl ⟨rfl, rfl, rfl⟩ ?_
  refine kv_istore_n (pc := 4) [(3, .int (fX1_xOf a1)), (0, .ref q0), (1, .int a1), (2, .int a2)] dX1_depthOf_4 rfl (by decide) rfl ?_
  refine kv_iload_n (pc := 5) 2 dX1_depthOf_5 rfl rfl ?_
  refine kv_tS (pc := 6) (v := .int (fX1_yOf a1)) [.int a1] (.int (fX1_yOf a1) :: []) 9 0 0 (tX1_yOf sh hw l hst a1 σ) dX1_depthOf_6 rfl yw_X1_yOf lk_X1_34 (by decide) (Nat.le_of_ble_eq_true rfl) (by decide) rfl ⟨rfl, rfl, rfl⟩ ?_
  refine kv_istore (pc := 9) [(4, .int (fX1_yOf a1)), (3, .int (fX1_xOf a1)), (0, .ref q0), (1, .int a1), (2, .int a2)] dX1_depthOf_9 (by decide) rfl ?_
  refine kv_iload_n (pc := 11) 1 dX1_depthOf_11 rfl rfl ?_
  refine kv_aload_n (pc := 12) 2 dX1_depthOf_12 rfl rfl ?_
  refine kv_iload_n (pc := 13) 4 dX1_depthOf_13 rfl rfl ?_
  refine kv_cV (pc := 14) [.int a2] (fun r1 => (0, .int r1, σ)) (fun r1 => (.int r1 :: [.int (fX1_xOf a1)])) (fun r1 => σ) 17 0 0 h (fun r1 g2 => tX1_stepX sh hw l hst q0 h0 a2 σ r1 g2) dX1_depthOf_14 rfl h0 rfl yw_X1_stepX lk_X1_90 (by decide) (Nat.le_of_ble_eq_true rfl) (by decide) (fun _ => rfl) (fun _ => rfl) ⟨rfl, rfl, rfl⟩ (fun _ _ h0 => absurd rfl h0) (fun r1 g2 z3 h => ?_)
  refine kv_imul (pc := 17) dX1_depthOf_17 ?_
  refine kv_iload (pc := 18) 0 dX1_depthOf_18 rfl ?_
  refine kv_aload_n (pc := 20) 2 dX1_depthOf_20 rfl rfl ?_
  refine kv_iload_n (pc := 21) 4 dX1_depthOf_21 rfl rfl ?_
  refine kv_cV (pc := 22) [.int a2] (fun r4 => (0, .int r4, σ)) (fun r4 => (.int r4 :: [.int (fX1_yOf a1), .int ((fX1_xOf a1) * r1)])) (fun r4 => σ) 25 0 0 h (fun r4 g5 => tX1_stepY sh hw l hst q0 h0 a2 σ r4 g5) dX1_depthOf_22 rfl h0 rfl yw_X1_stepY lk_X1_87 (by decide) (Nat.le_of_ble_eq_true rfl) (by decide) (fun _ => rfl) (fun _ => rfl) ⟨rfl, rfl, rfl⟩ (fun _ _ h0 => absurd rfl h0) (fun r4 g5 z6 h => ?_)
  refine kv_imul (pc := 25) dX1_depthOf_25 ?_
  refine kv_iadd (pc := 26) dX1_depthOf_26 ?_
  refine kv_istore (pc := 27) [(5, .int (((fX1_xOf a1) * r1) + ((fX1_yOf a1) * r4))), (4, .int (fX1_yOf a1)), (3, .int (fX1_xOf a1)), (0, .ref q0), (1, .int a1), (2, .int a2)] dX1_depthOf_27 (by decide) rfl ?_
  refine kv_aload_n (pc := 29) 3 dX1_depthOf_29 rfl rfl ?_
  refine kv_getI (pc := 30) dX1_depthOf_30 h0 rfl (i := 2) (by decide) rfl fl_X1_26 rfl ?_
  refine kv_if_eq (pc := 33) (tgt := 60) dX1_depthOf_33 (by decide) h (fun h => ?_) (fun h => ?_)
  · refine kv_iload (pc := 60) 0 dX1_depthOf_60 rfl ?_
    exact kv_iret (pc := 62) dX1_depthOf_62 rfl (by cases h; rfl) (by decide) (by decide)
  · refine kv_iconst (pc := 36) (v := 2) dX1_depthOf_36 (by decide) ?_
    refine kv_iload (pc := 37) 0 dX1_depthOf_37 rfl ?_
    refine kv_imul (pc := 39) dX1_depthOf_39 ?_
    refine kv_iload_n (pc := 40) 2 dX1_depthOf_40 rfl rfl ?_
    refine kv_aload_n (pc := 41) 3 dX1_depthOf_41 rfl rfl ?_
    refine kv_iload_n (pc := 42) 5 dX1_depthOf_42 rfl rfl ?_
    refine kv_cV (pc := 43) [.int a2] (fun r7 => (0, .int r7, σ)) (fun r7 => (.int r7 :: [.int (fX1_xOf a1), .int (2 * (((fX1_xOf a1) * r1) + ((fX1_yOf a1) * r4)))])) (fun r7 => σ) 46 0 0 h (fun r7 g8 => tX1_stepY sh hw l hst q0 h0 a2 σ r7 g8) dX1_depthOf_43 rfl h0 rfl yw_X1_stepY lk_X1_87 (by decide) (Nat.le_of_ble_eq_true rfl) (by decide) (fun _ => rfl) (fun _ => rfl) ⟨rfl, rfl, rfl⟩ (fun _ _ h0 => absurd rfl h0) (fun r7 g8 z9 h => ?_)
    refine kv_imul (pc := 46) dX1_depthOf_46 ?_
    refine kv_iadd (pc := 47) dX1_depthOf_47 ?_
    refine kv_iload (pc := 48) 1 dX1_depthOf_48 rfl ?_
    refine kv_aload_n (pc := 50) 3 dX1_depthOf_50 rfl rfl ?_
    refine kv_iload_n (pc := 51) 5 dX1_depthOf_51 rfl rfl ?_
    refine kv_cV (pc := 52) [.int a2] (fun r10 => (0, .int r10, σ)) (fun r10 => (.int r10 :: [.int (fX1_yOf a1), .int ((2 * (((fX1_xOf a1) * r1) + ((fX1_yOf a1) * r4))) + ((fX1_xOf a1) * r7))])) (fun r10 => σ) 55 0 0 h (fun r10 g11 => tX1_stepX sh hw l hst q0 h0 a2 σ r10 g11) dX1_depthOf_52 rfl h0 rfl yw_X1_stepX lk_X1_90 (by decide) (Nat.le_of_ble_eq_true rfl) (by decide) (fun _ => rfl) (fun _ => rfl) ⟨rfl, rfl, rfl⟩ (fun _ _ h0 => absurd rfl h0) (fun r10 g11 z12 h => ?_)
    refine kv_imul (pc := 55) dX1_depthOf_55 ?_
    refine kv_iadd (pc := 56) dX1_depthOf_56 ?_
    refine kv_goto (pc := 57) (tgt := 62) dX1_depthOf_57 (by decide) ?_
    exact kv_iret (pc := 62) dX1_depthOf_62 rfl (by cases h; rfl) (by decide) (by decide)
theorem yw_X1_depthOf : KMV yX1_depthOf mX1_depthOf RX1 2 := ⟨⟨rfl, by decide +kernel, by decide +kernel, by decide +kernel⟩, ⟨rfl, rfl⟩, kg_in 763 (by decide +kernel) (by decide +kernel), kg_in 764 (by decide +kernel) (by decide +kernel), kg_in 49 (by decide +kernel) (by decide +kernel), kg_in 765 (by decide +kernel) (by decide +kernel)⟩
theorem dX1_neighbour_0 : decode cX1_neighbour 0 = .ok (.iload_n 1, 1) := by decide +kernel
theorem dX1_neighbour_1 : decode cX1_neighbour 1 = .ok (.aload_n 0, 1) := by decide +kernel
theorem dX1_neighbour_2 : decode cX1_neighbour 2 = .ok (.iload_n 2, 1) := by decide +kernel
theorem dX1_neighbour_3 : decode cX1_neighbour 3 = .ok (.invokevirtual 87, 3) := by decide +kernel
theorem dX1_neighbour_6 : decode cX1_neighbour 6 = .ok (.bipush 15, 2) := by decide +kernel
theorem dX1_neighbour_8 : decode cX1_neighbour 8 = .ok (.imul, 1) := by decide +kernel
theorem dX1_neighbour_9 : decode cX1_neighbour 9 = .ok (.iadd, 1) := by decide +kernel
theorem dX1_neighbour_10 : decode cX1_neighbour 10 = .ok (.aload_n 0, 1) := by decide +kernel
theorem dX1_neighbour_11 : decode cX1_neighbour 11 = .ok (.iload_n 2, 1) := by decide +kernel
theorem dX1_neighbour_12 : decode cX1_neighbour 12 = .ok (.invokevirtual 90, 3) := by decide +kernel
theorem dX1_neighbour_15 : decode cX1_neighbour 15 = .ok (.iadd, 1) := by decide +kernel
theorem dX1_neighbour_16 : decode cX1_neighbour 16 = .ok (.ireturn, 1) := by decide +kernel
abbrev mX1_neighbour : KM := (RX1, cX1_neighbour, 3, (some .int), { frames := 1, cells := 0, slots := 0, locals := 22 }, 0, 0)
def fX1_neighbour (q0 : Nat) (a1 : Int32) (a2 : Int32) (σ : Sto) : Option Int32 :=
  (fX1_stepY q0 a2 σ).bind fun r1 =>
  (fX1_stepX q0 a2 σ).bind fun r4 =>
  some ((a1 + (r1 * 15)) + r4)
set_option maxHeartbeats 4000000 in
set_option maxRecDepth 100000 in
theorem tX1_neighbour (sh : KSh) (hw : KWf sh) (l : Launch) (hst : l.stackTraces = false) (q0 : Nat) (h0 : sh q0 = .inl 1) (a1 : Int32) (a2 : Int32) (σ : Sto) (r : Int32) (h : fX1_neighbour q0 a1 a2 σ = some r) : CT sh l mX1_neighbour yX1_neighbour [.ref q0, .int a1, .int a2] σ (0, .int r, σ) := by
  refine kct [(0, .ref q0), (1, .int a1), (2, .int a2)] hst (by decide +kernel) rfl rfl (Nat.le_of_ble_eq_true rfl) ?_
  rw [fX1_neighbour] at h
  refine kv_iload_n (pc := 0) 1 dX1_neighbour_0 rfl rfl ?_
  refine kv_aload_n (pc := 1) 0 dX1_neighbour_1 rfl rfl ?_
  refine kv_iload_n (pc := 2) 2 dX1_neighbour_2 rfl rfl ?_
  refine kv_cV (pc := 3) [.int a2] (fun r1 => (0, .int r1, σ)) (fun r1 => (.int r1 :: [.int a1])) (fun r1 => σ) 6 0 0 h (fun r1 g2 => tX1_stepY sh hw l hst q0 h0 a2 σ r1 g2) dX1_neighbour_3 rfl h0 rfl yw_X1_stepY lk_X1_87 (by decide) (Nat.le_of_ble_eq_true rfl) (by decide) (fun _ => rfl) (fun _ => rfl) ⟨rfl, rfl, rfl⟩ (fun _ _ h0 => absurd rfl h0) (fun r1 g2 z3 h => ?_)
  refine kv_bipush (pc := 6) (v := 15) dX1_neighbour_6 (by decide) ?_
  refine kv_imul (pc := 8) dX1_neighbour_8 ?_
  refine kv_iadd (pc := 9) dX1_neighbour_9 ?_
  refine kv_aload_n (pc := 10) 0 dX1_neighbour_10 rfl rfl ?_
  refine kv_iload_n (pc := 11) 2 dX1_neighbour_11 rfl rfl ?_
  refine kv_cV (pc := 12) [.int a2] (fun r4 => (0, .int r4, σ)) (fun r4 => (.int r4 :: [.int (a1 + (r1 * 15))])) (fun r4 => σ) 15 0 0 h (fun r4 g5 => tX1_stepX sh hw l hst q0 h0 a2 σ r4 g5) dX1_neighbour_12 rfl h0 rfl yw_X1_stepX lk_X1_90 (by decide) (Nat.le_of_ble_eq_true rfl) (by decide) (fun _ => rfl) (fun _ => rfl) ⟨rfl, rfl, rfl⟩ (fun _ _ h0 => absurd rfl h0) (fun r4 g5 z6 h => ?_)
  refine kv_iadd (pc := 15) dX1_neighbour_15 ?_
  exact kv_iret (pc := 16) dX1_neighbour_16 rfl (by cases h; rfl) (by decide) (by decide)
theorem yw_X1_neighbour : KMV yX1_neighbour mX1_neighbour RX1 2 := ⟨⟨rfl, by decide +kernel, by decide +kernel, by decide +kernel⟩, ⟨rfl, rfl⟩, kg_in 716 (by decide +kernel) (by decide +kernel), kg_in 27 (by decide +kernel) (by decide +kernel), kg_in 49 (by decide +kernel) (by decide +kernel), kg_in 717 (by decide +kernel) (by decide +kernel)⟩
theorem dX1_isInBox_0 : decode cX1_isInBox 0 = .ok (.iload_n 1, 1) := by decide +kernel
theorem dX1_isInBox_1 : decode cX1_isInBox 1 = .ok (.ifCond .lt 24, 3) := by decide +kernel
theorem dX1_isInBox_4 : decode cX1_isInBox 4 = .ok (.iload_n 1, 1) := by decide +kernel
theorem dX1_isInBox_5 : decode cX1_isInBox 5 = .ok (.sipush 225, 3) := by decide +kernel
theorem dX1_isInBox_8 : decode cX1_isInBox 8 = .ok (.if_icmp .ge 17, 3) := by decide +kernel
theorem dX1_isInBox_11 : decode cX1_isInBox 11 = .ok (.aload_n 0, 1) := by decide +kernel
theorem dX1_isInBox_12 : decode cX1_isInBox 12 = .ok (.getfield 9, 3) := by decide +kernel
theorem dX1_isInBox_15 : decode cX1_isInBox 15 = .ok (.iload_n 1, 1) := by decide +kernel
theorem dX1_isInBox_16 : decode cX1_isInBox 16 = .ok (.iaload, 1) := by decide +kernel
theorem dX1_isInBox_17 : decode cX1_isInBox 17 = .ok (.iconst 2, 1) := by decide +kernel
theorem dX1_isInBox_18 : decode cX1_isInBox 18 = .ok (.if_icmp .ne 7, 3) := by decide +kernel
theorem dX1_isInBox_21 : decode cX1_isInBox 21 = .ok (.iconst 1, 1) := by decide +kernel
theorem dX1_isInBox_22 : decode cX1_isInBox 22 = .ok (.goto 4, 3) := by decide +kernel
theorem dX1_isInBox_25 : decode cX1_isInBox 25 = .ok (.iconst 0, 1) := by decide +kernel
theorem dX1_isInBox_26 : decode cX1_isInBox 26 = .ok (.ireturn, 1) := by decide +kernel
abbrev mX1_isInBox : KM := (RX1, cX1_isInBox, 2, (some .boolean), { frames := 0, cells := 0, slots := 0, locals := 0 }, 0, 0)
def fX1_isInBox (q0 : Nat) (a1 : Int32) (σ : Sto) : Option Bool :=
  if a1 < 0 then
    some false
  else
    if 225 ≤ a1 then
      some false
    else
      if kin a1 225 = true then
        if (σ (q0 + 1) a1.toNatClampNeg) = 2 then
          some true
        else
          some false
      else none
set_option maxHeartbeats 4000000 in
set_option maxRecDepth 100000 in
theorem tX1_isInBox (sh : KSh) (hw : KWf sh) (l : Launch) (hst : l.stackTraces = false) (q0 : Nat) (h0 : sh q0 = .inl 1) (a1 : Int32) (σ : Sto) (r : Bool) (h : fX1_isInBox q0 a1 σ = some r) : CT sh l mX1_isInBox yX1_isInBox [.ref q0, .int a1] σ (0, .int (kb r), σ) := by
  refine kct [(0, .ref q0), (1, .int a1)] hst (by decide +kernel) rfl rfl (Nat.le_of_ble_eq_true rfl) ?_
  rw [fX1_isInBox] at h
  refine kv_iload_n (pc := 0) 1 dX1_isInBox_0 rfl rfl ?_
  refine kv_if_lt (pc := 1) (tgt := 25) dX1_isInBox_1 (by decide) h (fun h => ?_) (fun h => ?_)
  · refine kv_iconst (pc := 25) (v := 0) dX1_isInBox_25 (by decide) ?_
    exact kv_zret (pc := 26) dX1_isInBox_26 rfl rfl (by cases h; rfl) (by decide) (by decide)
  · refine kv_iload_n (pc := 4) 1 dX1_isInBox_4 rfl rfl ?_
    refine kv_sipush (pc := 5) (v := 225) dX1_isInBox_5 (by decide) ?_
    refine kv_icmp_ge (pc := 8) (tgt := 25) dX1_isInBox_8 (by decide) h (fun h => ?_) (fun h => ?_)
    · refine kv_iconst (pc := 25) (v := 0) dX1_isInBox_25 (by decide) ?_
      exact kv_zret (pc := 26) dX1_isInBox_26 rfl rfl (by cases h; rfl) (by decide) (by decide)
    · refine kv_aload_n (pc := 11) 0 dX1_isInBox_11 rfl rfl ?_
      refine kv_getR (pc := 12) (q2 := q0 + 1) dX1_isInBox_12 h0 rfl (i := 3) (by decide) rfl fl_X1_9 rfl rfl ?_
      refine kv_iload_n (pc := 15) 1 dX1_isInBox_15 rfl rfl ?_
      refine kv_iald (pc := 16) dX1_isInBox_16 (show sh (q0 + 1) = _ from kso_1_1 hw h0) h (fun h => ?_)
      refine kv_iconst (pc := 17) (v := 2) dX1_isInBox_17 (by decide) ?_
      refine kv_icmp_ne (pc := 18) (tgt := 25) dX1_isInBox_18 (by decide) h (fun h => ?_) (fun h => ?_)
      · refine kv_iconst (pc := 25) (v := 0) dX1_isInBox_25 (by decide) ?_
        exact kv_zret (pc := 26) dX1_isInBox_26 rfl rfl (by cases h; rfl) (by decide) (by decide)
      · refine kv_iconst (pc := 21) (v := 1) dX1_isInBox_21 (by decide) ?_
        refine kv_goto (pc := 22) (tgt := 26) dX1_isInBox_22 (by decide) ?_
        exact kv_zret (pc := 26) dX1_isInBox_26 rfl rfl (by cases h; rfl) (by decide) (by decide)
theorem yw_X1_isInBox : KMV yX1_isInBox mX1_isInBox RX1 1 := ⟨⟨rfl, by decide +kernel, by decide +kernel, by decide +kernel⟩, ⟨rfl, rfl⟩, kg_in 481 (by decide +kernel) (by decide +kernel), kg_in 482 (by decide +kernel) (by decide +kernel), kg_in 49 (by decide +kernel) (by decide +kernel), kg_in 483 (by decide +kernel) (by decide +kernel)⟩
theorem dX1_boxNeighbour_0 : decode cX1_boxNeighbour 0 = .ok (.aload_n 0, 1) := by decide +kernel
theorem dX1_boxNeighbour_1 : decode cX1_boxNeighbour 1 = .ok (.iload_n 1, 1) := by decide +kernel
theorem dX1_boxNeighbour_2 : decode cX1_boxNeighbour 2 = .ok (.iload_n 2, 1) := by decide +kernel
theorem dX1_boxNeighbour_3 : decode cX1_boxNeighbour 3 = .ok (.invokevirtual 93, 3) := by decide +kernel
theorem dX1_boxNeighbour_6 : decode cX1_boxNeighbour 6 = .ok (.istore_n 3, 1) := by decide +kernel
theorem dX1_boxNeighbour_7 : decode cX1_boxNeighbour 7 = .ok (.aload_n 0, 1) := by decide +kernel
theorem dX1_boxNeighbour_8 : decode cX1_boxNeighbour 8 = .ok (.iload_n 3, 1) := by decide +kernel
theorem dX1_boxNeighbour_9 : decode cX1_boxNeighbour 9 = .ok (.invokevirtual 72, 3) := by decide +kernel
theorem dX1_boxNeighbour_12 : decode cX1_boxNeighbour 12 = .ok (.ifCond .eq 7, 3) := by decide +kernel
theorem dX1_boxNeighbour_15 : decode cX1_boxNeighbour 15 = .ok (.iload_n 3, 1) := by decide +kernel
theorem dX1_boxNeighbour_16 : decode cX1_boxNeighbour 16 = .ok (.goto 4, 3) := by decide +kernel
theorem dX1_boxNeighbour_19 : decode cX1_boxNeighbour 19 = .ok (.iconst (-1), 1) := by decide +kernel
theorem dX1_boxNeighbour_20 : decode cX1_boxNeighbour 20 = .ok (.ireturn, 1) := by decide +kernel
abbrev mX1_boxNeighbour : KM := (RX1, cX1_boxNeighbour, 4, (some .int), { frames := 2, cells := 0, slots := 0, locals := 44 }, 0, 0)
def fX1_boxNeighbour (q0 : Nat) (a1 : Int32) (a2 : Int32) (σ : Sto) : Option Int32 :=
  (fX1_neighbour q0 a1 a2 σ).bind fun r1 =>
  (fX1_isInBox q0 r1 σ).bind fun r4 =>
  if r4 = true then
    some r1
  else
    some (-1)
set_option maxHeartbeats 4000000 in
set_option maxRecDepth 100000 in
theorem tX1_boxNeighbour (sh : KSh) (hw : KWf sh) (l : Launch) (hst : l.stackTraces = false) (q0 : Nat) (h0 : sh q0 = .inl 1) (a1 : Int32) (a2 : Int32) (σ : Sto) (r : Int32) (h : fX1_boxNeighbour q0 a1 a2 σ = some r) : CT sh l mX1_boxNeighbour yX1_boxNeighbour [.ref q0, .int a1, .int a2] σ (0, .int r, σ) := by
  refine kct [(0, .ref q0), (1, .int a1), (2, .int a2)] hst (by decide +kernel) rfl rfl (Nat.le_of_ble_eq_true rfl) ?_
  rw [fX1_boxNeighbour] at h
  refine kv_aload_n (pc := 0) 0 dX1_boxNeighbour_0 rfl rfl ?_
  refine kv_iload_n (pc := 1) 1 dX1_boxNeighbour_1 rfl rfl ?_
  refine kv_iload_n (pc := 2) 2 dX1_boxNeighbour_2 rfl rfl ?_
  refine kv_cV (pc := 3) [.int a1, .int a2] (fun r1 => (0, .int r1, σ)) (fun r1 => (.int r1 :: [])) (fun r1 => σ) 6 0 0 h (fun r1 g2 => tX1_neighbour sh hw l hst q0 h0 a1 a2 σ r1 g2) dX1_boxNeighbour_3 rfl h0 rfl yw_X1_neighbour lk_X1_93 (by decide) (Nat.le_of_ble_eq_true rfl) (by decide) (fun _ => rfl) (fun _ => rfl) ⟨rfl, rfl, rfl⟩ (fun _ _ h0 => absurd rfl h0) (fun r1 g2 z3 h => ?_)
  refine kv_istore_n (pc := 6) [(3, .int r1), (0, .ref q0), (1, .int a1), (2, .int a2)] dX1_boxNeighbour_6 rfl (by decide) rfl ?_
  refine kv_aload_n (pc := 7) 1 dX1_boxNeighbour_7 rfl rfl ?_
  refine kv_iload_n (pc := 8) 0 dX1_boxNeighbour_8 rfl rfl ?_
  refine kv_cV (pc := 9) [.int r1] (fun r4 => (0, .int (kb r4), σ)) (fun r4 => (.int (kb r4) :: [])) (fun r4 => σ) 12 0 0 h (fun r4 g5 => tX1_isInBox sh hw l hst q0 h0 r1 σ r4 g5) dX1_boxNeighbour_9 rfl h0 rfl yw_X1_isInBox lk_X1_72 (by decide) (Nat.le_of_ble_eq_true rfl) (by decide) (fun _ => rfl) (fun _ => rfl) ⟨rfl, rfl, rfl⟩ (fun _ _ h0 => absurd rfl h0) (fun r4 g5 z6 h => ?_)
  refine kv_ifb_eq (pc := 12) (tgt := 19) dX1_boxNeighbour_12 (by decide) h (fun h => ?_) (fun h => ?_)
  · refine kv_iconst (pc := 19) (v := (-1)) dX1_boxNeighbour_19 (by decide) ?_
    exact kv_iret (pc := 20) dX1_boxNeighbour_20 rfl (by cases h; rfl) (by decide) (by decide)
  · refine kv_iload_n (pc := 15) 0 dX1_boxNeighbour_15 rfl rfl ?_
    refine kv_goto (pc := 16) (tgt := 20) dX1_boxNeighbour_16 (by decide) ?_
    exact kv_iret (pc := 20) dX1_boxNeighbour_20 rfl (by cases h; rfl) (by decide) (by decide)
theorem yw_X1_boxNeighbour : KMV yX1_boxNeighbour mX1_boxNeighbour RX1 2 := ⟨⟨rfl, by decide +kernel, by decide +kernel, by decide +kernel⟩, ⟨rfl, rfl⟩, kg_in 781 (by decide +kernel) (by decide +kernel), kg_in 782 (by decide +kernel) (by decide +kernel), kg_in 49 (by decide +kernel) (by decide +kernel), kg_in 783 (by decide +kernel) (by decide +kernel)⟩
theorem dX1_isCell_0 : decode cX1_isCell 0 = .ok (.iload_n 0, 1) := by decide +kernel
theorem dX1_isCell_1 : decode cX1_isCell 1 = .ok (.ifCond .lt 14, 3) := by decide +kernel
theorem dX1_isCell_4 : decode cX1_isCell 4 = .ok (.iload_n 0, 1) := by decide +kernel
theorem dX1_isCell_5 : decode cX1_isCell 5 = .ok (.sipush 225, 3) := by decide +kernel
theorem dX1_isCell_8 : decode cX1_isCell 8 = .ok (.if_icmp .ge 7, 3) := by decide +kernel
theorem dX1_isCell_11 : decode cX1_isCell 11 = .ok (.iconst 1, 1) := by decide +kernel
theorem dX1_isCell_12 : decode cX1_isCell 12 = .ok (.goto 4, 3) := by decide +kernel
theorem dX1_isCell_15 : decode cX1_isCell 15 = .ok (.iconst 0, 1) := by decide +kernel
theorem dX1_isCell_16 : decode cX1_isCell 16 = .ok (.ireturn, 1) := by decide +kernel
abbrev mX1_isCell : KM := (RX1, cX1_isCell, 1, (some .boolean), { frames := 0, cells := 0, slots := 0, locals := 0 }, 0, 0)
def fX1_isCell (a0 : Int32) : Bool :=
  if a0 < 0 then
    false
  else
    if 225 ≤ a0 then
      false
    else
      true
set_option maxHeartbeats 4000000 in
set_option maxRecDepth 100000 in
theorem tX1_isCell (sh : KSh) (hw : KWf sh) (l : Launch) (hst : l.stackTraces = false) (a0 : Int32) (σ : Sto) : CT sh l mX1_isCell yX1_isCell [.int a0] σ (0, .int (kb (fX1_isCell a0)), σ) := by
  refine kct [(0, .int a0)] hst (by decide +kernel) rfl rfl (Nat.le_of_ble_eq_true rfl) ?_
  generalize h : fX1_isCell a0 = r
  rw [fX1_isCell] at h
  refine kv_iload_n (pc := 0) 0 dX1_isCell_0 rfl rfl ?_
  refine kv_if_lt (pc := 1) (tgt := 15) dX1_isCell_1 (by decide) h (fun h => ?_) (fun h => ?_)
  · refine kv_iconst (pc := 15) (v := 0) dX1_isCell_15 (by decide) ?_
    exact kv_zret (pc := 16) dX1_isCell_16 rfl rfl (by subst h; rfl) (by decide) (by decide)
  · refine kv_iload_n (pc := 4) 0 dX1_isCell_4 rfl rfl ?_
    refine kv_sipush (pc := 5) (v := 225) dX1_isCell_5 (by decide) ?_
    refine kv_icmp_ge (pc := 8) (tgt := 15) dX1_isCell_8 (by decide) h (fun h => ?_) (fun h => ?_)
    · refine kv_iconst (pc := 15) (v := 0) dX1_isCell_15 (by decide) ?_
      exact kv_zret (pc := 16) dX1_isCell_16 rfl rfl (by subst h; rfl) (by decide) (by decide)
    · refine kv_iconst (pc := 11) (v := 1) dX1_isCell_11 (by decide) ?_
      refine kv_goto (pc := 12) (tgt := 16) dX1_isCell_12 (by decide) ?_
      exact kv_zret (pc := 16) dX1_isCell_16 rfl rfl (by subst h; rfl) (by decide) (by decide)
theorem yw_X1_isCell : KMS yX1_isCell mX1_isCell 1 := ⟨⟨by decide +kernel, by decide +kernel, by decide +kernel⟩, ⟨rfl, rfl⟩, kg_in 489 (by decide +kernel) (by decide +kernel), kg_in 49 (by decide +kernel) (by decide +kernel), kg_in 490 (by decide +kernel) (by decide +kernel)⟩
theorem dX1_wrapped_0 : decode cX1_wrapped 0 = .ok (.aload_n 0, 1) := by decide +kernel
theorem dX1_wrapped_1 : decode cX1_wrapped 1 = .ok (.getfield 26, 3) := by decide +kernel
theorem dX1_wrapped_4 : decode cX1_wrapped 4 = .ok (.ifCond .eq 10, 3) := by decide +kernel
theorem dX1_wrapped_7 : decode cX1_wrapped 7 = .ok (.iload_n 1, 1) := by decide +kernel
theorem dX1_wrapped_8 : decode cX1_wrapped 8 = .ok (.bipush 6, 2) := by decide +kernel
theorem dX1_wrapped_10 : decode cX1_wrapped 10 = .ok (.irem, 1) := by decide +kernel
theorem dX1_wrapped_11 : decode cX1_wrapped 11 = .ok (.goto 7, 3) := by decide +kernel
theorem dX1_wrapped_14 : decode cX1_wrapped 14 = .ok (.iload_n 1, 1) := by decide +kernel
theorem dX1_wrapped_15 : decode cX1_wrapped 15 = .ok (.bipush 8, 2) := by decide +kernel
theorem dX1_wrapped_17 : decode cX1_wrapped 17 = .ok (.irem, 1) := by decide +kernel
theorem dX1_wrapped_18 : decode cX1_wrapped 18 = .ok (.ireturn, 1) := by decide +kernel
abbrev mX1_wrapped : KM := (RX1, cX1_wrapped, 2, (some .int), { frames := 0, cells := 0, slots := 0, locals := 0 }, 0, 0)
def fX1_wrapped (q0 : Nat) (a1 : Int32) (σ : Sto) : Int32 :=
  if (σ q0 2) = 0 then
    (krem a1 8)
  else
    (krem a1 6)
set_option maxHeartbeats 4000000 in
set_option maxRecDepth 100000 in
theorem tX1_wrapped (sh : KSh) (hw : KWf sh) (l : Launch) (hst : l.stackTraces = false) (q0 : Nat) (h0 : sh q0 = .inl 1) (a1 : Int32) (σ : Sto) : CT sh l mX1_wrapped yX1_wrapped [.ref q0, .int a1] σ (0, .int (fX1_wrapped q0 a1 σ), σ) := by
  refine kct [(0, .ref q0), (1, .int a1)] hst (by decide +kernel) rfl rfl (Nat.le_of_ble_eq_true rfl) ?_
  generalize h : fX1_wrapped q0 a1 σ = r
  rw [fX1_wrapped] at h
  refine kv_aload_n (pc := 0) 0 dX1_wrapped_0 rfl rfl ?_
  refine kv_getI (pc := 1) dX1_wrapped_1 h0 rfl (i := 2) (by decide) rfl fl_X1_26 rfl ?_
  refine kv_if_eq (pc := 4) (tgt := 14) dX1_wrapped_4 (by decide) h (fun h => ?_) (fun h => ?_)
  · refine kv_iload_n (pc := 14) 1 dX1_wrapped_14 rfl rfl ?_
    refine kv_bipush (pc := 15) (v := 8) dX1_wrapped_15 (by decide) ?_
    refine kv_irem (pc := 17) dX1_wrapped_17 (by decide) ?_
    exact kv_iret (pc := 18) dX1_wrapped_18 rfl (by subst h; rfl) (by decide) (by decide)
  · refine kv_iload_n (pc := 7) 1 dX1_wrapped_7 rfl rfl ?_
    refine kv_bipush (pc := 8) (v := 6) dX1_wrapped_8 (by decide) ?_
    refine kv_irem (pc := 10) dX1_wrapped_10 (by decide) ?_
    refine kv_goto (pc := 11) (tgt := 18) dX1_wrapped_11 (by decide) ?_
    exact kv_iret (pc := 18) dX1_wrapped_18 rfl (by subst h; rfl) (by decide) (by decide)
theorem yw_X1_wrapped : KMV yX1_wrapped mX1_wrapped RX1 1 := ⟨⟨rfl, by decide +kernel, by decide +kernel, by decide +kernel⟩, ⟨rfl, rfl⟩, kg_in 801 (by decide +kernel) (by decide +kernel), kg_in 802 (by decide +kernel) (by decide +kernel), kg_in 49 (by decide +kernel) (by decide +kernel), kg_in 803 (by decide +kernel) (by decide +kernel)⟩
theorem dX1_directions_0 : decode cX1_directions 0 = .ok (.aload_n 0, 1) := by decide +kernel
theorem dX1_directions_1 : decode cX1_directions 1 = .ok (.getfield 26, 3) := by decide +kernel
theorem dX1_directions_4 : decode cX1_directions 4 = .ok (.ifCond .eq 8, 3) := by decide +kernel
theorem dX1_directions_7 : decode cX1_directions 7 = .ok (.bipush 6, 2) := by decide +kernel
theorem dX1_directions_9 : decode cX1_directions 9 = .ok (.goto 5, 3) := by decide +kernel
theorem dX1_directions_12 : decode cX1_directions 12 = .ok (.bipush 8, 2) := by decide +kernel
theorem dX1_directions_14 : decode cX1_directions 14 = .ok (.ireturn, 1) := by decide +kernel
abbrev mX1_directions : KM := (RX1, cX1_directions, 1, (some .int), { frames := 0, cells := 0, slots := 0, locals := 0 }, 0, 0)
def fX1_directions (q0 : Nat) (σ : Sto) : Int32 :=
  if (σ q0 2) = 0 then
    8
  else
    6
set_option maxHeartbeats 4000000 in
set_option maxRecDepth 100000 in
theorem tX1_directions (sh : KSh) (hw : KWf sh) (l : Launch) (hst : l.stackTraces = false) (q0 : Nat) (h0 : sh q0 = .inl 1) (σ : Sto) : CT sh l mX1_directions yX1_directions [.ref q0] σ (0, .int (fX1_directions q0 σ), σ) := by
  refine kct [(0, .ref q0)] hst (by decide +kernel) rfl rfl (Nat.le_of_ble_eq_true rfl) ?_
  generalize h : fX1_directions q0 σ = r
  rw [fX1_directions] at h
  refine kv_aload_n (pc := 0) 0 dX1_directions_0 rfl rfl ?_
  refine kv_getI (pc := 1) dX1_directions_1 h0 rfl (i := 2) (by decide) rfl fl_X1_26 rfl ?_
  refine kv_if_eq (pc := 4) (tgt := 12) dX1_directions_4 (by decide) h (fun h => ?_) (fun h => ?_)
  · refine kv_bipush (pc := 12) (v := 8) dX1_directions_12 (by decide) ?_
    exact kv_iret (pc := 14) dX1_directions_14 rfl (by subst h; rfl) (by decide) (by decide)
  · refine kv_bipush (pc := 7) (v := 6) dX1_directions_7 (by decide) ?_
    refine kv_goto (pc := 9) (tgt := 14) dX1_directions_9 (by decide) ?_
    exact kv_iret (pc := 14) dX1_directions_14 rfl (by subst h; rfl) (by decide) (by decide)
theorem yw_X1_directions : KMV yX1_directions mX1_directions RX1 0 := ⟨⟨rfl, by decide +kernel, by decide +kernel, by decide +kernel⟩, ⟨rfl, rfl⟩, kg_in 509 (by decide +kernel) (by decide +kernel), kg_in 510 (by decide +kernel) (by decide +kernel), kg_in 49 (by decide +kernel) (by decide +kernel), kg_in 511 (by decide +kernel) (by decide +kernel)⟩
theorem dX1_isBetweenMirrors_0 : decode cX1_isBetweenMirrors 0 = .ok (.aload_n 0, 1) := by decide +kernel
theorem dX1_isBetweenMirrors_1 : decode cX1_isBetweenMirrors 1 = .ok (.getfield 19, 3) := by decide +kernel
theorem dX1_isBetweenMirrors_4 : decode cX1_isBetweenMirrors 4 = .ok (.lookupswitch 60 #[(60, 46), (90, 46), (180, 36)], 36) := by decide +kernel
theorem dX1_isBetweenMirrors_40 : decode cX1_isBetweenMirrors 40 = .ok (.iload_n 2, 1) := by decide +kernel
theorem dX1_isBetweenMirrors_41 : decode cX1_isBetweenMirrors 41 = .ok (.ifCond .lt 7, 3) := by decide +kernel
theorem dX1_isBetweenMirrors_44 : decode cX1_isBetweenMirrors 44 = .ok (.iconst 1, 1) := by decide +kernel
theorem dX1_isBetweenMirrors_45 : decode cX1_isBetweenMirrors 45 = .ok (.goto 4, 3) := by decide +kernel
theorem dX1_isBetweenMirrors_48 : decode cX1_isBetweenMirrors 48 = .ok (.iconst 0, 1) := by decide +kernel
theorem dX1_isBetweenMirrors_49 : decode cX1_isBetweenMirrors 49 = .ok (.ireturn, 1) := by decide +kernel
theorem dX1_isBetweenMirrors_50 : decode cX1_isBetweenMirrors 50 = .ok (.iload_n 1, 1) := by decide +kernel
theorem dX1_isBetweenMirrors_51 : decode cX1_isBetweenMirrors 51 = .ok (.ifCond .lt 11, 3) := by decide +kernel
theorem dX1_isBetweenMirrors_54 : decode cX1_isBetweenMirrors 54 = .ok (.iload_n 2, 1) := by decide +kernel
theorem dX1_isBetweenMirrors_55 : decode cX1_isBetweenMirrors 55 = .ok (.ifCond .lt 7, 3) := by decide +kernel
theorem dX1_isBetweenMirrors_58 : decode cX1_isBetweenMirrors 58 = .ok (.iconst 1, 1) := by decide +kernel
theorem dX1_isBetweenMirrors_59 : decode cX1_isBetweenMirrors 59 = .ok (.goto 4, 3) := by decide +kernel
theorem dX1_isBetweenMirrors_62 : decode cX1_isBetweenMirrors 62 = .ok (.iconst 0, 1) := by decide +kernel
theorem dX1_isBetweenMirrors_63 : decode cX1_isBetweenMirrors 63 = .ok (.ireturn, 1) := by decide +kernel
theorem dX1_isBetweenMirrors_64 : decode cX1_isBetweenMirrors 64 = .ok (.iload_n 2, 1) := by decide +kernel
theorem dX1_isBetweenMirrors_65 : decode cX1_isBetweenMirrors 65 = .ok (.ifCond .lt 12, 3) := by decide +kernel
theorem dX1_isBetweenMirrors_68 : decode cX1_isBetweenMirrors 68 = .ok (.iload_n 1, 1) := by decide +kernel
theorem dX1_isBetweenMirrors_69 : decode cX1_isBetweenMirrors 69 = .ok (.iload_n 2, 1) := by decide +kernel
theorem dX1_isBetweenMirrors_70 : decode cX1_isBetweenMirrors 70 = .ok (.if_icmp .lt 7, 3) := by decide +kernel
theorem dX1_isBetweenMirrors_73 : decode cX1_isBetweenMirrors 73 = .ok (.iconst 1, 1) := by decide +kernel
theorem dX1_isBetweenMirrors_74 : decode cX1_isBetweenMirrors 74 = .ok (.goto 4, 3) := by decide +kernel
theorem dX1_isBetweenMirrors_77 : decode cX1_isBetweenMirrors 77 = .ok (.iconst 0, 1) := by decide +kernel
theorem dX1_isBetweenMirrors_78 : decode cX1_isBetweenMirrors 78 = .ok (.ireturn, 1) := by decide +kernel
abbrev mX1_isBetweenMirrors : KM := (RX1, cX1_isBetweenMirrors, 3, (some .boolean), { frames := 0, cells := 0, slots := 0, locals := 0 }, 0, 0)
def fX1_isBetweenMirrors_L50 (q0 : Nat) (a1 : Int32) (a2 : Int32) (σ : Sto) : Bool :=
  if a1 < 0 then
    false
  else
    if a2 < 0 then
      false
    else
      true
def fX1_isBetweenMirrors (q0 : Nat) (a1 : Int32) (a2 : Int32) (σ : Sto) : Bool :=
  if (σ q0 0) = 60 then
    fX1_isBetweenMirrors_L50 q0 a1 a2 σ
  else
    if (σ q0 0) = 90 then
      fX1_isBetweenMirrors_L50 q0 a1 a2 σ
    else
      if (σ q0 0) = 180 then
        if a2 < 0 then
          false
        else
          true
      else
        if a2 < 0 then
          false
        else
          if a1 < a2 then
            false
          else
            true
set_option maxHeartbeats 4000000 in
set_option maxRecDepth 100000 in
theorem wX1_isBetweenMirrors_L50 (sh : KSh) (hw : KWf sh) (l : Launch) (hst : l.stackTraces = false) (q0 : Nat) (h0 : sh q0 = .inl 1) (a1 : Int32) (a2 : Int32) : ∀ (σ : Sto), ∀ (r : Bool), fX1_isBetweenMirrors_L50 q0 a1 a2 σ = r → VV sh l mX1_isBetweenMirrors 0 0 50 [(1, .int a1), (2, .int a2)] [] σ (0, .int (kb r), σ) := by
  intro σ r h
  rw [fX1_isBetweenMirrors_L50] at h
  refine kv_iload_n (pc := 50) 0 dX1_isBetweenMirrors_50 rfl rfl ?_
  refine kv_if_lt (pc := 51) (tgt := 62) dX1_isBetweenMirrors_51 (by decide) h (fun h => ?_) (fun h => ?_)
  · refine kv_iconst (pc := 62) (v := 0) dX1_isBetweenMirrors_62 (by decide) ?_
    exact kv_zret (pc := 63) dX1_isBetweenMirrors_63 rfl rfl (by subst h; rfl) (by decide) (by decide)
  · refine kv_iload_n (pc := 54) 1 dX1_isBetweenMirrors_54 rfl rfl ?_
    refine kv_if_lt (pc := 55) (tgt := 62) dX1_isBetweenMirrors_55 (by decide) h (fun h => ?_) (fun h => ?_)
    · refine kv_iconst (pc := 62) (v := 0) dX1_isBetweenMirrors_62 (by decide) ?_
      exact kv_zret (pc := 63) dX1_isBetweenMirrors_63 rfl rfl (by subst h; rfl) (by decide) (by decide)
    · refine kv_iconst (pc := 58) (v := 1) dX1_isBetweenMirrors_58 (by decide) ?_
      refine kv_goto (pc := 59) (tgt := 63) dX1_isBetweenMirrors_59 (by decide) ?_
      exact kv_zret (pc := 63) dX1_isBetweenMirrors_63 rfl rfl (by subst h; rfl) (by decide) (by decide)
set_option maxHeartbeats 4000000 in
set_option maxRecDepth 100000 in
theorem tX1_isBetweenMirrors (sh : KSh) (hw : KWf sh) (l : Launch) (hst : l.stackTraces = false) (q0 : Nat) (h0 : sh q0 = .inl 1) (a1 : Int32) (a2 : Int32) (σ : Sto) : CT sh l mX1_isBetweenMirrors yX1_isBetweenMirrors [.ref q0, .int a1, .int a2] σ (0, .int (kb (fX1_isBetweenMirrors q0 a1 a2 σ)), σ) := by
  refine kct [(0, .ref q0), (1, .int a1), (2, .int a2)] hst (by decide +kernel) rfl rfl (Nat.le_of_ble_eq_true rfl) ?_
  generalize h : fX1_isBetweenMirrors q0 a1 a2 σ = r
  rw [fX1_isBetweenMirrors] at h
  refine kv_aload_n (pc := 0) 0 dX1_isBetweenMirrors_0 rfl rfl ?_
  refine kv_getI (pc := 1) dX1_isBetweenMirrors_1 h0 rfl (i := 0) (by decide) rfl fl_X1_19 rfl ?_
  by_cases e1 : (σ q0 0) = 60
  · rw [if_pos e1] at h
    refine kv_lookup (pc := 4) (off := 46) (tgt := 50) dX1_isBetweenMirrors_4 (by decide) (by rw [e1]; rfl) (by decide) ?_
    refine kv_sub (pc := 50) [(1, .int a1), (2, .int a2)] [1, 2] rfl ?_
    exact wX1_isBetweenMirrors_L50 sh hw l hst q0 h0 a1 a2 σ r h
  · rw [if_neg e1] at h
    by_cases e2 : (σ q0 0) = 90
    · rw [if_pos e2] at h
      refine kv_lookup (pc := 4) (off := 46) (tgt := 50) dX1_isBetweenMirrors_4 (by decide) (by rw [e2]; rfl) (by decide) ?_
      refine kv_sub (pc := 50) [(1, .int a1), (2, .int a2)] [1, 2] rfl ?_
      exact wX1_isBetweenMirrors_L50 sh hw l hst q0 h0 a1 a2 σ r h
    · rw [if_neg e2] at h
      by_cases e3 : (σ q0 0) = 180
      · rw [if_pos e3] at h
        refine kv_lookup (pc := 4) (off := 36) (tgt := 40) dX1_isBetweenMirrors_4 (by decide) (by rw [e3]; rfl) (by decide) ?_
        refine kv_iload_n (pc := 40) 2 dX1_isBetweenMirrors_40 rfl rfl ?_
        refine kv_if_lt (pc := 41) (tgt := 48) dX1_isBetweenMirrors_41 (by decide) h (fun h => ?_) (fun h => ?_)
        · refine kv_iconst (pc := 48) (v := 0) dX1_isBetweenMirrors_48 (by decide) ?_
          exact kv_zret (pc := 49) dX1_isBetweenMirrors_49 rfl rfl (by subst h; rfl) (by decide) (by decide)
        · refine kv_iconst (pc := 44) (v := 1) dX1_isBetweenMirrors_44 (by decide) ?_
          refine kv_goto (pc := 45) (tgt := 49) dX1_isBetweenMirrors_45 (by decide) ?_
          exact kv_zret (pc := 49) dX1_isBetweenMirrors_49 rfl rfl (by subst h; rfl) (by decide) (by decide)
      · rw [if_neg e3] at h
        refine kv_lookup (pc := 4) (off := 60) (tgt := 64) dX1_isBetweenMirrors_4 (by decide) (by show Op.lookupswitch.offset [(60, 46), (90, 46), (180, 36)] _ _ = _; rw [lv_osw (a := 60) e1 (by decide), lv_osw (a := 90) e2 (by decide), lv_osw (a := 180) e3 (by decide)]; rfl) (by decide) ?_
        refine kv_iload_n (pc := 64) 2 dX1_isBetweenMirrors_64 rfl rfl ?_
        refine kv_if_lt (pc := 65) (tgt := 77) dX1_isBetweenMirrors_65 (by decide) h (fun h => ?_) (fun h => ?_)
        · refine kv_iconst (pc := 77) (v := 0) dX1_isBetweenMirrors_77 (by decide) ?_
          exact kv_zret (pc := 78) dX1_isBetweenMirrors_78 rfl rfl (by subst h; rfl) (by decide) (by decide)
        · refine kv_iload_n (pc := 68) 1 dX1_isBetweenMirrors_68 rfl rfl ?_
          refine kv_iload_n (pc := 69) 2 dX1_isBetweenMirrors_69 rfl rfl ?_
          refine kv_icmp_lt (pc := 70) (tgt := 77) dX1_isBetweenMirrors_70 (by decide) h (fun h => ?_) (fun h => ?_)
          · refine kv_iconst (pc := 77) (v := 0) dX1_isBetweenMirrors_77 (by decide) ?_
            exact kv_zret (pc := 78) dX1_isBetweenMirrors_78 rfl rfl (by subst h; rfl) (by decide) (by decide)
          · refine kv_iconst (pc := 73) (v := 1) dX1_isBetweenMirrors_73 (by decide) ?_
            refine kv_goto (pc := 74) (tgt := 78) dX1_isBetweenMirrors_74 (by decide) ?_
            exact kv_zret (pc := 78) dX1_isBetweenMirrors_78 rfl rfl (by subst h; rfl) (by decide) (by decide)
theorem yw_X1_isBetweenMirrors : KMV yX1_isBetweenMirrors mX1_isBetweenMirrors RX1 2 := ⟨⟨rfl, by decide +kernel, by decide +kernel, by decide +kernel⟩, ⟨rfl, rfl⟩, kg_in 114 (by decide +kernel) (by decide +kernel), kg_in 1 (by decide +kernel) (by decide +kernel), kg_in 49 (by decide +kernel) (by decide +kernel), kg_in 115 (by decide +kernel) (by decide +kernel)⟩
theorem dX1_zoneAt_0 : decode cX1_zoneAt 0 = .ok (.iload_n 1, 1) := by decide +kernel
theorem dX1_zoneAt_1 : decode cX1_zoneAt 1 = .ok (.invokestatic 47, 3) := by decide +kernel
theorem dX1_zoneAt_4 : decode cX1_zoneAt 4 = .ok (.iload_n 2, 1) := by decide +kernel
theorem dX1_zoneAt_5 : decode cX1_zoneAt 5 = .ok (.invokestatic 47, 3) := by decide +kernel
theorem dX1_zoneAt_8 : decode cX1_zoneAt 8 = .ok (.invokestatic 52, 3) := by decide +kernel
theorem dX1_zoneAt_11 : decode cX1_zoneAt 11 = .ok (.istore_n 3, 1) := by decide +kernel
theorem dX1_zoneAt_12 : decode cX1_zoneAt 12 = .ok (.aload_n 0, 1) := by decide +kernel
theorem dX1_zoneAt_13 : decode cX1_zoneAt 13 = .ok (.getfield 26, 3) := by decide +kernel
theorem dX1_zoneAt_16 : decode cX1_zoneAt 16 = .ok (.ifCond .eq 14, 3) := by decide +kernel
theorem dX1_zoneAt_19 : decode cX1_zoneAt 19 = .ok (.iload_n 3, 1) := by decide +kernel
theorem dX1_zoneAt_20 : decode cX1_zoneAt 20 = .ok (.iload_n 1, 1) := by decide +kernel
theorem dX1_zoneAt_21 : decode cX1_zoneAt 21 = .ok (.iload_n 2, 1) := by decide +kernel
theorem dX1_zoneAt_22 : decode cX1_zoneAt 22 = .ok (.iadd, 1) := by decide +kernel
theorem dX1_zoneAt_23 : decode cX1_zoneAt 23 = .ok (.invokestatic 47, 3) := by decide +kernel
theorem dX1_zoneAt_26 : decode cX1_zoneAt 26 = .ok (.invokestatic 52, 3) := by decide +kernel
theorem dX1_zoneAt_29 : decode cX1_zoneAt 29 = .ok (.istore_n 3, 1) := by decide +kernel
theorem dX1_zoneAt_30 : decode cX1_zoneAt 30 = .ok (.iload_n 3, 1) := by decide +kernel
theorem dX1_zoneAt_31 : decode cX1_zoneAt 31 = .ok (.aload_n 0, 1) := by decide +kernel
theorem dX1_zoneAt_32 : decode cX1_zoneAt 32 = .ok (.getfield 23, 3) := by decide +kernel
theorem dX1_zoneAt_35 : decode cX1_zoneAt 35 = .ok (.if_icmp .le 5, 3) := by decide +kernel
theorem dX1_zoneAt_38 : decode cX1_zoneAt 38 = .ok (.iconst 0, 1) := by decide +kernel
theorem dX1_zoneAt_39 : decode cX1_zoneAt 39 = .ok (.ireturn, 1) := by decide +kernel
theorem dX1_zoneAt_40 : decode cX1_zoneAt 40 = .ok (.aload_n 0, 1) := by decide +kernel
theorem dX1_zoneAt_41 : decode cX1_zoneAt 41 = .ok (.iload_n 1, 1) := by decide +kernel
theorem dX1_zoneAt_42 : decode cX1_zoneAt 42 = .ok (.iload_n 2, 1) := by decide +kernel
theorem dX1_zoneAt_43 : decode cX1_zoneAt 43 = .ok (.invokevirtual 55, 3) := by decide +kernel
theorem dX1_zoneAt_46 : decode cX1_zoneAt 46 = .ok (.ifCond .eq 7, 3) := by decide +kernel
theorem dX1_zoneAt_49 : decode cX1_zoneAt 49 = .ok (.iconst 2, 1) := by decide +kernel
theorem dX1_zoneAt_50 : decode cX1_zoneAt 50 = .ok (.goto 4, 3) := by decide +kernel
theorem dX1_zoneAt_53 : decode cX1_zoneAt 53 = .ok (.iconst 1, 1) := by decide +kernel
theorem dX1_zoneAt_54 : decode cX1_zoneAt 54 = .ok (.ireturn, 1) := by decide +kernel
abbrev mX1_zoneAt : KM := (RX1, cX1_zoneAt, 4, (some .int), { frames := 1, cells := 0, slots := 0, locals := 22 }, 0, 0)
def fX1_zoneAt_L30 (q0 : Nat) (a1 : Int32) (a2 : Int32) (v3 : Int32) (σ : Sto) : Int32 :=
  if v3 ≤ (σ q0 1) then
    if (fX1_isBetweenMirrors q0 a1 a2 σ) = true then
      2
    else
      1
  else
    0
def fX1_zoneAt (q0 : Nat) (a1 : Int32) (a2 : Int32) (σ : Sto) : Int32 :=
  if (σ q0 2) = 0 then
    fX1_zoneAt_L30 q0 a1 a2 (if (if 0 ≤ a1 then a1 else 0 - a1) < (if 0 ≤ a2 then a2 else 0 - a2) then (if 0 ≤ a2 then a2 else 0 - a2) else (if 0 ≤ a1 then a1 else 0 - a1)) σ
  else
    fX1_zoneAt_L30 q0 a1 a2 (if (if (if 0 ≤ a1 then a1 else 0 - a1) < (if 0 ≤ a2 then a2 else 0 - a2) then (if 0 ≤ a2 then a2 else 0 - a2) else (if 0 ≤ a1 then a1 else 0 - a1)) < (if 0 ≤ (a1 + a2) then (a1 + a2) else 0 - (a1 + a2)) then (if 0 ≤ (a1 + a2) then (a1 + a2) else 0 - (a1 + a2)) else (if (if 0 ≤ a1 then a1 else 0 - a1) < (if 0 ≤ a2 then a2 else 0 - a2) then (if 0 ≤ a2 then a2 else 0 - a2) else (if 0 ≤ a1 then a1 else 0 - a1))) σ
set_option maxHeartbeats 4000000 in
set_option maxRecDepth 100000 in
theorem wX1_zoneAt_L30 (sh : KSh) (hw : KWf sh) (l : Launch) (hst : l.stackTraces = false) (q0 : Nat) (h0 : sh q0 = .inl 1) (a1 : Int32) (a2 : Int32) : ∀ (v3 : Int32), ∀ (σ : Sto), ∀ (r : Int32), fX1_zoneAt_L30 q0 a1 a2 v3 σ = r → VV sh l mX1_zoneAt 0 0 30 [(0, .ref q0), (1, .int a1), (2, .int a2), (3, .int v3)] [] σ (0, .int r, σ) := by
  intro v3 σ r h
  rw [fX1_zoneAt_L30] at h
  refine kv_iload_n (pc := 30) 3 dX1_zoneAt_30 rfl rfl ?_
  refine kv_aload_n (pc := 31) 0 dX1_zoneAt_31 rfl rfl ?_
  refine kv_getI (pc := 32) dX1_zoneAt_32 h0 rfl (i := 1) (by decide) rfl fl_X1_23 rfl ?_
  refine kv_icmp_le (pc := 35) (tgt := 40) dX1_zoneAt_35 (by decide) h (fun h => ?_) (fun h => ?_)
  · refine kv_aload_n (pc := 40) 0 dX1_zoneAt_40 rfl rfl ?_
    refine kv_iload_n (pc := 41) 1 dX1_zoneAt_41 rfl rfl ?_
    refine kv_iload_n (pc := 42) 2 dX1_zoneAt_42 rfl rfl ?_
    refine kv_tV (pc := 43) (v := .int (kb (fX1_isBetweenMirrors q0 a1 a2 σ))) [.int a1, .int a2] (.int (kb (fX1_isBetweenMirrors q0 a1 a2 σ)) :: []) 46 0 0 (tX1_isBetweenMirrors sh hw l hst q0 h0 a1 a2 σ) dX1_zoneAt_43 rfl h0 rfl yw_X1_isBetweenMirrors lk_X1_55 (by decide) (Nat.le_of_ble_eq_true rfl) (by decide) rfl ⟨rfl, rfl, rfl⟩ ?_
    refine kv_ifb_eq (pc := 46) (tgt := 53) dX1_zoneAt_46 (by decide) h (fun h => ?_) (fun h => ?_)
    · refine kv_iconst (pc := 53) (v := 1) dX1_zoneAt_53 (by decide) ?_
      exact kv_iret (pc := 54) dX1_zoneAt_54 rfl (by subst h; rfl) (by decide) (by decide)
    · refine kv_iconst (pc := 49) (v := 2) dX1_zoneAt_49 (by decide) ?_
      refine kv_goto (pc := 50) (tgt := 54) dX1_zoneAt_50 (by decide) ?_
      exact kv_iret (pc := 54) dX1_zoneAt_54 rfl (by subst h; rfl) (by decide) (by decide)
  · refine kv_iconst (pc := 38) (v := 0) dX1_zoneAt_38 (by decide) ?_
    exact kv_iret (pc := 39) dX1_zoneAt_39 rfl (by subst h; rfl) (by decide) (by decide)
set_option maxHeartbeats 4000000 in
set_option maxRecDepth 100000 in
theorem tX1_zoneAt (sh : KSh) (hw : KWf sh) (l : Launch) (hst : l.stackTraces = false) (q0 : Nat) (h0 : sh q0 = .inl 1) (a1 : Int32) (a2 : Int32) (σ : Sto) : CT sh l mX1_zoneAt yX1_zoneAt [.ref q0, .int a1, .int a2] σ (0, .int (fX1_zoneAt q0 a1 a2 σ), σ) := by
  refine kct [(0, .ref q0), (1, .int a1), (2, .int a2)] hst (by decide +kernel) rfl rfl (Nat.le_of_ble_eq_true rfl) ?_
  generalize h : fX1_zoneAt q0 a1 a2 σ = r
  rw [fX1_zoneAt] at h
  refine kv_iload_n (pc := 0) 1 dX1_zoneAt_0 rfl rfl ?_
  refine kv_abs (pc := 1) dX1_zoneAt_1 lk_X1_47 kw_abs (by decide) (Nat.le_of_ble_eq_true rfl) (by decide) (by decide) ?_
  refine kv_iload_n (pc := 4) 2 dX1_zoneAt_4 rfl rfl ?_
  refine kv_abs (pc := 5) dX1_zoneAt_5 lk_X1_47 kw_abs (by decide) (Nat.le_of_ble_eq_true rfl) (by decide) (by decide) ?_
  refine kv_max (pc := 8) dX1_zoneAt_8 lk_X1_52 kw_max (by decide) (Nat.le_of_ble_eq_true rfl) (by decide) (by decide) ?_
  refine kv_istore_n (pc := 11) [(3, .int (if (if 0 ≤ a1 then a1 else 0 - a1) < (if 0 ≤ a2 then a2 else 0 - a2) then (if 0 ≤ a2 then a2 else 0 - a2) else (if 0 ≤ a1 then a1 else 0 - a1))), (0, .ref q0), (1, .int a1), (2, .int a2)] dX1_zoneAt_11 rfl (by decide) rfl ?_
  refine kv_aload_n (pc := 12) 1 dX1_zoneAt_12 rfl rfl ?_
  refine kv_getI (pc := 13) dX1_zoneAt_13 h0 rfl (i := 2) (by decide) rfl fl_X1_26 rfl ?_
  refine kv_if_eq (pc := 16) (tgt := 30) dX1_zoneAt_16 (by decide) h (fun h => ?_) (fun h => ?_)
  · refine kv_sub (pc := 30) [(0, .ref q0), (1, .int a1), (2, .int a2), (3, .int (if (if 0 ≤ a1 then a1 else 0 - a1) < (if 0 ≤ a2 then a2 else 0 - a2) then (if 0 ≤ a2 then a2 else 0 - a2) else (if 0 ≤ a1 then a1 else 0 - a1)))] [1, 2, 3, 0] rfl ?_
    exact wX1_zoneAt_L30 sh hw l hst q0 h0 a1 a2 (if (if 0 ≤ a1 then a1 else 0 - a1) < (if 0 ≤ a2 then a2 else 0 - a2) then (if 0 ≤ a2 then a2 else 0 - a2) else (if 0 ≤ a1 then a1 else 0 - a1)) σ r h
  · refine kv_iload_n (pc := 19) 0 dX1_zoneAt_19 rfl rfl ?_
    refine kv_iload_n (pc := 20) 2 dX1_zoneAt_20 rfl rfl ?_
    refine kv_iload_n (pc := 21) 3 dX1_zoneAt_21 rfl rfl ?_
    refine kv_iadd (pc := 22) dX1_zoneAt_22 ?_
    refine kv_abs (pc := 23) dX1_zoneAt_23 lk_X1_47 kw_abs (by decide) (Nat.le_of_ble_eq_true rfl) (by decide) (by decide) ?_
    refine kv_max (pc := 26) dX1_zoneAt_26 lk_X1_52 kw_max (by decide) (Nat.le_of_ble_eq_true rfl) (by decide) (by decide) ?_
    refine kv_istore_n (pc := 29) [(3, .int (if (if (if 0 ≤ a1 then a1 else 0 - a1) < (if 0 ≤ a2 then a2 else 0 - a2) then (if 0 ≤ a2 then a2 else 0 - a2) else (if 0 ≤ a1 then a1 else 0 - a1)) < (if 0 ≤ (a1 + a2) then (a1 + a2) else 0 - (a1 + a2)) then (if 0 ≤ (a1 + a2) then (a1 + a2) else 0 - (a1 + a2)) else (if (if 0 ≤ a1 then a1 else 0 - a1) < (if 0 ≤ a2 then a2 else 0 - a2) then (if 0 ≤ a2 then a2 else 0 - a2) else (if 0 ≤ a1 then a1 else 0 - a1)))), (0, .ref q0), (1, .int a1), (2, .int a2)] dX1_zoneAt_29 rfl (by decide) rfl ?_
    refine kv_sub (pc := 30) [(0, .ref q0), (1, .int a1), (2, .int a2), (3, .int (if (if (if 0 ≤ a1 then a1 else 0 - a1) < (if 0 ≤ a2 then a2 else 0 - a2) then (if 0 ≤ a2 then a2 else 0 - a2) else (if 0 ≤ a1 then a1 else 0 - a1)) < (if 0 ≤ (a1 + a2) then (a1 + a2) else 0 - (a1 + a2)) then (if 0 ≤ (a1 + a2) then (a1 + a2) else 0 - (a1 + a2)) else (if (if 0 ≤ a1 then a1 else 0 - a1) < (if 0 ≤ a2 then a2 else 0 - a2) then (if 0 ≤ a2 then a2 else 0 - a2) else (if 0 ≤ a1 then a1 else 0 - a1))))] [1, 2, 3, 0] rfl ?_
    exact wX1_zoneAt_L30 sh hw l hst q0 h0 a1 a2 (if (if (if 0 ≤ a1 then a1 else 0 - a1) < (if 0 ≤ a2 then a2 else 0 - a2) then (if 0 ≤ a2 then a2 else 0 - a2) else (if 0 ≤ a1 then a1 else 0 - a1)) < (if 0 ≤ (a1 + a2) then (a1 + a2) else 0 - (a1 + a2)) then (if 0 ≤ (a1 + a2) then (a1 + a2) else 0 - (a1 + a2)) else (if (if 0 ≤ a1 then a1 else 0 - a1) < (if 0 ≤ a2 then a2 else 0 - a2) then (if 0 ≤ a2 then a2 else 0 - a2) else (if 0 ≤ a1 then a1 else 0 - a1))) σ r h
theorem yw_X1_zoneAt : KMV yX1_zoneAt mX1_zoneAt RX1 2 := ⟨⟨rfl, by decide +kernel, by decide +kernel, by decide +kernel⟩, ⟨rfl, rfl⟩, kg_in 104 (by decide +kernel) (by decide +kernel), kg_in 0 (by decide +kernel) (by decide +kernel), kg_in 49 (by decide +kernel) (by decide +kernel), kg_in 105 (by decide +kernel) (by decide +kernel)⟩
theorem dX1_become_0 : decode cX1_become 0 = .ok (.aload_n 0, 1) := by decide +kernel
theorem dX1_become_1 : decode cX1_become 1 = .ok (.iload_n 1, 1) := by decide +kernel
theorem dX1_become_2 : decode cX1_become 2 = .ok (.putfield 19, 3) := by decide +kernel
theorem dX1_become_5 : decode cX1_become 5 = .ok (.aload_n 0, 1) := by decide +kernel
theorem dX1_become_6 : decode cX1_become 6 = .ok (.iload_n 2, 1) := by decide +kernel
theorem dX1_become_7 : decode cX1_become 7 = .ok (.putfield 23, 3) := by decide +kernel
theorem dX1_become_10 : decode cX1_become 10 = .ok (.aload_n 0, 1) := by decide +kernel
theorem dX1_become_11 : decode cX1_become 11 = .ok (.aload_n 0, 1) := by decide +kernel
theorem dX1_become_12 : decode cX1_become 12 = .ok (.getfield 19, 3) := by decide +kernel
theorem dX1_become_15 : decode cX1_become 15 = .ok (.bipush 60, 2) := by decide +kernel
theorem dX1_become_17 : decode cX1_become 17 = .ok (.if_icmp .eq 12, 3) := by decide +kernel
theorem dX1_become_20 : decode cX1_become 20 = .ok (.aload_n 0, 1) := by decide +kernel
theorem dX1_become_21 : decode cX1_become 21 = .ok (.getfield 19, 3) := by decide +kernel
theorem dX1_become_24 : decode cX1_become 24 = .ok (.bipush 30, 2) := by decide +kernel
theorem dX1_become_26 : decode cX1_become 26 = .ok (.if_icmp .ne 7, 3) := by decide +kernel
theorem dX1_become_29 : decode cX1_become 29 = .ok (.iconst 1, 1) := by decide +kernel
theorem dX1_become_30 : decode cX1_become 30 = .ok (.goto 4, 3) := by decide +kernel
theorem dX1_become_33 : decode cX1_become 33 = .ok (.iconst 0, 1) := by decide +kernel
theorem dX1_become_34 : decode cX1_become 34 = .ok (.putfield 26, 3) := by decide +kernel
theorem dX1_become_37 : decode cX1_become 37 = .ok (.iconst 0, 1) := by decide +kernel
theorem dX1_become_38 : decode cX1_become 38 = .ok (.istore_n 3, 1) := by decide +kernel
theorem dX1_become_39 : decode cX1_become 39 = .ok (.iload_n 3, 1) := by decide +kernel
theorem dX1_become_40 : decode cX1_become 40 = .ok (.sipush 225, 3) := by decide +kernel
theorem dX1_become_43 : decode cX1_become 43 = .ok (.if_icmp .ge 27, 3) := by decide +kernel
theorem dX1_become_46 : decode cX1_become 46 = .ok (.aload_n 0, 1) := by decide +kernel
theorem dX1_become_47 : decode cX1_become 47 = .ok (.getfield 9, 3) := by decide +kernel
theorem dX1_become_50 : decode cX1_become 50 = .ok (.iload_n 3, 1) := by decide +kernel
theorem dX1_become_51 : decode cX1_become 51 = .ok (.aload_n 0, 1) := by decide +kernel
theorem dX1_become_52 : decode cX1_become 52 = .ok (.iload_n 3, 1) := by decide +kernel
theorem dX1_become_53 : decode cX1_become 53 = .ok (.invokestatic 30, 3) := by decide +kernel
theorem dX1_become_56 : decode cX1_become 56 = .ok (.iload_n 3, 1) := by decide +kernel
theorem dX1_become_57 : decode cX1_become 57 = .ok (.invokestatic 34, 3) := by decide +kernel
theorem dX1_become_60 : decode cX1_become 60 = .ok (.invokevirtual 37, 3) := by decide +kernel
theorem dX1_become_63 : decode cX1_become 63 = .ok (.iastore, 1) := by decide +kernel
theorem dX1_become_64 : decode cX1_become 64 = .ok (.iinc 3 1, 3) := by decide +kernel
theorem dX1_become_67 : decode cX1_become 67 = .ok (.goto (-28), 3) := by decide +kernel
theorem dX1_become_70 : decode cX1_become 70 = .ok (.return_, 1) := by decide +kernel
abbrev mX1_become : KM := (RX1, cX1_become, 4, none, { frames := 2, cells := 0, slots := 0, locals := 45 }, 0, 0)
def fX1_become_L39 (q0 : Nat) (a1 : Int32) (a2 : Int32) : Nat → Int32 → Sto → Option Sto
  | 0, _, _ => none
  | fu + 1, v3, σ =>
    if 225 ≤ v3 then
      some σ
    else
      if kin v3 225 = true then
        klet (su σ (q0 + 1) v3.toNatClampNeg (fX1_zoneAt q0 (fX1_xOf v3) (fX1_yOf v3) σ)) fun σ4 =>
        fX1_become_L39 q0 a1 a2 fu (v3 + 1) σ4
      else none
def fX1_become (q0 : Nat) (a1 : Int32) (a2 : Int32) (σ : Sto) : Option Sto :=
  klet (su σ q0 0 a1) fun σ1 =>
  klet (su σ1 q0 1 a2) fun σ2 =>
  if (σ2 q0 0) = 60 then
    klet (su σ2 q0 2 1) fun σ3 =>
    fX1_become_L39 q0 a1 a2 kFU 0 σ3
  else
    if (σ2 q0 0) = 30 then
      klet (su σ2 q0 2 1) fun σ6 =>
      fX1_become_L39 q0 a1 a2 kFU 0 σ6
    else
      klet (su σ2 q0 2 0) fun σ5 =>
      fX1_become_L39 q0 a1 a2 kFU 0 σ5
set_option maxHeartbeats 4000000 in
set_option maxRecDepth 100000 in
theorem wX1_become_L39 (sh : KSh) (hw : KWf sh) (l : Launch) (hst : l.stackTraces = false) (q0 : Nat) (h0 : sh q0 = .inl 1) (a1 : Int32) (a2 : Int32) : ∀ (fu : Nat), ∀ (v3 : Int32), ∀ (σ : Sto), ∀ (r : Sto), fX1_become_L39 q0 a1 a2 fu v3 σ = some r → VV sh l mX1_become 0 0 39 [(0, .ref q0), (3, .int v3)] [] σ (0, .int 0, r) := by
  intro fu
  induction fu with
  | zero => intro v3 σ r h; rw [fX1_become_L39] at h; cases h
  | succ fu ih =>
    intro v3 σ r h
    rw [fX1_become_L39] at h
    refine kv_iload_n (pc := 39) 1 dX1_become_39 rfl rfl ?_
    refine kv_sipush (pc := 40) (v := 225) dX1_become_40 (by decide) ?_
    refine kv_icmp_ge (pc := 43) (tgt := 70) dX1_become_43 (by decide) h (fun h => ?_) (fun h => ?_)
    · exact kv_vret (pc := 70) (v := .int 0) dX1_become_70 rfl (by cases h; rfl) (by decide) (by decide)
    · refine kv_aload_n (pc := 46) 0 dX1_become_46 rfl rfl ?_
      refine kv_getR (pc := 47) (q2 := q0 + 1) dX1_become_47 h0 rfl (i := 3) (by decide) rfl fl_X1_9 rfl rfl ?_
      refine kv_iload_n (pc := 50) 1 dX1_become_50 rfl rfl ?_
      refine kv_aload_n (pc := 51) 0 dX1_become_51 rfl rfl ?_
      refine kv_iload_n (pc := 52) 1 dX1_become_52 rfl rfl ?_
      refine kv_tS (pc := 53) (v := .int (fX1_xOf v3)) [.int v3] (.int (fX1_xOf v3) :: [.ref q0, .int v3, .ref (q0 + 1)]) 56 0 0 (tX1_xOf sh hw l hst v3 σ) dX1_become_53 rfl yw_X1_xOf lk_X1_30 (by decide) (Nat.le_of_ble_eq_true rfl) (by decide) rfl ⟨rfl, rfl, rfl⟩ ?_
      refine kv_iload_n (pc := 56) 1 dX1_become_56 rfl rfl ?_
      refine kv_tS (pc := 57) (v := .int (fX1_yOf v3)) [.int v3] (.int (fX1_yOf v3) :: [.int (fX1_xOf v3), .ref q0, .int v3, .ref (q0 + 1)]) 60 0 0 (tX1_yOf sh hw l hst v3 σ) dX1_become_57 rfl yw_X1_yOf lk_X1_34 (by decide) (Nat.le_of_ble_eq_true rfl) (by decide) rfl ⟨rfl, rfl, rfl⟩ ?_
      refine kv_tV (pc := 60) (v := .int (fX1_zoneAt q0 (fX1_xOf v3) (fX1_yOf v3) σ)) [.int (fX1_xOf v3), .int (fX1_yOf v3)] (.int (fX1_zoneAt q0 (fX1_xOf v3) (fX1_yOf v3) σ) :: [.int v3, .ref (q0 + 1)]) 63 0 0 (tX1_zoneAt sh hw l hst q0 h0 (fX1_xOf v3) (fX1_yOf v3) σ) dX1_become_60 rfl h0 rfl yw_X1_zoneAt lk_X1_37 (by decide) (Nat.le_of_ble_eq_true rfl) (by decide) rfl ⟨rfl, rfl, rfl⟩ ?_
      refine kv_iast (pc := 63) dX1_become_63 (show sh (q0 + 1) = _ from kso_1_1 hw h0) h (fun h => ?_)
      refine kv_let h (fun σ4 h => ?_)
      refine kv_iinc (pc := 64) (v := v3 + 1) 1 [(3, .int (v3 + 1)), (0, .ref q0)] dX1_become_64 rfl rfl (by decide) rfl ?_
      refine kv_goto (pc := 67) (tgt := 39) dX1_become_67 (by decide) ?_
      refine kv_sub (pc := 39) [(0, .ref q0), (3, .int (v3 + 1))] [1, 0] rfl ?_
      exact ih (v3 + 1) σ4 r h
set_option maxHeartbeats 4000000 in
set_option maxRecDepth 100000 in
theorem tX1_become (sh : KSh) (hw : KWf sh) (l : Launch) (hst : l.stackTraces = false) (q0 : Nat) (h0 : sh q0 = .inl 1) (a1 : Int32) (a2 : Int32) (σ : Sto) (r : Sto) (h : fX1_become q0 a1 a2 σ = some r) : CT sh l mX1_become yX1_become [.ref q0, .int a1, .int a2] σ (0, .int 0, r) := by
  refine kct [(0, .ref q0), (1, .int a1), (2, .int a2)] hst (by decide +kernel) rfl rfl (Nat.le_of_ble_eq_true rfl) ?_
  rw [fX1_become] at h
  refine kv_aload_n (pc := 0) 0 dX1_become_0 rfl rfl ?_
  refine kv_iload_n (pc := 1) 1 dX1_become_1 rfl rfl ?_
  refine kv_put (pc := 2) tyX1 tyX1_ok nmX1 dX1_become_2 h0 rfl (i := 0) (by decide) rfl fl_X1_19 rfl rfl rfl rfl rfl ?_
  refine kv_let h (fun σ1 h => ?_)
  refine kv_aload_n (pc := 5) 0 dX1_become_5 rfl rfl ?_
  refine kv_iload_n (pc := 6) 2 dX1_become_6 rfl rfl ?_
  refine kv_put (pc := 7) tyX1 tyX1_ok nmX1 dX1_become_7 h0 rfl (i := 1) (by decide) rfl fl_X1_23 rfl rfl rfl rfl rfl ?_
  refine kv_let h (fun σ2 h => ?_)
  refine kv_aload_n (pc := 10) 0 dX1_become_10 rfl rfl ?_
  refine kv_aload_n (pc := 11) 0 dX1_become_11 rfl rfl ?_
  refine kv_getI (pc := 12) dX1_become_12 h0 rfl (i := 0) (by decide) rfl fl_X1_19 rfl ?_
  refine kv_bipush (pc := 15) (v := 60) dX1_become_15 (by decide) ?_
  refine kv_icmp_eq (pc := 17) (tgt := 29) dX1_become_17 (by decide) h (fun h => ?_) (fun h => ?_)
  · refine kv_iconst (pc := 29) (v := 1) dX1_become_29 (by decide) ?_
    refine kv_goto (pc := 30) (tgt := 34) dX1_become_30 (by decide) ?_
    refine kv_put (pc := 34) tyX1 tyX1_ok nmX1 dX1_become_34 h0 rfl (i := 2) (by decide) rfl fl_X1_26 rfl rfl rfl rfl rfl ?_
    refine kv_let h (fun σ3 h => ?_)
    refine kv_iconst (pc := 37) (v := 0) dX1_become_37 (by decide) ?_
    refine kv_istore_n (pc := 38) [(3, .int 0), (0, .ref q0), (1, .int a1), (2, .int a2)] dX1_become_38 rfl (by decide) rfl ?_
    refine kv_sub (pc := 39) [(0, .ref q0), (3, .int 0)] [1, 0] rfl ?_
    exact wX1_become_L39 sh hw l hst q0 h0 a1 a2 kFU 0 σ3 r h
  · refine kv_aload_n (pc := 20) 0 dX1_become_20 rfl rfl ?_
    refine kv_getI (pc := 21) dX1_become_21 h0 rfl (i := 0) (by decide) rfl fl_X1_19 rfl ?_
    refine kv_bipush (pc := 24) (v := 30) dX1_become_24 (by decide) ?_
    refine kv_icmp_ne (pc := 26) (tgt := 33) dX1_become_26 (by decide) h (fun h => ?_) (fun h => ?_)
    · refine kv_iconst (pc := 33) (v := 0) dX1_become_33 (by decide) ?_
      refine kv_put (pc := 34) tyX1 tyX1_ok nmX1 dX1_become_34 h0 rfl (i := 2) (by decide) rfl fl_X1_26 rfl rfl rfl rfl rfl ?_
      refine kv_let h (fun σ5 h => ?_)
      refine kv_iconst (pc := 37) (v := 0) dX1_become_37 (by decide) ?_
      refine kv_istore_n (pc := 38) [(3, .int 0), (0, .ref q0), (1, .int a1), (2, .int a2)] dX1_become_38 rfl (by decide) rfl ?_
      refine kv_sub (pc := 39) [(0, .ref q0), (3, .int 0)] [1, 0] rfl ?_
      exact wX1_become_L39 sh hw l hst q0 h0 a1 a2 kFU 0 σ5 r h
    · refine kv_iconst (pc := 29) (v := 1) dX1_become_29 (by decide) ?_
      refine kv_goto (pc := 30) (tgt := 34) dX1_become_30 (by decide) ?_
      refine kv_put (pc := 34) tyX1 tyX1_ok nmX1 dX1_become_34 h0 rfl (i := 2) (by decide) rfl fl_X1_26 rfl rfl rfl rfl rfl ?_
      refine kv_let h (fun σ6 h => ?_)
      refine kv_iconst (pc := 37) (v := 0) dX1_become_37 (by decide) ?_
      refine kv_istore_n (pc := 38) [(3, .int 0), (0, .ref q0), (1, .int a1), (2, .int a2)] dX1_become_38 rfl (by decide) rfl ?_
      refine kv_sub (pc := 39) [(0, .ref q0), (3, .int 0)] [1, 0] rfl ?_
      exact wX1_become_L39 sh hw l hst q0 h0 a1 a2 kFU 0 σ6 r h
theorem yw_X1_become : KMV yX1_become mX1_become RX1 2 := ⟨⟨rfl, by decide +kernel, by decide +kernel, by decide +kernel⟩, ⟨rfl, rfl⟩, kg_in 93 (by decide +kernel) (by decide +kernel), kg_in 94 (by decide +kernel) (by decide +kernel), kg_in 49 (by decide +kernel) (by decide +kernel), kg_in 95 (by decide +kernel) (by decide +kernel)⟩
theorem dX1_copyFrom_0 : decode cX1_copyFrom 0 = .ok (.aload_n 0, 1) := by decide +kernel
theorem dX1_copyFrom_1 : decode cX1_copyFrom 1 = .ok (.aload_n 1, 1) := by decide +kernel
theorem dX1_copyFrom_2 : decode cX1_copyFrom 2 = .ok (.getfield 19, 3) := by decide +kernel
theorem dX1_copyFrom_5 : decode cX1_copyFrom 5 = .ok (.putfield 19, 3) := by decide +kernel
theorem dX1_copyFrom_8 : decode cX1_copyFrom 8 = .ok (.aload_n 0, 1) := by decide +kernel
theorem dX1_copyFrom_9 : decode cX1_copyFrom 9 = .ok (.aload_n 1, 1) := by decide +kernel
theorem dX1_copyFrom_10 : decode cX1_copyFrom 10 = .ok (.getfield 23, 3) := by decide +kernel
theorem dX1_copyFrom_13 : decode cX1_copyFrom 13 = .ok (.putfield 23, 3) := by decide +kernel
theorem dX1_copyFrom_16 : decode cX1_copyFrom 16 = .ok (.aload_n 0, 1) := by decide +kernel
theorem dX1_copyFrom_17 : decode cX1_copyFrom 17 = .ok (.aload_n 1, 1) := by decide +kernel
theorem dX1_copyFrom_18 : decode cX1_copyFrom 18 = .ok (.getfield 26, 3) := by decide +kernel
theorem dX1_copyFrom_21 : decode cX1_copyFrom 21 = .ok (.putfield 26, 3) := by decide +kernel
theorem dX1_copyFrom_24 : decode cX1_copyFrom 24 = .ok (.aload_n 1, 1) := by decide +kernel
theorem dX1_copyFrom_25 : decode cX1_copyFrom 25 = .ok (.getfield 9, 3) := by decide +kernel
theorem dX1_copyFrom_28 : decode cX1_copyFrom 28 = .ok (.iconst 0, 1) := by decide +kernel
theorem dX1_copyFrom_29 : decode cX1_copyFrom 29 = .ok (.aload_n 0, 1) := by decide +kernel
theorem dX1_copyFrom_30 : decode cX1_copyFrom 30 = .ok (.getfield 9, 3) := by decide +kernel
theorem dX1_copyFrom_33 : decode cX1_copyFrom 33 = .ok (.iconst 0, 1) := by decide +kernel
theorem dX1_copyFrom_34 : decode cX1_copyFrom 34 = .ok (.sipush 225, 3) := by decide +kernel
theorem dX1_copyFrom_37 : decode cX1_copyFrom 37 = .ok (.invokestatic 41, 3) := by decide +kernel
theorem dX1_copyFrom_40 : decode cX1_copyFrom 40 = .ok (.return_, 1) := by decide +kernel
abbrev mX1_copyFrom : KM := (RX1, cX1_copyFrom, 2, none, { frames := 1, cells := 0, slots := 0, locals := 64 }, 0, 0)
def fX1_copyFrom (q0 : Nat) (q1 : Nat) (σ : Sto) : Option Sto :=
  klet (su σ q0 0 (σ q1 0)) fun σ1 =>
  klet (su σ1 q0 1 (σ1 q1 1)) fun σ2 =>
  if kbo (σ2 q1 2) = true then
    klet (su σ2 q0 2 (σ2 q1 2)) fun σ4 =>
    klet (kcp σ4 (q1 + 1) (q0 + 1) 225) fun σ5 =>
    some σ5
  else none
set_option maxHeartbeats 4000000 in
set_option maxRecDepth 100000 in
theorem tX1_copyFrom (sh : KSh) (hw : KWf sh) (l : Launch) (hst : l.stackTraces = false) (q0 : Nat) (h0 : sh q0 = .inl 1) (q1 : Nat) (h1 : sh q1 = .inl 1) (σ : Sto) (r : Sto) (h : fX1_copyFrom q0 q1 σ = some r) : CT sh l mX1_copyFrom yX1_copyFrom [.ref q0, .ref q1] σ (0, .int 0, r) := by
  refine kct [(0, .ref q0), (1, .ref q1)] hst (by decide +kernel) rfl rfl (Nat.le_of_ble_eq_true rfl) ?_
  rw [fX1_copyFrom] at h
  refine kv_aload_n (pc := 0) 0 dX1_copyFrom_0 rfl rfl ?_
  refine kv_aload_n (pc := 1) 1 dX1_copyFrom_1 rfl rfl ?_
  refine kv_getI (pc := 2) dX1_copyFrom_2 h1 rfl (i := 0) (by decide) rfl fl_X1_19 rfl ?_
  refine kv_put (pc := 5) tyX1 tyX1_ok nmX1 dX1_copyFrom_5 h0 rfl (i := 0) (by decide) rfl fl_X1_19 rfl rfl rfl rfl rfl ?_
  refine kv_let h (fun σ1 h => ?_)
  refine kv_aload_n (pc := 8) 0 dX1_copyFrom_8 rfl rfl ?_
  refine kv_aload_n (pc := 9) 1 dX1_copyFrom_9 rfl rfl ?_
  refine kv_getI (pc := 10) dX1_copyFrom_10 h1 rfl (i := 1) (by decide) rfl fl_X1_23 rfl ?_
  refine kv_put (pc := 13) tyX1 tyX1_ok nmX1 dX1_copyFrom_13 h0 rfl (i := 1) (by decide) rfl fl_X1_23 rfl rfl rfl rfl rfl ?_
  refine kv_let h (fun σ2 h => ?_)
  refine kv_aload_n (pc := 16) 0 dX1_copyFrom_16 rfl rfl ?_
  refine kv_aload_n (pc := 17) 1 dX1_copyFrom_17 rfl rfl ?_
  refine kv_getI (pc := 18) dX1_copyFrom_18 h1 rfl (i := 2) (by decide) rfl fl_X1_26 rfl ?_
  obtain ⟨c3, h⟩ := kif h
  refine kv_put (pc := 21) tyX1 tyX1_ok nmX1 dX1_copyFrom_21 h0 rfl (i := 2) (by decide) rfl fl_X1_26 rfl rfl rfl (kbo_n c3) (kbo_f c3) ?_
  refine kv_let h (fun σ4 h => ?_)
  refine kv_aload_n (pc := 24) 1 dX1_copyFrom_24 rfl rfl ?_
  refine kv_getR (pc := 25) (q2 := q1 + 1) dX1_copyFrom_25 h1 rfl (i := 3) (by decide) rfl fl_X1_9 rfl rfl ?_
  refine kv_iconst (pc := 28) (v := 0) dX1_copyFrom_28 (by decide) ?_
  refine kv_aload_n (pc := 29) 0 dX1_copyFrom_29 rfl rfl ?_
  refine kv_getR (pc := 30) (q2 := q0 + 1) dX1_copyFrom_30 h0 rfl (i := 3) (by decide) rfl fl_X1_9 rfl rfl ?_
  refine kv_iconst (pc := 33) (v := 0) dX1_copyFrom_33 (by decide) ?_
  refine kv_sipush (pc := 34) (v := 225) dX1_copyFrom_34 (by decide) ?_
  refine kv_copy (pc := 37) (N := 225) (by decide) (by decide) dX1_copyFrom_37 lk_X1_41 kw_copy (show sh (q1 + 1) = _ from kso_1_1 hw h1) (show sh (q0 + 1) = _ from kso_1_1 hw h0) (by decide) (Nat.le_of_ble_eq_true rfl) ?_
  refine kv_let h (fun σ5 h => ?_)
  exact kv_vret (pc := 40) (v := .int 0) dX1_copyFrom_40 rfl (by cases h; rfl) (by decide) (by decide)
theorem yw_X1_copyFrom : KMV yX1_copyFrom mX1_copyFrom RX1 1 := ⟨⟨rfl, by decide +kernel, by decide +kernel, by decide +kernel⟩, ⟨rfl, rfl⟩, kg_in 539 (by decide +kernel) (by decide +kernel), kg_in 540 (by decide +kernel) (by decide +kernel), kg_in 49 (by decide +kernel) (by decide +kernel), kg_in 541 (by decide +kernel) (by decide +kernel)⟩
theorem dX1_isAngle_0 : decode cX1_isAngle 0 = .ok (.iload_n 0, 1) := by decide +kernel
theorem dX1_isAngle_1 : decode cX1_isAngle 1 = .ok (.sipush 180, 3) := by decide +kernel
theorem dX1_isAngle_4 : decode cX1_isAngle 4 = .ok (.if_icmp .eq 27, 3) := by decide +kernel
theorem dX1_isAngle_7 : decode cX1_isAngle 7 = .ok (.iload_n 0, 1) := by decide +kernel
theorem dX1_isAngle_8 : decode cX1_isAngle 8 = .ok (.bipush 90, 2) := by decide +kernel
theorem dX1_isAngle_10 : decode cX1_isAngle 10 = .ok (.if_icmp .eq 21, 3) := by decide +kernel
theorem dX1_isAngle_13 : decode cX1_isAngle 13 = .ok (.iload_n 0, 1) := by decide +kernel
theorem dX1_isAngle_14 : decode cX1_isAngle 14 = .ok (.bipush 45, 2) := by decide +kernel
theorem dX1_isAngle_16 : decode cX1_isAngle 16 = .ok (.if_icmp .eq 15, 3) := by decide +kernel
theorem dX1_isAngle_19 : decode cX1_isAngle 19 = .ok (.iload_n 0, 1) := by decide +kernel
theorem dX1_isAngle_20 : decode cX1_isAngle 20 = .ok (.bipush 60, 2) := by decide +kernel
theorem dX1_isAngle_22 : decode cX1_isAngle 22 = .ok (.if_icmp .eq 9, 3) := by decide +kernel
theorem dX1_isAngle_25 : decode cX1_isAngle 25 = .ok (.iload_n 0, 1) := by decide +kernel
theorem dX1_isAngle_26 : decode cX1_isAngle 26 = .ok (.bipush 30, 2) := by decide +kernel
theorem dX1_isAngle_28 : decode cX1_isAngle 28 = .ok (.if_icmp .ne 7, 3) := by decide +kernel
theorem dX1_isAngle_31 : decode cX1_isAngle 31 = .ok (.iconst 1, 1) := by decide +kernel
theorem dX1_isAngle_32 : decode cX1_isAngle 32 = .ok (.goto 4, 3) := by decide +kernel
theorem dX1_isAngle_35 : decode cX1_isAngle 35 = .ok (.iconst 0, 1) := by decide +kernel
theorem dX1_isAngle_36 : decode cX1_isAngle 36 = .ok (.ireturn, 1) := by decide +kernel
abbrev mX1_isAngle : KM := (RX1, cX1_isAngle, 1, (some .boolean), { frames := 0, cells := 0, slots := 0, locals := 0 }, 0, 0)
def fX1_isAngle (a0 : Int32) : Bool :=
  if a0 = 180 then
    true
  else
    if a0 = 90 then
      true
    else
      if a0 = 45 then
        true
      else
        if a0 = 60 then
          true
        else
          if a0 = 30 then
            true
          else
            false
set_option maxHeartbeats 4000000 in
set_option maxRecDepth 100000 in
theorem tX1_isAngle (sh : KSh) (hw : KWf sh) (l : Launch) (hst : l.stackTraces = false) (a0 : Int32) (σ : Sto) : CT sh l mX1_isAngle yX1_isAngle [.int a0] σ (0, .int (kb (fX1_isAngle a0)), σ) := by
  refine kct [(0, .int a0)] hst (by decide +kernel) rfl rfl (Nat.le_of_ble_eq_true rfl) ?_
  generalize h : fX1_isAngle a0 = r
  rw [fX1_isAngle] at h
  refine kv_iload_n (pc := 0) 0 dX1_isAngle_0 rfl rfl ?_
  refine kv_sipush (pc := 1) (v := 180) dX1_isAngle_1 (by decide) ?_
  refine kv_icmp_eq (pc := 4) (tgt := 31) dX1_isAngle_4 (by decide) h (fun h => ?_) (fun h => ?_)
  · refine kv_iconst (pc := 31) (v := 1) dX1_isAngle_31 (by decide) ?_
    refine kv_goto (pc := 32) (tgt := 36) dX1_isAngle_32 (by decide) ?_
    exact kv_zret (pc := 36) dX1_isAngle_36 rfl rfl (by subst h; rfl) (by decide) (by decide)
  · refine kv_iload_n (pc := 7) 0 dX1_isAngle_7 rfl rfl ?_
    refine kv_bipush (pc := 8) (v := 90) dX1_isAngle_8 (by decide) ?_
    refine kv_icmp_eq (pc := 10) (tgt := 31) dX1_isAngle_10 (by decide) h (fun h => ?_) (fun h => ?_)
    · refine kv_iconst (pc := 31) (v := 1) dX1_isAngle_31 (by decide) ?_
      refine kv_goto (pc := 32) (tgt := 36) dX1_isAngle_32 (by decide) ?_
      exact kv_zret (pc := 36) dX1_isAngle_36 rfl rfl (by subst h; rfl) (by decide) (by decide)
    · refine kv_iload_n (pc := 13) 0 dX1_isAngle_13 rfl rfl ?_
      refine kv_bipush (pc := 14) (v := 45) dX1_isAngle_14 (by decide) ?_
      refine kv_icmp_eq (pc := 16) (tgt := 31) dX1_isAngle_16 (by decide) h (fun h => ?_) (fun h => ?_)
      · refine kv_iconst (pc := 31) (v := 1) dX1_isAngle_31 (by decide) ?_
        refine kv_goto (pc := 32) (tgt := 36) dX1_isAngle_32 (by decide) ?_
        exact kv_zret (pc := 36) dX1_isAngle_36 rfl rfl (by subst h; rfl) (by decide) (by decide)
      · refine kv_iload_n (pc := 19) 0 dX1_isAngle_19 rfl rfl ?_
        refine kv_bipush (pc := 20) (v := 60) dX1_isAngle_20 (by decide) ?_
        refine kv_icmp_eq (pc := 22) (tgt := 31) dX1_isAngle_22 (by decide) h (fun h => ?_) (fun h => ?_)
        · refine kv_iconst (pc := 31) (v := 1) dX1_isAngle_31 (by decide) ?_
          refine kv_goto (pc := 32) (tgt := 36) dX1_isAngle_32 (by decide) ?_
          exact kv_zret (pc := 36) dX1_isAngle_36 rfl rfl (by subst h; rfl) (by decide) (by decide)
        · refine kv_iload_n (pc := 25) 0 dX1_isAngle_25 rfl rfl ?_
          refine kv_bipush (pc := 26) (v := 30) dX1_isAngle_26 (by decide) ?_
          refine kv_icmp_ne (pc := 28) (tgt := 35) dX1_isAngle_28 (by decide) h (fun h => ?_) (fun h => ?_)
          · refine kv_iconst (pc := 35) (v := 0) dX1_isAngle_35 (by decide) ?_
            exact kv_zret (pc := 36) dX1_isAngle_36 rfl rfl (by subst h; rfl) (by decide) (by decide)
          · refine kv_iconst (pc := 31) (v := 1) dX1_isAngle_31 (by decide) ?_
            refine kv_goto (pc := 32) (tgt := 36) dX1_isAngle_32 (by decide) ?_
            exact kv_zret (pc := 36) dX1_isAngle_36 rfl rfl (by subst h; rfl) (by decide) (by decide)
theorem yw_X1_isAngle : KMS yX1_isAngle mX1_isAngle 1 := ⟨⟨by decide +kernel, by decide +kernel, by decide +kernel⟩, ⟨rfl, rfl⟩, kg_in 429 (by decide +kernel) (by decide +kernel), kg_in 49 (by decide +kernel) (by decide +kernel), kg_in 430 (by decide +kernel) (by decide +kernel)⟩
theorem dX1_cellAt_0 : decode cX1_cellAt 0 = .ok (.iload_n 1, 1) := by decide +kernel
theorem dX1_cellAt_1 : decode cX1_cellAt 1 = .ok (.bipush 7, 2) := by decide +kernel
theorem dX1_cellAt_3 : decode cX1_cellAt 3 = .ok (.iadd, 1) := by decide +kernel
theorem dX1_cellAt_4 : decode cX1_cellAt 4 = .ok (.bipush 15, 2) := by decide +kernel
theorem dX1_cellAt_6 : decode cX1_cellAt 6 = .ok (.imul, 1) := by decide +kernel
theorem dX1_cellAt_7 : decode cX1_cellAt 7 = .ok (.iload_n 0, 1) := by decide +kernel
theorem dX1_cellAt_8 : decode cX1_cellAt 8 = .ok (.iadd, 1) := by decide +kernel
theorem dX1_cellAt_9 : decode cX1_cellAt 9 = .ok (.bipush 7, 2) := by decide +kernel
theorem dX1_cellAt_11 : decode cX1_cellAt 11 = .ok (.iadd, 1) := by decide +kernel
theorem dX1_cellAt_12 : decode cX1_cellAt 12 = .ok (.ireturn, 1) := by decide +kernel
abbrev mX1_cellAt : KM := (RX1, cX1_cellAt, 2, (some .int), { frames := 0, cells := 0, slots := 0, locals := 0 }, 0, 0)
def fX1_cellAt (a0 : Int32) (a1 : Int32) : Int32 :=
  ((((a1 + 7) * 15) + a0) + 7)
set_option maxHeartbeats 4000000 in
set_option maxRecDepth 100000 in
theorem tX1_cellAt (sh : KSh) (hw : KWf sh) (l : Launch) (hst : l.stackTraces = false) (a0 : Int32) (a1 : Int32) (σ : Sto) : CT sh l mX1_cellAt yX1_cellAt [.int a0, .int a1] σ (0, .int (fX1_cellAt a0 a1), σ) := by
  refine kct [(0, .int a0), (1, .int a1)] hst (by decide +kernel) rfl rfl (Nat.le_of_ble_eq_true rfl) ?_
  generalize h : fX1_cellAt a0 a1 = r
  rw [fX1_cellAt] at h
  refine kv_iload_n (pc := 0) 1 dX1_cellAt_0 rfl rfl ?_
  refine kv_bipush (pc := 1) (v := 7) dX1_cellAt_1 (by decide) ?_
  refine kv_iadd (pc := 3) dX1_cellAt_3 ?_
  refine kv_bipush (pc := 4) (v := 15) dX1_cellAt_4 (by decide) ?_
  refine kv_imul (pc := 6) dX1_cellAt_6 ?_
  refine kv_iload_n (pc := 7) 0 dX1_cellAt_7 rfl rfl ?_
  refine kv_iadd (pc := 8) dX1_cellAt_8 ?_
  refine kv_bipush (pc := 9) (v := 7) dX1_cellAt_9 (by decide) ?_
  refine kv_iadd (pc := 11) dX1_cellAt_11 ?_
  exact kv_iret (pc := 12) dX1_cellAt_12 rfl (by subst h; rfl) (by decide) (by decide)
theorem yw_X1_cellAt : KMS yX1_cellAt mX1_cellAt 2 := ⟨⟨by decide +kernel, by decide +kernel, by decide +kernel⟩, ⟨rfl, rfl⟩, kg_in 474 (by decide +kernel) (by decide +kernel), kg_in 49 (by decide +kernel) (by decide +kernel), kg_in 475 (by decide +kernel) (by decide +kernel)⟩
theorem dX1_hasSamePicture_0 : decode cX1_hasSamePicture 0 = .ok (.aload_n 0, 1) := by decide +kernel
theorem dX1_hasSamePicture_1 : decode cX1_hasSamePicture 1 = .ok (.getfield 23, 3) := by decide +kernel
theorem dX1_hasSamePicture_4 : decode cX1_hasSamePicture 4 = .ok (.aload_n 1, 1) := by decide +kernel
theorem dX1_hasSamePicture_5 : decode cX1_hasSamePicture 5 = .ok (.getfield 23, 3) := by decide +kernel
theorem dX1_hasSamePicture_8 : decode cX1_hasSamePicture 8 = .ok (.if_icmp .ne 18, 3) := by decide +kernel
theorem dX1_hasSamePicture_11 : decode cX1_hasSamePicture 11 = .ok (.aload_n 0, 1) := by decide +kernel
theorem dX1_hasSamePicture_12 : decode cX1_hasSamePicture 12 = .ok (.getfield 26, 3) := by decide +kernel
theorem dX1_hasSamePicture_15 : decode cX1_hasSamePicture 15 = .ok (.aload_n 1, 1) := by decide +kernel
theorem dX1_hasSamePicture_16 : decode cX1_hasSamePicture 16 = .ok (.getfield 26, 3) := by decide +kernel
theorem dX1_hasSamePicture_19 : decode cX1_hasSamePicture 19 = .ok (.if_icmp .ne 7, 3) := by decide +kernel
theorem dX1_hasSamePicture_22 : decode cX1_hasSamePicture 22 = .ok (.iconst 1, 1) := by decide +kernel
theorem dX1_hasSamePicture_23 : decode cX1_hasSamePicture 23 = .ok (.goto 4, 3) := by decide +kernel
theorem dX1_hasSamePicture_26 : decode cX1_hasSamePicture 26 = .ok (.iconst 0, 1) := by decide +kernel
theorem dX1_hasSamePicture_27 : decode cX1_hasSamePicture 27 = .ok (.ireturn, 1) := by decide +kernel
abbrev mX1_hasSamePicture : KM := (RX1, cX1_hasSamePicture, 2, (some .boolean), { frames := 0, cells := 0, slots := 0, locals := 0 }, 0, 0)
def fX1_hasSamePicture (q0 : Nat) (q1 : Nat) (σ : Sto) : Bool :=
  if (σ q0 1) = (σ q1 1) then
    if (σ q0 2) = (σ q1 2) then
      true
    else
      false
  else
    false
set_option maxHeartbeats 4000000 in
set_option maxRecDepth 100000 in
theorem tX1_hasSamePicture (sh : KSh) (hw : KWf sh) (l : Launch) (hst : l.stackTraces = false) (q0 : Nat) (h0 : sh q0 = .inl 1) (q1 : Nat) (h1 : sh q1 = .inl 1) (σ : Sto) : CT sh l mX1_hasSamePicture yX1_hasSamePicture [.ref q0, .ref q1] σ (0, .int (kb (fX1_hasSamePicture q0 q1 σ)), σ) := by
  refine kct [(0, .ref q0), (1, .ref q1)] hst (by decide +kernel) rfl rfl (Nat.le_of_ble_eq_true rfl) ?_
  generalize h : fX1_hasSamePicture q0 q1 σ = r
  rw [fX1_hasSamePicture] at h
  refine kv_aload_n (pc := 0) 0 dX1_hasSamePicture_0 rfl rfl ?_
  refine kv_getI (pc := 1) dX1_hasSamePicture_1 h0 rfl (i := 1) (by decide) rfl fl_X1_23 rfl ?_
  refine kv_aload_n (pc := 4) 1 dX1_hasSamePicture_4 rfl rfl ?_
  refine kv_getI (pc := 5) dX1_hasSamePicture_5 h1 rfl (i := 1) (by decide) rfl fl_X1_23 rfl ?_
  refine kv_icmp_ne (pc := 8) (tgt := 26) dX1_hasSamePicture_8 (by decide) h (fun h => ?_) (fun h => ?_)
  · refine kv_iconst (pc := 26) (v := 0) dX1_hasSamePicture_26 (by decide) ?_
    exact kv_zret (pc := 27) dX1_hasSamePicture_27 rfl rfl (by subst h; rfl) (by decide) (by decide)
  · refine kv_aload_n (pc := 11) 0 dX1_hasSamePicture_11 rfl rfl ?_
    refine kv_getI (pc := 12) dX1_hasSamePicture_12 h0 rfl (i := 2) (by decide) rfl fl_X1_26 rfl ?_
    refine kv_aload_n (pc := 15) 1 dX1_hasSamePicture_15 rfl rfl ?_
    refine kv_getI (pc := 16) dX1_hasSamePicture_16 h1 rfl (i := 2) (by decide) rfl fl_X1_26 rfl ?_
    refine kv_icmp_ne (pc := 19) (tgt := 26) dX1_hasSamePicture_19 (by decide) h (fun h => ?_) (fun h => ?_)
    · refine kv_iconst (pc := 26) (v := 0) dX1_hasSamePicture_26 (by decide) ?_
      exact kv_zret (pc := 27) dX1_hasSamePicture_27 rfl rfl (by subst h; rfl) (by decide) (by decide)
    · refine kv_iconst (pc := 22) (v := 1) dX1_hasSamePicture_22 (by decide) ?_
      refine kv_goto (pc := 23) (tgt := 27) dX1_hasSamePicture_23 (by decide) ?_
      exact kv_zret (pc := 27) dX1_hasSamePicture_27 rfl rfl (by subst h; rfl) (by decide) (by decide)
theorem yw_X1_hasSamePicture : KMV yX1_hasSamePicture mX1_hasSamePicture RX1 1 := ⟨⟨rfl, by decide +kernel, by decide +kernel, by decide +kernel⟩, ⟨rfl, rfl⟩, kg_in 1063 (by decide +kernel) (by decide +kernel), kg_in 1064 (by decide +kernel) (by decide +kernel), kg_in 49 (by decide +kernel) (by decide +kernel), kg_in 1065 (by decide +kernel) (by decide +kernel)⟩
theorem dX1_mirrors_0 : decode cX1_mirrors 0 = .ok (.aload_n 0, 1) := by decide +kernel
theorem dX1_mirrors_1 : decode cX1_mirrors 1 = .ok (.getfield 19, 3) := by decide +kernel
theorem dX1_mirrors_4 : decode cX1_mirrors 4 = .ok (.sipush 180, 3) := by decide +kernel
theorem dX1_mirrors_7 : decode cX1_mirrors 7 = .ok (.if_icmp .ne 7, 3) := by decide +kernel
theorem dX1_mirrors_10 : decode cX1_mirrors 10 = .ok (.iconst 1, 1) := by decide +kernel
theorem dX1_mirrors_11 : decode cX1_mirrors 11 = .ok (.goto 4, 3) := by decide +kernel
theorem dX1_mirrors_14 : decode cX1_mirrors 14 = .ok (.iconst 2, 1) := by decide +kernel
theorem dX1_mirrors_15 : decode cX1_mirrors 15 = .ok (.ireturn, 1) := by decide +kernel
abbrev mX1_mirrors : KM := (RX1, cX1_mirrors, 1, (some .int), { frames := 0, cells := 0, slots := 0, locals := 0 }, 0, 0)
def fX1_mirrors (q0 : Nat) (σ : Sto) : Int32 :=
  if (σ q0 0) = 180 then
    1
  else
    2
set_option maxHeartbeats 4000000 in
set_option maxRecDepth 100000 in
theorem tX1_mirrors (sh : KSh) (hw : KWf sh) (l : Launch) (hst : l.stackTraces = false) (q0 : Nat) (h0 : sh q0 = .inl 1) (σ : Sto) : CT sh l mX1_mirrors yX1_mirrors [.ref q0] σ (0, .int (fX1_mirrors q0 σ), σ) := by
  refine kct [(0, .ref q0)] hst (by decide +kernel) rfl rfl (Nat.le_of_ble_eq_true rfl) ?_
  generalize h : fX1_mirrors q0 σ = r
  rw [fX1_mirrors] at h
  refine kv_aload_n (pc := 0) 0 dX1_mirrors_0 rfl rfl ?_
  refine kv_getI (pc := 1) dX1_mirrors_1 h0 rfl (i := 0) (by decide) rfl fl_X1_19 rfl ?_
  refine kv_sipush (pc := 4) (v := 180) dX1_mirrors_4 (by decide) ?_
  refine kv_icmp_ne (pc := 7) (tgt := 14) dX1_mirrors_7 (by decide) h (fun h => ?_) (fun h => ?_)
  · refine kv_iconst (pc := 14) (v := 2) dX1_mirrors_14 (by decide) ?_
    exact kv_iret (pc := 15) dX1_mirrors_15 rfl (by subst h; rfl) (by decide) (by decide)
  · refine kv_iconst (pc := 10) (v := 1) dX1_mirrors_10 (by decide) ?_
    refine kv_goto (pc := 11) (tgt := 15) dX1_mirrors_11 (by decide) ?_
    exact kv_iret (pc := 15) dX1_mirrors_15 rfl (by subst h; rfl) (by decide) (by decide)
theorem yw_X1_mirrors : KMV yX1_mirrors mX1_mirrors RX1 0 := ⟨⟨rfl, by decide +kernel, by decide +kernel, by decide +kernel⟩, ⟨rfl, rfl⟩, kg_in 523 (by decide +kernel) (by decide +kernel), kg_in 524 (by decide +kernel) (by decide +kernel), kg_in 49 (by decide +kernel) (by decide +kernel), kg_in 525 (by decide +kernel) (by decide +kernel)⟩
theorem dX1_maps_0 : decode cX1_maps 0 = .ok (.aload_n 0, 1) := by decide +kernel
theorem dX1_maps_1 : decode cX1_maps 1 = .ok (.getfield 26, 3) := by decide +kernel
theorem dX1_maps_4 : decode cX1_maps 4 = .ok (.ifCond .eq 8, 3) := by decide +kernel
theorem dX1_maps_7 : decode cX1_maps 7 = .ok (.bipush 12, 2) := by decide +kernel
theorem dX1_maps_9 : decode cX1_maps 9 = .ok (.goto 5, 3) := by decide +kernel
theorem dX1_maps_12 : decode cX1_maps 12 = .ok (.bipush 8, 2) := by decide +kernel
theorem dX1_maps_14 : decode cX1_maps 14 = .ok (.ireturn, 1) := by decide +kernel
abbrev mX1_maps : KM := (RX1, cX1_maps, 1, (some .int), { frames := 0, cells := 0, slots := 0, locals := 0 }, 0, 0)
def fX1_maps (q0 : Nat) (σ : Sto) : Int32 :=
  if (σ q0 2) = 0 then
    8
  else
    12
set_option maxHeartbeats 4000000 in
set_option maxRecDepth 100000 in
theorem tX1_maps (sh : KSh) (hw : KWf sh) (l : Launch) (hst : l.stackTraces = false) (q0 : Nat) (h0 : sh q0 = .inl 1) (σ : Sto) : CT sh l mX1_maps yX1_maps [.ref q0] σ (0, .int (fX1_maps q0 σ), σ) := by
  refine kct [(0, .ref q0)] hst (by decide +kernel) rfl rfl (Nat.le_of_ble_eq_true rfl) ?_
  generalize h : fX1_maps q0 σ = r
  rw [fX1_maps] at h
  refine kv_aload_n (pc := 0) 0 dX1_maps_0 rfl rfl ?_
  refine kv_getI (pc := 1) dX1_maps_1 h0 rfl (i := 2) (by decide) rfl fl_X1_26 rfl ?_
  refine kv_if_eq (pc := 4) (tgt := 12) dX1_maps_4 (by decide) h (fun h => ?_) (fun h => ?_)
  · refine kv_bipush (pc := 12) (v := 8) dX1_maps_12 (by decide) ?_
    exact kv_iret (pc := 14) dX1_maps_14 rfl (by subst h; rfl) (by decide) (by decide)
  · refine kv_bipush (pc := 7) (v := 12) dX1_maps_7 (by decide) ?_
    refine kv_goto (pc := 9) (tgt := 14) dX1_maps_9 (by decide) ?_
    exact kv_iret (pc := 14) dX1_maps_14 rfl (by subst h; rfl) (by decide) (by decide)
theorem yw_X1_maps : KMV yX1_maps mX1_maps RX1 0 := ⟨⟨rfl, by decide +kernel, by decide +kernel, by decide +kernel⟩, ⟨rfl, rfl⟩, kg_in 1025 (by decide +kernel) (by decide +kernel), kg_in 1026 (by decide +kernel) (by decide +kernel), kg_in 49 (by decide +kernel) (by decide +kernel), kg_in 1027 (by decide +kernel) (by decide +kernel)⟩
theorem dX1_isInPicture_0 : decode cX1_isInPicture 0 = .ok (.iload_n 1, 1) := by decide +kernel
theorem dX1_isInPicture_1 : decode cX1_isInPicture 1 = .ok (.ifCond .lt 23, 3) := by decide +kernel
theorem dX1_isInPicture_4 : decode cX1_isInPicture 4 = .ok (.iload_n 1, 1) := by decide +kernel
theorem dX1_isInPicture_5 : decode cX1_isInPicture 5 = .ok (.sipush 225, 3) := by decide +kernel
theorem dX1_isInPicture_8 : decode cX1_isInPicture 8 = .ok (.if_icmp .ge 16, 3) := by decide +kernel
theorem dX1_isInPicture_11 : decode cX1_isInPicture 11 = .ok (.aload_n 0, 1) := by decide +kernel
theorem dX1_isInPicture_12 : decode cX1_isInPicture 12 = .ok (.getfield 9, 3) := by decide +kernel
theorem dX1_isInPicture_15 : decode cX1_isInPicture 15 = .ok (.iload_n 1, 1) := by decide +kernel
theorem dX1_isInPicture_16 : decode cX1_isInPicture 16 = .ok (.iaload, 1) := by decide +kernel
theorem dX1_isInPicture_17 : decode cX1_isInPicture 17 = .ok (.ifCond .eq 7, 3) := by decide +kernel
theorem dX1_isInPicture_20 : decode cX1_isInPicture 20 = .ok (.iconst 1, 1) := by decide +kernel
theorem dX1_isInPicture_21 : decode cX1_isInPicture 21 = .ok (.goto 4, 3) := by decide +kernel
theorem dX1_isInPicture_24 : decode cX1_isInPicture 24 = .ok (.iconst 0, 1) := by decide +kernel
theorem dX1_isInPicture_25 : decode cX1_isInPicture 25 = .ok (.ireturn, 1) := by decide +kernel
abbrev mX1_isInPicture : KM := (RX1, cX1_isInPicture, 2, (some .boolean), { frames := 0, cells := 0, slots := 0, locals := 0 }, 0, 0)
def fX1_isInPicture (q0 : Nat) (a1 : Int32) (σ : Sto) : Option Bool :=
  if a1 < 0 then
    some false
  else
    if 225 ≤ a1 then
      some false
    else
      if kin a1 225 = true then
        if (σ (q0 + 1) a1.toNatClampNeg) = 0 then
          some false
        else
          some true
      else none
set_option maxHeartbeats 4000000 in
set_option maxRecDepth 100000 in
theorem tX1_isInPicture (sh : KSh) (hw : KWf sh) (l : Launch) (hst : l.stackTraces = false) (q0 : Nat) (h0 : sh q0 = .inl 1) (a1 : Int32) (σ : Sto) (r : Bool) (h : fX1_isInPicture q0 a1 σ = some r) : CT sh l mX1_isInPicture yX1_isInPicture [.ref q0, .int a1] σ (0, .int (kb r), σ) := by
  refine kct [(0, .ref q0), (1, .int a1)] hst (by decide +kernel) rfl rfl (Nat.le_of_ble_eq_true rfl) ?_
  rw [fX1_isInPicture] at h
  refine kv_iload_n (pc := 0) 1 dX1_isInPicture_0 rfl rfl ?_
  refine kv_if_lt (pc := 1) (tgt := 24) dX1_isInPicture_1 (by decide) h (fun h => ?_) (fun h => ?_)
  · refine kv_iconst (pc := 24) (v := 0) dX1_isInPicture_24 (by decide) ?_
    exact kv_zret (pc := 25) dX1_isInPicture_25 rfl rfl (by cases h; rfl) (by decide) (by decide)
  · refine kv_iload_n (pc := 4) 1 dX1_isInPicture_4 rfl rfl ?_
    refine kv_sipush (pc := 5) (v := 225) dX1_isInPicture_5 (by decide) ?_
    refine kv_icmp_ge (pc := 8) (tgt := 24) dX1_isInPicture_8 (by decide) h (fun h => ?_) (fun h => ?_)
    · refine kv_iconst (pc := 24) (v := 0) dX1_isInPicture_24 (by decide) ?_
      exact kv_zret (pc := 25) dX1_isInPicture_25 rfl rfl (by cases h; rfl) (by decide) (by decide)
    · refine kv_aload_n (pc := 11) 0 dX1_isInPicture_11 rfl rfl ?_
      refine kv_getR (pc := 12) (q2 := q0 + 1) dX1_isInPicture_12 h0 rfl (i := 3) (by decide) rfl fl_X1_9 rfl rfl ?_
      refine kv_iload_n (pc := 15) 1 dX1_isInPicture_15 rfl rfl ?_
      refine kv_iald (pc := 16) dX1_isInPicture_16 (show sh (q0 + 1) = _ from kso_1_1 hw h0) h (fun h => ?_)
      refine kv_if_eq (pc := 17) (tgt := 24) dX1_isInPicture_17 (by decide) h (fun h => ?_) (fun h => ?_)
      · refine kv_iconst (pc := 24) (v := 0) dX1_isInPicture_24 (by decide) ?_
        exact kv_zret (pc := 25) dX1_isInPicture_25 rfl rfl (by cases h; rfl) (by decide) (by decide)
      · refine kv_iconst (pc := 20) (v := 1) dX1_isInPicture_20 (by decide) ?_
        refine kv_goto (pc := 21) (tgt := 25) dX1_isInPicture_21 (by decide) ?_
        exact kv_zret (pc := 25) dX1_isInPicture_25 rfl rfl (by cases h; rfl) (by decide) (by decide)
theorem yw_X1_isInPicture : KMV yX1_isInPicture mX1_isInPicture RX1 1 := ⟨⟨rfl, by decide +kernel, by decide +kernel, by decide +kernel⟩, ⟨rfl, rfl⟩, kg_in 477 (by decide +kernel) (by decide +kernel), kg_in 478 (by decide +kernel) (by decide +kernel), kg_in 49 (by decide +kernel) (by decide +kernel), kg_in 479 (by decide +kernel) (by decide +kernel)⟩
theorem dX1_isFar_0 : decode cX1_isFar 0 = .ok (.iload_n 1, 1) := by decide +kernel
theorem dX1_isFar_1 : decode cX1_isFar 1 = .ok (.bipush (-6), 2) := by decide +kernel
theorem dX1_isFar_3 : decode cX1_isFar 3 = .ok (.if_icmp .lt 9, 3) := by decide +kernel
theorem dX1_isFar_6 : decode cX1_isFar 6 = .ok (.iload_n 1, 1) := by decide +kernel
theorem dX1_isFar_7 : decode cX1_isFar 7 = .ok (.bipush 6, 2) := by decide +kernel
theorem dX1_isFar_9 : decode cX1_isFar 9 = .ok (.if_icmp .le 7, 3) := by decide +kernel
theorem dX1_isFar_12 : decode cX1_isFar 12 = .ok (.iconst 1, 1) := by decide +kernel
theorem dX1_isFar_13 : decode cX1_isFar 13 = .ok (.goto 4, 3) := by decide +kernel
theorem dX1_isFar_16 : decode cX1_isFar 16 = .ok (.iconst 0, 1) := by decide +kernel
theorem dX1_isFar_17 : decode cX1_isFar 17 = .ok (.ireturn, 1) := by decide +kernel
abbrev mX1_isFar : KM := (RX1, cX1_isFar, 2, (some .boolean), { frames := 0, cells := 0, slots := 0, locals := 0 }, 0, 0)
def fX1_isFar (q0 : Nat) (a1 : Int32) : Bool :=
  if a1 < (-6) then
    true
  else
    if a1 ≤ 6 then
      false
    else
      true
set_option maxHeartbeats 4000000 in
set_option maxRecDepth 100000 in
theorem tX1_isFar (sh : KSh) (hw : KWf sh) (l : Launch) (hst : l.stackTraces = false) (q0 : Nat) (h0 : sh q0 = .inl 1) (a1 : Int32) (σ : Sto) : CT sh l mX1_isFar yX1_isFar [.ref q0, .int a1] σ (0, .int (kb (fX1_isFar q0 a1)), σ) := by
  refine kct [(0, .ref q0), (1, .int a1)] hst (by decide +kernel) rfl rfl (Nat.le_of_ble_eq_true rfl) ?_
  generalize h : fX1_isFar q0 a1 = r
  rw [fX1_isFar] at h
  refine kv_iload_n (pc := 0) 1 dX1_isFar_0 rfl rfl ?_
  refine kv_bipush (pc := 1) (v := (-6)) dX1_isFar_1 (by decide) ?_
  refine kv_icmp_lt (pc := 3) (tgt := 12) dX1_isFar_3 (by decide) h (fun h => ?_) (fun h => ?_)
  · refine kv_iconst (pc := 12) (v := 1) dX1_isFar_12 (by decide) ?_
    refine kv_goto (pc := 13) (tgt := 17) dX1_isFar_13 (by decide) ?_
    exact kv_zret (pc := 17) dX1_isFar_17 rfl rfl (by subst h; rfl) (by decide) (by decide)
  · refine kv_iload_n (pc := 6) 1 dX1_isFar_6 rfl rfl ?_
    refine kv_bipush (pc := 7) (v := 6) dX1_isFar_7 (by decide) ?_
    refine kv_icmp_le (pc := 9) (tgt := 16) dX1_isFar_9 (by decide) h (fun h => ?_) (fun h => ?_)
    · refine kv_iconst (pc := 16) (v := 0) dX1_isFar_16 (by decide) ?_
      exact kv_zret (pc := 17) dX1_isFar_17 rfl rfl (by subst h; rfl) (by decide) (by decide)
    · refine kv_iconst (pc := 12) (v := 1) dX1_isFar_12 (by decide) ?_
      refine kv_goto (pc := 13) (tgt := 17) dX1_isFar_13 (by decide) ?_
      exact kv_zret (pc := 17) dX1_isFar_17 rfl rfl (by subst h; rfl) (by decide) (by decide)
theorem yw_X1_isFar : KMV yX1_isFar mX1_isFar RX1 1 := ⟨⟨rfl, by decide +kernel, by decide +kernel, by decide +kernel⟩, ⟨rfl, rfl⟩, kg_in 471 (by decide +kernel) (by decide +kernel), kg_in 15 (by decide +kernel) (by decide +kernel), kg_in 49 (by decide +kernel) (by decide +kernel), kg_in 472 (by decide +kernel) (by decide +kernel)⟩
theorem dX1_pictureCell_0 : decode cX1_pictureCell 0 = .ok (.aload_n 0, 1) := by decide +kernel
theorem dX1_pictureCell_1 : decode cX1_pictureCell 1 = .ok (.iload_n 1, 1) := by decide +kernel
theorem dX1_pictureCell_2 : decode cX1_pictureCell 2 = .ok (.invokevirtual 59, 3) := by decide +kernel
theorem dX1_pictureCell_5 : decode cX1_pictureCell 5 = .ok (.ifCond .ne 11, 3) := by decide +kernel
theorem dX1_pictureCell_8 : decode cX1_pictureCell 8 = .ok (.aload_n 0, 1) := by decide +kernel
theorem dX1_pictureCell_9 : decode cX1_pictureCell 9 = .ok (.iload_n 2, 1) := by decide +kernel
theorem dX1_pictureCell_10 : decode cX1_pictureCell 10 = .ok (.invokevirtual 59, 3) := by decide +kernel
theorem dX1_pictureCell_13 : decode cX1_pictureCell 13 = .ok (.ifCond .eq 5, 3) := by decide +kernel
theorem dX1_pictureCell_16 : decode cX1_pictureCell 16 = .ok (.iconst (-1), 1) := by decide +kernel
theorem dX1_pictureCell_17 : decode cX1_pictureCell 17 = .ok (.ireturn, 1) := by decide +kernel
theorem dX1_pictureCell_18 : decode cX1_pictureCell 18 = .ok (.iload_n 1, 1) := by decide +kernel
theorem dX1_pictureCell_19 : decode cX1_pictureCell 19 = .ok (.iload_n 2, 1) := by decide +kernel
theorem dX1_pictureCell_20 : decode cX1_pictureCell 20 = .ok (.invokestatic 63, 3) := by decide +kernel
theorem dX1_pictureCell_23 : decode cX1_pictureCell 23 = .ok (.istore_n 3, 1) := by decide +kernel
theorem dX1_pictureCell_24 : decode cX1_pictureCell 24 = .ok (.aload_n 0, 1) := by decide +kernel
theorem dX1_pictureCell_25 : decode cX1_pictureCell 25 = .ok (.iload_n 3, 1) := by decide +kernel
theorem dX1_pictureCell_26 : decode cX1_pictureCell 26 = .ok (.invokevirtual 66, 3) := by decide +kernel
theorem dX1_pictureCell_29 : decode cX1_pictureCell 29 = .ok (.ifCond .eq 7, 3) := by decide +kernel
theorem dX1_pictureCell_32 : decode cX1_pictureCell 32 = .ok (.iload_n 3, 1) := by decide +kernel
theorem dX1_pictureCell_33 : decode cX1_pictureCell 33 = .ok (.goto 4, 3) := by decide +kernel
theorem dX1_pictureCell_36 : decode cX1_pictureCell 36 = .ok (.iconst (-1), 1) := by decide +kernel
theorem dX1_pictureCell_37 : decode cX1_pictureCell 37 = .ok (.ireturn, 1) := by decide +kernel
abbrev mX1_pictureCell : KM := (RX1, cX1_pictureCell, 4, (some .int), { frames := 1, cells := 0, slots := 0, locals := 21 }, 0, 0)
def fX1_pictureCell (q0 : Nat) (a1 : Int32) (a2 : Int32) (σ : Sto) : Option Int32 :=
  if (fX1_isFar q0 a1) = true then
    some (-1)
  else
    if (fX1_isFar q0 a2) = true then
      some (-1)
    else
      (fX1_isInPicture q0 (fX1_cellAt a1 a2) σ).bind fun r1 =>
      if r1 = true then
        some (fX1_cellAt a1 a2)
      else
        some (-1)
set_option maxHeartbeats 4000000 in
set_option maxRecDepth 100000 in
theorem tX1_pictureCell (sh : KSh) (hw : KWf sh) (l : Launch) (hst : l.stackTraces = false) (q0 : Nat) (h0 : sh q0 = .inl 1) (a1 : Int32) (a2 : Int32) (σ : Sto) (r : Int32) (h : fX1_pictureCell q0 a1 a2 σ = some r) : CT sh l mX1_pictureCell yX1_pictureCell [.ref q0, .int a1, .int a2] σ (0, .int r, σ) := by
  refine kct [(0, .ref q0), (1, .int a1), (2, .int a2)] hst (by decide +kernel) rfl rfl (Nat.le_of_ble_eq_true rfl) ?_
  rw [fX1_pictureCell] at h
  refine kv_aload_n (pc := 0) 0 dX1_pictureCell_0 rfl rfl ?_
  refine kv_iload_n (pc := 1) 1 dX1_pictureCell_1 rfl rfl ?_
  refine kv_tV (pc := 2) (v := .int (kb (fX1_isFar q0 a1))) [.int a1] (.int (kb (fX1_isFar q0 a1)) :: []) 5 0 0 (tX1_isFar sh hw l hst q0 h0 a1 σ) dX1_pictureCell_2 rfl h0 rfl yw_X1_isFar lk_X1_59 (by decide) (Nat.le_of_ble_eq_true rfl) (by decide) rfl ⟨rfl, rfl, rfl⟩ ?_
  refine kv_ifb_ne (pc := 5) (tgt := 16) dX1_pictureCell_5 (by decide) h (fun h => ?_) (fun h => ?_)
  · refine kv_iconst (pc := 16) (v := (-1)) dX1_pictureCell_16 (by decide) ?_
    exact kv_iret (pc := 17) dX1_pictureCell_17 rfl (by cases h; rfl) (by decide) (by decide)
  · refine kv_aload_n (pc := 8) 0 dX1_pictureCell_8 rfl rfl ?_
    refine kv_iload_n (pc := 9) 2 dX1_pictureCell_9 rfl rfl ?_
    refine kv_tV (pc := 10) (v := .int (kb (fX1_isFar q0 a2))) [.int a2] (.int (kb (fX1_isFar q0 a2)) :: []) 13 0 0 (tX1_isFar sh hw l hst q0 h0 a2 σ) dX1_pictureCell_10 rfl h0 rfl yw_X1_isFar lk_X1_59 (by decide) (Nat.le_of_ble_eq_true rfl) (by decide) rfl ⟨rfl, rfl, rfl⟩ ?_
    refine kv_ifb_eq (pc := 13) (tgt := 18) dX1_pictureCell_13 (by decide) h (fun h => ?_) (fun h => ?_)
    · refine kv_iload_n (pc := 18) 1 dX1_pictureCell_18 rfl rfl ?_
      refine kv_iload_n (pc := 19) 2 dX1_pictureCell_19 rfl rfl ?_
      refine kv_tS (pc := 20) (v := .int (fX1_cellAt a1 a2)) [.int a1, .int a2] (.int (fX1_cellAt a1 a2) :: []) 23 0 0 (tX1_cellAt sh hw l hst a1 a2 σ) dX1_pictureCell_20 rfl yw_X1_cellAt lk_X1_63 (by decide) (Nat.le_of_ble_eq_true rfl) (by decide) rfl ⟨rfl, rfl, rfl⟩ ?_
      refine kv_istore_n (pc := 23) [(3, .int (fX1_cellAt a1 a2)), (0, .ref q0), (1, .int a1), (2, .int a2)] dX1_pictureCell_23 rfl (by decide) rfl ?_
      refine kv_aload_n (pc := 24) 1 dX1_pictureCell_24 rfl rfl ?_
      refine kv_iload_n (pc := 25) 0 dX1_pictureCell_25 rfl rfl ?_
      refine kv_cV (pc := 26) [.int (fX1_cellAt a1 a2)] (fun r1 => (0, .int (kb r1), σ)) (fun r1 => (.int (kb r1) :: [])) (fun r1 => σ) 29 0 0 h (fun r1 g2 => tX1_isInPicture sh hw l hst q0 h0 (fX1_cellAt a1 a2) σ r1 g2) dX1_pictureCell_26 rfl h0 rfl yw_X1_isInPicture lk_X1_66 (by decide) (Nat.le_of_ble_eq_true rfl) (by decide) (fun _ => rfl) (fun _ => rfl) ⟨rfl, rfl, rfl⟩ (fun _ _ h0 => absurd rfl h0) (fun r1 g2 z3 h => ?_)
      refine kv_ifb_eq (pc := 29) (tgt := 36) dX1_pictureCell_29 (by decide) h (fun h => ?_) (fun h => ?_)
      · refine kv_iconst (pc := 36) (v := (-1)) dX1_pictureCell_36 (by decide) ?_
        exact kv_iret (pc := 37) dX1_pictureCell_37 rfl (by cases h; rfl) (by decide) (by decide)
      · refine kv_iload_n (pc := 32) 0 dX1_pictureCell_32 rfl rfl ?_
        refine kv_goto (pc := 33) (tgt := 37) dX1_pictureCell_33 (by decide) ?_
        exact kv_iret (pc := 37) dX1_pictureCell_37 rfl (by cases h; rfl) (by decide) (by decide)
    · refine kv_iconst (pc := 16) (v := (-1)) dX1_pictureCell_16 (by decide) ?_
      exact kv_iret (pc := 17) dX1_pictureCell_17 rfl (by cases h; rfl) (by decide) (by decide)
theorem yw_X1_pictureCell : KMV yX1_pictureCell mX1_pictureCell RX1 2 := ⟨⟨rfl, by decide +kernel, by decide +kernel, by decide +kernel⟩, ⟨rfl, rfl⟩, kg_in 466 (by decide +kernel) (by decide +kernel), kg_in 467 (by decide +kernel) (by decide +kernel), kg_in 49 (by decide +kernel) (by decide +kernel), kg_in 468 (by decide +kernel) (by decide +kernel)⟩
theorem dX1_boxCell_0 : decode cX1_boxCell 0 = .ok (.aload_n 0, 1) := by decide +kernel
theorem dX1_boxCell_1 : decode cX1_boxCell 1 = .ok (.iload_n 1, 1) := by decide +kernel
theorem dX1_boxCell_2 : decode cX1_boxCell 2 = .ok (.iload_n 2, 1) := by decide +kernel
theorem dX1_boxCell_3 : decode cX1_boxCell 3 = .ok (.invokevirtual 69, 3) := by decide +kernel
theorem dX1_boxCell_6 : decode cX1_boxCell 6 = .ok (.istore_n 3, 1) := by decide +kernel
theorem dX1_boxCell_7 : decode cX1_boxCell 7 = .ok (.aload_n 0, 1) := by decide +kernel
theorem dX1_boxCell_8 : decode cX1_boxCell 8 = .ok (.iload_n 3, 1) := by decide +kernel
theorem dX1_boxCell_9 : decode cX1_boxCell 9 = .ok (.invokevirtual 72, 3) := by decide +kernel
theorem dX1_boxCell_12 : decode cX1_boxCell 12 = .ok (.ifCond .eq 7, 3) := by decide +kernel
theorem dX1_boxCell_15 : decode cX1_boxCell 15 = .ok (.iload_n 3, 1) := by decide +kernel
theorem dX1_boxCell_16 : decode cX1_boxCell 16 = .ok (.goto 4, 3) := by decide +kernel
theorem dX1_boxCell_19 : decode cX1_boxCell 19 = .ok (.iconst (-1), 1) := by decide +kernel
theorem dX1_boxCell_20 : decode cX1_boxCell 20 = .ok (.ireturn, 1) := by decide +kernel
abbrev mX1_boxCell : KM := (RX1, cX1_boxCell, 4, (some .int), { frames := 2, cells := 0, slots := 0, locals := 44 }, 0, 0)
def fX1_boxCell (q0 : Nat) (a1 : Int32) (a2 : Int32) (σ : Sto) : Option Int32 :=
  (fX1_pictureCell q0 a1 a2 σ).bind fun r1 =>
  (fX1_isInBox q0 r1 σ).bind fun r4 =>
  if r4 = true then
    some r1
  else
    some (-1)
set_option maxHeartbeats 4000000 in
set_option maxRecDepth 100000 in
theorem tX1_boxCell (sh : KSh) (hw : KWf sh) (l : Launch) (hst : l.stackTraces = false) (q0 : Nat) (h0 : sh q0 = .inl 1) (a1 : Int32) (a2 : Int32) (σ : Sto) (r : Int32) (h : fX1_boxCell q0 a1 a2 σ = some r) : CT sh l mX1_boxCell yX1_boxCell [.ref q0, .int a1, .int a2] σ (0, .int r, σ) := by
  refine kct [(0, .ref q0), (1, .int a1), (2, .int a2)] hst (by decide +kernel) rfl rfl (Nat.le_of_ble_eq_true rfl) ?_
  rw [fX1_boxCell] at h
  refine kv_aload_n (pc := 0) 0 dX1_boxCell_0 rfl rfl ?_
  refine kv_iload_n (pc := 1) 1 dX1_boxCell_1 rfl rfl ?_
  refine kv_iload_n (pc := 2) 2 dX1_boxCell_2 rfl rfl ?_
  refine kv_cV (pc := 3) [.int a1, .int a2] (fun r1 => (0, .int r1, σ)) (fun r1 => (.int r1 :: [])) (fun r1 => σ) 6 0 0 h (fun r1 g2 => tX1_pictureCell sh hw l hst q0 h0 a1 a2 σ r1 g2) dX1_boxCell_3 rfl h0 rfl yw_X1_pictureCell lk_X1_69 (by decide) (Nat.le_of_ble_eq_true rfl) (by decide) (fun _ => rfl) (fun _ => rfl) ⟨rfl, rfl, rfl⟩ (fun _ _ h0 => absurd rfl h0) (fun r1 g2 z3 h => ?_)
  refine kv_istore_n (pc := 6) [(3, .int r1), (0, .ref q0), (1, .int a1), (2, .int a2)] dX1_boxCell_6 rfl (by decide) rfl ?_
  refine kv_aload_n (pc := 7) 1 dX1_boxCell_7 rfl rfl ?_
  refine kv_iload_n (pc := 8) 0 dX1_boxCell_8 rfl rfl ?_
  refine kv_cV (pc := 9) [.int r1] (fun r4 => (0, .int (kb r4), σ)) (fun r4 => (.int (kb r4) :: [])) (fun r4 => σ) 12 0 0 h (fun r4 g5 => tX1_isInBox sh hw l hst q0 h0 r1 σ r4 g5) dX1_boxCell_9 rfl h0 rfl yw_X1_isInBox lk_X1_72 (by decide) (Nat.le_of_ble_eq_true rfl) (by decide) (fun _ => rfl) (fun _ => rfl) ⟨rfl, rfl, rfl⟩ (fun _ _ h0 => absurd rfl h0) (fun r4 g5 z6 h => ?_)
  refine kv_ifb_eq (pc := 12) (tgt := 19) dX1_boxCell_12 (by decide) h (fun h => ?_) (fun h => ?_)
  · refine kv_iconst (pc := 19) (v := (-1)) dX1_boxCell_19 (by decide) ?_
    exact kv_iret (pc := 20) dX1_boxCell_20 rfl (by cases h; rfl) (by decide) (by decide)
  · refine kv_iload_n (pc := 15) 0 dX1_boxCell_15 rfl rfl ?_
    refine kv_goto (pc := 16) (tgt := 20) dX1_boxCell_16 (by decide) ?_
    exact kv_iret (pc := 20) dX1_boxCell_20 rfl (by cases h; rfl) (by decide) (by decide)
theorem yw_X1_boxCell : KMV yX1_boxCell mX1_boxCell RX1 2 := ⟨⟨rfl, by decide +kernel, by decide +kernel, by decide +kernel⟩, ⟨rfl, rfl⟩, kg_in 462 (by decide +kernel) (by decide +kernel), kg_in 463 (by decide +kernel) (by decide +kernel), kg_in 49 (by decide +kernel) (by decide +kernel), kg_in 464 (by decide +kernel) (by decide +kernel)⟩
theorem dX1_pictureCells_0 : decode cX1_pictureCells 0 = .ok (.iconst 0, 1) := by decide +kernel
theorem dX1_pictureCells_1 : decode cX1_pictureCells 1 = .ok (.istore_n 1, 1) := by decide +kernel
theorem dX1_pictureCells_2 : decode cX1_pictureCells 2 = .ok (.iconst 0, 1) := by decide +kernel
theorem dX1_pictureCells_3 : decode cX1_pictureCells 3 = .ok (.istore_n 2, 1) := by decide +kernel
theorem dX1_pictureCells_4 : decode cX1_pictureCells 4 = .ok (.iload_n 2, 1) := by decide +kernel
theorem dX1_pictureCells_5 : decode cX1_pictureCells 5 = .ok (.sipush 225, 3) := by decide +kernel
theorem dX1_pictureCells_8 : decode cX1_pictureCells 8 = .ok (.if_icmp .ge 20, 3) := by decide +kernel
theorem dX1_pictureCells_11 : decode cX1_pictureCells 11 = .ok (.aload_n 0, 1) := by decide +kernel
theorem dX1_pictureCells_12 : decode cX1_pictureCells 12 = .ok (.iload_n 2, 1) := by decide +kernel
theorem dX1_pictureCells_13 : decode cX1_pictureCells 13 = .ok (.invokevirtual 66, 3) := by decide +kernel
theorem dX1_pictureCells_16 : decode cX1_pictureCells 16 = .ok (.ifCond .eq 6, 3) := by decide +kernel
theorem dX1_pictureCells_19 : decode cX1_pictureCells 19 = .ok (.iinc 1 1, 3) := by decide +kernel
theorem dX1_pictureCells_22 : decode cX1_pictureCells 22 = .ok (.iinc 2 1, 3) := by decide +kernel
theorem dX1_pictureCells_25 : decode cX1_pictureCells 25 = .ok (.goto (-21), 3) := by decide +kernel
theorem dX1_pictureCells_28 : decode cX1_pictureCells 28 = .ok (.iload_n 1, 1) := by decide +kernel
theorem dX1_pictureCells_29 : decode cX1_pictureCells 29 = .ok (.ireturn, 1) := by decide +kernel
abbrev mX1_pictureCells : KM := (RX1, cX1_pictureCells, 3, (some .int), { frames := 1, cells := 0, slots := 0, locals := 21 }, 0, 0)
def fX1_pictureCells_L22 (q0 : Nat) (K4 : Int32 → Int32 → Sto → Option Int32) (v1 : Int32) (v2 : Int32) (σ : Sto) : Option Int32 :=
  K4 v1 (v2 + 1) σ
def fX1_pictureCells_L4 (q0 : Nat) : Nat → Int32 → Int32 → Sto → Option Int32
  | 0, _, _, _ => none
  | fu + 1, v1, v2, σ =>
    if 225 ≤ v2 then
      some v1
    else
      (fX1_isInPicture q0 v2 σ).bind fun r1 =>
      if r1 = true then
        fX1_pictureCells_L22 q0 (fX1_pictureCells_L4 q0 fu) (v1 + 1) v2 σ
      else
        fX1_pictureCells_L22 q0 (fX1_pictureCells_L4 q0 fu) v1 v2 σ
def fX1_pictureCells (q0 : Nat) (σ : Sto) : Option Int32 :=
  fX1_pictureCells_L4 q0 kFU 0 0 σ
set_option maxHeartbeats 4000000 in
set_option maxRecDepth 100000 in
theorem wX1_pictureCells_L22 (sh : KSh) (hw : KWf sh) (l : Launch) (hst : l.stackTraces = false) (q0 : Nat) (h0 : sh q0 = .inl 1) (K4 : Int32 → Int32 → Sto → Option Int32) (hK4 : ∀ (v1 : Int32), ∀ (v2 : Int32), ∀ (σ : Sto), ∀ (r : Int32), K4 v1 v2 σ = some r → VV sh l mX1_pictureCells 0 0 4 [(0, .ref q0), (1, .int v1), (2, .int v2)] [] σ (0, .int r, σ)) : ∀ (v1 : Int32), ∀ (v2 : Int32), ∀ (σ : Sto), ∀ (r : Int32), fX1_pictureCells_L22 q0 K4 v1 v2 σ = some r → VV sh l mX1_pictureCells 0 0 22 [(0, .ref q0), (1, .int v1), (2, .int v2)] [] σ (0, .int r, σ) := by
  intro v1 v2 σ r h
  rw [fX1_pictureCells_L22] at h
  refine kv_iinc (pc := 22) (v := v2 + 1) 2 [(2, .int (v2 + 1)), (0, .ref q0), (1, .int v1)] dX1_pictureCells_22 rfl rfl (by decide) rfl ?_
  refine kv_goto (pc := 25) (tgt := 4) dX1_pictureCells_25 (by decide) ?_
  refine kv_sub (pc := 4) [(0, .ref q0), (1, .int v1), (2, .int (v2 + 1))] [1, 2, 0] rfl ?_
  exact hK4 v1 (v2 + 1) σ r h
set_option maxHeartbeats 4000000 in
set_option maxRecDepth 100000 in
theorem wX1_pictureCells_L4 (sh : KSh) (hw : KWf sh) (l : Launch) (hst : l.stackTraces = false) (q0 : Nat) (h0 : sh q0 = .inl 1) : ∀ (fu : Nat), ∀ (v1 : Int32), ∀ (v2 : Int32), ∀ (σ : Sto), ∀ (r : Int32), fX1_pictureCells_L4 q0 fu v1 v2 σ = some r → VV sh l mX1_pictureCells 0 0 4 [(0, .ref q0), (1, .int v1), (2, .int v2)] [] σ (0, .int r, σ) := by
  intro fu
  induction fu with
  | zero => intro v1 v2 σ r h; rw [fX1_pictureCells_L4] at h; cases h
  | succ fu ih =>
    intro v1 v2 σ r h
    rw [fX1_pictureCells_L4] at h
    refine kv_iload_n (pc := 4) 2 dX1_pictureCells_4 rfl rfl ?_
    refine kv_sipush (pc := 5) (v := 225) dX1_pictureCells_5 (by decide) ?_
    refine kv_icmp_ge (pc := 8) (tgt := 28) dX1_pictureCells_8 (by decide) h (fun h => ?_) (fun h => ?_)
    · refine kv_iload_n (pc := 28) 1 dX1_pictureCells_28 rfl rfl ?_
      exact kv_iret (pc := 29) dX1_pictureCells_29 rfl (by cases h; rfl) (by decide) (by decide)
    · refine kv_aload_n (pc := 11) 0 dX1_pictureCells_11 rfl rfl ?_
      refine kv_iload_n (pc := 12) 2 dX1_pictureCells_12 rfl rfl ?_
      refine kv_cV (pc := 13) [.int v2] (fun r1 => (0, .int (kb r1), σ)) (fun r1 => (.int (kb r1) :: [])) (fun r1 => σ) 16 0 0 h (fun r1 g2 => tX1_isInPicture sh hw l hst q0 h0 v2 σ r1 g2) dX1_pictureCells_13 rfl h0 rfl yw_X1_isInPicture lk_X1_66 (by decide) (Nat.le_of_ble_eq_true rfl) (by decide) (fun _ => rfl) (fun _ => rfl) ⟨rfl, rfl, rfl⟩ (fun _ _ h0 => absurd rfl h0) (fun r1 g2 z3 h => ?_)
      refine kv_ifb_eq (pc := 16) (tgt := 22) dX1_pictureCells_16 (by decide) h (fun h => ?_) (fun h => ?_)
      · refine kv_sub (pc := 22) [(0, .ref q0), (1, .int v1), (2, .int v2)] [0, 1, 2] rfl ?_
        exact wX1_pictureCells_L22 sh hw l hst q0 h0 (fX1_pictureCells_L4 q0 fu) ih v1 v2 σ r h
      · refine kv_iinc (pc := 19) (v := v1 + 1) 1 [(1, .int (v1 + 1)), (0, .ref q0), (2, .int v2)] dX1_pictureCells_19 rfl rfl (by decide) rfl ?_
        refine kv_sub (pc := 22) [(0, .ref q0), (1, .int (v1 + 1)), (2, .int v2)] [1, 0, 2] rfl ?_
        exact wX1_pictureCells_L22 sh hw l hst q0 h0 (fX1_pictureCells_L4 q0 fu) ih (v1 + 1) v2 σ r h
set_option maxHeartbeats 4000000 in
set_option maxRecDepth 100000 in
theorem tX1_pictureCells (sh : KSh) (hw : KWf sh) (l : Launch) (hst : l.stackTraces = false) (q0 : Nat) (h0 : sh q0 = .inl 1) (σ : Sto) (r : Int32) (h : fX1_pictureCells q0 σ = some r) : CT sh l mX1_pictureCells yX1_pictureCells [.ref q0] σ (0, .int r, σ) := by
  refine kct [(0, .ref q0)] hst (by decide +kernel) rfl rfl (Nat.le_of_ble_eq_true rfl) ?_
  rw [fX1_pictureCells] at h
  refine kv_iconst (pc := 0) (v := 0) dX1_pictureCells_0 (by decide) ?_
  refine kv_istore_n (pc := 1) [(1, .int 0), (0, .ref q0)] dX1_pictureCells_1 rfl (by decide) rfl ?_
  refine kv_iconst (pc := 2) (v := 0) dX1_pictureCells_2 (by decide) ?_
  refine kv_istore_n (pc := 3) [(2, .int 0), (1, .int 0), (0, .ref q0)] dX1_pictureCells_3 rfl (by decide) rfl ?_
  refine kv_sub (pc := 4) [(0, .ref q0), (1, .int 0), (2, .int 0)] [2, 1, 0] rfl ?_
  exact wX1_pictureCells_L4 sh hw l hst q0 h0 kFU 0 0 σ r h
theorem yw_X1_pictureCells : KMV yX1_pictureCells mX1_pictureCells RX1 0 := ⟨⟨rfl, by decide +kernel, by decide +kernel, by decide +kernel⟩, ⟨rfl, rfl⟩, kg_in 630 (by decide +kernel) (by decide +kernel), kg_in 631 (by decide +kernel) (by decide +kernel), kg_in 49 (by decide +kernel) (by decide +kernel), kg_in 632 (by decide +kernel) (by decide +kernel)⟩
theorem dX1_boxCells_0 : decode cX1_boxCells 0 = .ok (.iconst 0, 1) := by decide +kernel
theorem dX1_boxCells_1 : decode cX1_boxCells 1 = .ok (.istore_n 1, 1) := by decide +kernel
theorem dX1_boxCells_2 : decode cX1_boxCells 2 = .ok (.iconst 0, 1) := by decide +kernel
theorem dX1_boxCells_3 : decode cX1_boxCells 3 = .ok (.istore_n 2, 1) := by decide +kernel
theorem dX1_boxCells_4 : decode cX1_boxCells 4 = .ok (.iload_n 2, 1) := by decide +kernel
theorem dX1_boxCells_5 : decode cX1_boxCells 5 = .ok (.sipush 225, 3) := by decide +kernel
theorem dX1_boxCells_8 : decode cX1_boxCells 8 = .ok (.if_icmp .ge 20, 3) := by decide +kernel
theorem dX1_boxCells_11 : decode cX1_boxCells 11 = .ok (.aload_n 0, 1) := by decide +kernel
theorem dX1_boxCells_12 : decode cX1_boxCells 12 = .ok (.iload_n 2, 1) := by decide +kernel
theorem dX1_boxCells_13 : decode cX1_boxCells 13 = .ok (.invokevirtual 72, 3) := by decide +kernel
theorem dX1_boxCells_16 : decode cX1_boxCells 16 = .ok (.ifCond .eq 6, 3) := by decide +kernel
theorem dX1_boxCells_19 : decode cX1_boxCells 19 = .ok (.iinc 1 1, 3) := by decide +kernel
theorem dX1_boxCells_22 : decode cX1_boxCells 22 = .ok (.iinc 2 1, 3) := by decide +kernel
theorem dX1_boxCells_25 : decode cX1_boxCells 25 = .ok (.goto (-21), 3) := by decide +kernel
theorem dX1_boxCells_28 : decode cX1_boxCells 28 = .ok (.iload_n 1, 1) := by decide +kernel
theorem dX1_boxCells_29 : decode cX1_boxCells 29 = .ok (.ireturn, 1) := by decide +kernel
abbrev mX1_boxCells : KM := (RX1, cX1_boxCells, 3, (some .int), { frames := 1, cells := 0, slots := 0, locals := 21 }, 0, 0)
def fX1_boxCells_L22 (q0 : Nat) (K4 : Int32 → Int32 → Sto → Option Int32) (v1 : Int32) (v2 : Int32) (σ : Sto) : Option Int32 :=
  K4 v1 (v2 + 1) σ
def fX1_boxCells_L4 (q0 : Nat) : Nat → Int32 → Int32 → Sto → Option Int32
  | 0, _, _, _ => none
  | fu + 1, v1, v2, σ =>
    if 225 ≤ v2 then
      some v1
    else
      (fX1_isInBox q0 v2 σ).bind fun r1 =>
      if r1 = true then
        fX1_boxCells_L22 q0 (fX1_boxCells_L4 q0 fu) (v1 + 1) v2 σ
      else
        fX1_boxCells_L22 q0 (fX1_boxCells_L4 q0 fu) v1 v2 σ
def fX1_boxCells (q0 : Nat) (σ : Sto) : Option Int32 :=
  fX1_boxCells_L4 q0 kFU 0 0 σ
set_option maxHeartbeats 4000000 in
set_option maxRecDepth 100000 in
theorem wX1_boxCells_L22 (sh : KSh) (hw : KWf sh) (l : Launch) (hst : l.stackTraces = false) (q0 : Nat) (h0 : sh q0 = .inl 1) (K4 : Int32 → Int32 → Sto → Option Int32) (hK4 : ∀ (v1 : Int32), ∀ (v2 : Int32), ∀ (σ : Sto), ∀ (r : Int32), K4 v1 v2 σ = some r → VV sh l mX1_boxCells 0 0 4 [(0, .ref q0), (1, .int v1), (2, .int v2)] [] σ (0, .int r, σ)) : ∀ (v1 : Int32), ∀ (v2 : Int32), ∀ (σ : Sto), ∀ (r : Int32), fX1_boxCells_L22 q0 K4 v1 v2 σ = some r → VV sh l mX1_boxCells 0 0 22 [(0, .ref q0), (1, .int v1), (2, .int v2)] [] σ (0, .int r, σ) := by
  intro v1 v2 σ r h
  rw [fX1_boxCells_L22] at h
  refine kv_iinc (pc := 22) (v := v2 + 1) 2 [(2, .int (v2 + 1)), (0, .ref q0), (1, .int v1)] dX1_boxCells_22 rfl rfl (by decide) rfl ?_
  refine kv_goto (pc := 25) (tgt := 4) dX1_boxCells_25 (by decide) ?_
  refine kv_sub (pc := 4) [(0, .ref q0), (1, .int v1), (2, .int (v2 + 1))] [1, 2, 0] rfl ?_
  exact hK4 v1 (v2 + 1) σ r h
set_option maxHeartbeats 4000000 in
set_option maxRecDepth 100000 in
theorem wX1_boxCells_L4 (sh : KSh) (hw : KWf sh) (l : Launch) (hst : l.stackTraces = false) (q0 : Nat) (h0 : sh q0 = .inl 1) : ∀ (fu : Nat), ∀ (v1 : Int32), ∀ (v2 : Int32), ∀ (σ : Sto), ∀ (r : Int32), fX1_boxCells_L4 q0 fu v1 v2 σ = some r → VV sh l mX1_boxCells 0 0 4 [(0, .ref q0), (1, .int v1), (2, .int v2)] [] σ (0, .int r, σ) := by
  intro fu
  induction fu with
  | zero => intro v1 v2 σ r h; rw [fX1_boxCells_L4] at h; cases h
  | succ fu ih =>
    intro v1 v2 σ r h
    rw [fX1_boxCells_L4] at h
    refine kv_iload_n (pc := 4) 2 dX1_boxCells_4 rfl rfl ?_
    refine kv_sipush (pc := 5) (v := 225) dX1_boxCells_5 (by decide) ?_
    refine kv_icmp_ge (pc := 8) (tgt := 28) dX1_boxCells_8 (by decide) h (fun h => ?_) (fun h => ?_)
    · refine kv_iload_n (pc := 28) 1 dX1_boxCells_28 rfl rfl ?_
      exact kv_iret (pc := 29) dX1_boxCells_29 rfl (by cases h; rfl) (by decide) (by decide)
    · refine kv_aload_n (pc := 11) 0 dX1_boxCells_11 rfl rfl ?_
      refine kv_iload_n (pc := 12) 2 dX1_boxCells_12 rfl rfl ?_
      refine kv_cV (pc := 13) [.int v2] (fun r1 => (0, .int (kb r1), σ)) (fun r1 => (.int (kb r1) :: [])) (fun r1 => σ) 16 0 0 h (fun r1 g2 => tX1_isInBox sh hw l hst q0 h0 v2 σ r1 g2) dX1_boxCells_13 rfl h0 rfl yw_X1_isInBox lk_X1_72 (by decide) (Nat.le_of_ble_eq_true rfl) (by decide) (fun _ => rfl) (fun _ => rfl) ⟨rfl, rfl, rfl⟩ (fun _ _ h0 => absurd rfl h0) (fun r1 g2 z3 h => ?_)
      refine kv_ifb_eq (pc := 16) (tgt := 22) dX1_boxCells_16 (by decide) h (fun h => ?_) (fun h => ?_)
      · refine kv_sub (pc := 22) [(0, .ref q0), (1, .int v1), (2, .int v2)] [0, 1, 2] rfl ?_
        exact wX1_boxCells_L22 sh hw l hst q0 h0 (fX1_boxCells_L4 q0 fu) ih v1 v2 σ r h
      · refine kv_iinc (pc := 19) (v := v1 + 1) 1 [(1, .int (v1 + 1)), (0, .ref q0), (2, .int v2)] dX1_boxCells_19 rfl rfl (by decide) rfl ?_
        refine kv_sub (pc := 22) [(0, .ref q0), (1, .int (v1 + 1)), (2, .int v2)] [1, 0, 2] rfl ?_
        exact wX1_boxCells_L22 sh hw l hst q0 h0 (fX1_boxCells_L4 q0 fu) ih (v1 + 1) v2 σ r h
set_option maxHeartbeats 4000000 in
set_option maxRecDepth 100000 in
theorem tX1_boxCells (sh : KSh) (hw : KWf sh) (l : Launch) (hst : l.stackTraces = false) (q0 : Nat) (h0 : sh q0 = .inl 1) (σ : Sto) (r : Int32) (h : fX1_boxCells q0 σ = some r) : CT sh l mX1_boxCells yX1_boxCells [.ref q0] σ (0, .int r, σ) := by
  refine kct [(0, .ref q0)] hst (by decide +kernel) rfl rfl (Nat.le_of_ble_eq_true rfl) ?_
  rw [fX1_boxCells] at h
  refine kv_iconst (pc := 0) (v := 0) dX1_boxCells_0 (by decide) ?_
  refine kv_istore_n (pc := 1) [(1, .int 0), (0, .ref q0)] dX1_boxCells_1 rfl (by decide) rfl ?_
  refine kv_iconst (pc := 2) (v := 0) dX1_boxCells_2 (by decide) ?_
  refine kv_istore_n (pc := 3) [(2, .int 0), (1, .int 0), (0, .ref q0)] dX1_boxCells_3 rfl (by decide) rfl ?_
  refine kv_sub (pc := 4) [(0, .ref q0), (1, .int 0), (2, .int 0)] [2, 1, 0] rfl ?_
  exact wX1_boxCells_L4 sh hw l hst q0 h0 kFU 0 0 σ r h
theorem yw_X1_boxCells : KMV yX1_boxCells mX1_boxCells RX1 0 := ⟨⟨rfl, by decide +kernel, by decide +kernel, by decide +kernel⟩, ⟨rfl, rfl⟩, kg_in 626 (by decide +kernel) (by decide +kernel), kg_in 627 (by decide +kernel) (by decide +kernel), kg_in 49 (by decide +kernel) (by decide +kernel), kg_in 628 (by decide +kernel) (by decide +kernel)⟩
theorem dX1_pictureNeighbour_0 : decode cX1_pictureNeighbour 0 = .ok (.aload_n 0, 1) := by decide +kernel
theorem dX1_pictureNeighbour_1 : decode cX1_pictureNeighbour 1 = .ok (.iload_n 1, 1) := by decide +kernel
theorem dX1_pictureNeighbour_2 : decode cX1_pictureNeighbour 2 = .ok (.iload_n 2, 1) := by decide +kernel
theorem dX1_pictureNeighbour_3 : decode cX1_pictureNeighbour 3 = .ok (.invokevirtual 93, 3) := by decide +kernel
theorem dX1_pictureNeighbour_6 : decode cX1_pictureNeighbour 6 = .ok (.istore_n 3, 1) := by decide +kernel
theorem dX1_pictureNeighbour_7 : decode cX1_pictureNeighbour 7 = .ok (.aload_n 0, 1) := by decide +kernel
theorem dX1_pictureNeighbour_8 : decode cX1_pictureNeighbour 8 = .ok (.iload_n 3, 1) := by decide +kernel
theorem dX1_pictureNeighbour_9 : decode cX1_pictureNeighbour 9 = .ok (.invokevirtual 66, 3) := by decide +kernel
theorem dX1_pictureNeighbour_12 : decode cX1_pictureNeighbour 12 = .ok (.ifCond .eq 7, 3) := by decide +kernel
theorem dX1_pictureNeighbour_15 : decode cX1_pictureNeighbour 15 = .ok (.iload_n 3, 1) := by decide +kernel
theorem dX1_pictureNeighbour_16 : decode cX1_pictureNeighbour 16 = .ok (.goto 4, 3) := by decide +kernel
theorem dX1_pictureNeighbour_19 : decode cX1_pictureNeighbour 19 = .ok (.iconst (-1), 1) := by decide +kernel
theorem dX1_pictureNeighbour_20 : decode cX1_pictureNeighbour 20 = .ok (.ireturn, 1) := by decide +kernel
abbrev mX1_pictureNeighbour : KM := (RX1, cX1_pictureNeighbour, 4, (some .int), { frames := 2, cells := 0, slots := 0, locals := 44 }, 0, 0)
def fX1_pictureNeighbour (q0 : Nat) (a1 : Int32) (a2 : Int32) (σ : Sto) : Option Int32 :=
  (fX1_neighbour q0 a1 a2 σ).bind fun r1 =>
  (fX1_isInPicture q0 r1 σ).bind fun r4 =>
  if r4 = true then
    some r1
  else
    some (-1)
set_option maxHeartbeats 4000000 in
set_option maxRecDepth 100000 in
theorem tX1_pictureNeighbour (sh : KSh) (hw : KWf sh) (l : Launch) (hst : l.stackTraces = false) (q0 : Nat) (h0 : sh q0 = .inl 1) (a1 : Int32) (a2 : Int32) (σ : Sto) (r : Int32) (h : fX1_pictureNeighbour q0 a1 a2 σ = some r) : CT sh l mX1_pictureNeighbour yX1_pictureNeighbour [.ref q0, .int a1, .int a2] σ (0, .int r, σ) := by
  refine kct [(0, .ref q0), (1, .int a1), (2, .int a2)] hst (by decide +kernel) rfl rfl (Nat.le_of_ble_eq_true rfl) ?_
  rw [fX1_pictureNeighbour] at h
  refine kv_aload_n (pc := 0) 0 dX1_pictureNeighbour_0 rfl rfl ?_
  refine kv_iload_n (pc := 1) 1 dX1_pictureNeighbour_1 rfl rfl ?_
  refine kv_iload_n (pc := 2) 2 dX1_pictureNeighbour_2 rfl rfl ?_
  refine kv_cV (pc := 3) [.int a1, .int a2] (fun r1 => (0, .int r1, σ)) (fun r1 => (.int r1 :: [])) (fun r1 => σ) 6 0 0 h (fun r1 g2 => tX1_neighbour sh hw l hst q0 h0 a1 a2 σ r1 g2) dX1_pictureNeighbour_3 rfl h0 rfl yw_X1_neighbour lk_X1_93 (by decide) (Nat.le_of_ble_eq_true rfl) (by decide) (fun _ => rfl) (fun _ => rfl) ⟨rfl, rfl, rfl⟩ (fun _ _ h0 => absurd rfl h0) (fun r1 g2 z3 h => ?_)
  refine kv_istore_n (pc := 6) [(3, .int r1), (0, .ref q0), (1, .int a1), (2, .int a2)] dX1_pictureNeighbour_6 rfl (by decide) rfl ?_
  refine kv_aload_n (pc := 7) 1 dX1_pictureNeighbour_7 rfl rfl ?_
  refine kv_iload_n (pc := 8) 0 dX1_pictureNeighbour_8 rfl rfl ?_
  refine kv_cV (pc := 9) [.int r1] (fun r4 => (0, .int (kb r4), σ)) (fun r4 => (.int (kb r4) :: [])) (fun r4 => σ) 12 0 0 h (fun r4 g5 => tX1_isInPicture sh hw l hst q0 h0 r1 σ r4 g5) dX1_pictureNeighbour_9 rfl h0 rfl yw_X1_isInPicture lk_X1_66 (by decide) (Nat.le_of_ble_eq_true rfl) (by decide) (fun _ => rfl) (fun _ => rfl) ⟨rfl, rfl, rfl⟩ (fun _ _ h0 => absurd rfl h0) (fun r4 g5 z6 h => ?_)
  refine kv_ifb_eq (pc := 12) (tgt := 19) dX1_pictureNeighbour_12 (by decide) h (fun h => ?_) (fun h => ?_)
  · refine kv_iconst (pc := 19) (v := (-1)) dX1_pictureNeighbour_19 (by decide) ?_
    exact kv_iret (pc := 20) dX1_pictureNeighbour_20 rfl (by cases h; rfl) (by decide) (by decide)
  · refine kv_iload_n (pc := 15) 0 dX1_pictureNeighbour_15 rfl rfl ?_
    refine kv_goto (pc := 16) (tgt := 20) dX1_pictureNeighbour_16 (by decide) ?_
    exact kv_iret (pc := 20) dX1_pictureNeighbour_20 rfl (by cases h; rfl) (by decide) (by decide)
theorem yw_X1_pictureNeighbour : KMV yX1_pictureNeighbour mX1_pictureNeighbour RX1 2 := ⟨⟨rfl, by decide +kernel, by decide +kernel, by decide +kernel⟩, ⟨rfl, rfl⟩, kg_in 711 (by decide +kernel) (by decide +kernel), kg_in 712 (by decide +kernel) (by decide +kernel), kg_in 49 (by decide +kernel) (by decide +kernel), kg_in 713 (by decide +kernel) (by decide +kernel)⟩
theorem dX1_mirrorCell_0 : decode cX1_mirrorCell 0 = .ok (.iload_n 2, 1) := by decide +kernel
theorem dX1_mirrorCell_1 : decode cX1_mirrorCell 1 = .ok (.invokestatic 30, 3) := by decide +kernel
theorem dX1_mirrorCell_4 : decode cX1_mirrorCell 4 = .ok (.istore_n 3, 1) := by decide +kernel
theorem dX1_mirrorCell_5 : decode cX1_mirrorCell 5 = .ok (.iload_n 2, 1) := by decide +kernel
theorem dX1_mirrorCell_6 : decode cX1_mirrorCell 6 = .ok (.invokestatic 34, 3) := by decide +kernel
theorem dX1_mirrorCell_9 : decode cX1_mirrorCell 9 = .ok (.istore 4, 2) := by decide +kernel
theorem dX1_mirrorCell_11 : decode cX1_mirrorCell 11 = .ok (.iload_n 1, 1) := by decide +kernel
theorem dX1_mirrorCell_12 : decode cX1_mirrorCell 12 = .ok (.ifCond .ne 25, 3) := by decide +kernel
theorem dX1_mirrorCell_15 : decode cX1_mirrorCell 15 = .ok (.aload_n 0, 1) := by decide +kernel
theorem dX1_mirrorCell_16 : decode cX1_mirrorCell 16 = .ok (.getfield 26, 3) := by decide +kernel
theorem dX1_mirrorCell_19 : decode cX1_mirrorCell 19 = .ok (.ifCond .eq 10, 3) := by decide +kernel
theorem dX1_mirrorCell_22 : decode cX1_mirrorCell 22 = .ok (.iload_n 3, 1) := by decide +kernel
theorem dX1_mirrorCell_23 : decode cX1_mirrorCell 23 = .ok (.iload 4, 2) := by decide +kernel
theorem dX1_mirrorCell_25 : decode cX1_mirrorCell 25 = .ok (.iadd, 1) := by decide +kernel
theorem dX1_mirrorCell_26 : decode cX1_mirrorCell 26 = .ok (.goto 4, 3) := by decide +kernel
theorem dX1_mirrorCell_29 : decode cX1_mirrorCell 29 = .ok (.iload_n 3, 1) := by decide +kernel
theorem dX1_mirrorCell_30 : decode cX1_mirrorCell 30 = .ok (.iload 4, 2) := by decide +kernel
theorem dX1_mirrorCell_32 : decode cX1_mirrorCell 32 = .ok (.ineg, 1) := by decide +kernel
theorem dX1_mirrorCell_33 : decode cX1_mirrorCell 33 = .ok (.invokestatic 63, 3) := by decide +kernel
theorem dX1_mirrorCell_36 : decode cX1_mirrorCell 36 = .ok (.ireturn, 1) := by decide +kernel
theorem dX1_mirrorCell_37 : decode cX1_mirrorCell 37 = .ok (.aload_n 0, 1) := by decide +kernel
theorem dX1_mirrorCell_38 : decode cX1_mirrorCell 38 = .ok (.getfield 19, 3) := by decide +kernel
theorem dX1_mirrorCell_41 : decode cX1_mirrorCell 41 = .ok (.lookupswitch 45 #[(60, 35), (90, 27)], 27) := by decide +kernel
theorem dX1_mirrorCell_68 : decode cX1_mirrorCell 68 = .ok (.iload_n 3, 1) := by decide +kernel
theorem dX1_mirrorCell_69 : decode cX1_mirrorCell 69 = .ok (.ineg, 1) := by decide +kernel
theorem dX1_mirrorCell_70 : decode cX1_mirrorCell 70 = .ok (.iload 4, 2) := by decide +kernel
theorem dX1_mirrorCell_72 : decode cX1_mirrorCell 72 = .ok (.invokestatic 63, 3) := by decide +kernel
theorem dX1_mirrorCell_75 : decode cX1_mirrorCell 75 = .ok (.ireturn, 1) := by decide +kernel
theorem dX1_mirrorCell_76 : decode cX1_mirrorCell 76 = .ok (.iload_n 3, 1) := by decide +kernel
theorem dX1_mirrorCell_77 : decode cX1_mirrorCell 77 = .ok (.ineg, 1) := by decide +kernel
theorem dX1_mirrorCell_78 : decode cX1_mirrorCell 78 = .ok (.iload_n 3, 1) := by decide +kernel
theorem dX1_mirrorCell_79 : decode cX1_mirrorCell 79 = .ok (.iload 4, 2) := by decide +kernel
theorem dX1_mirrorCell_81 : decode cX1_mirrorCell 81 = .ok (.iadd, 1) := by decide +kernel
theorem dX1_mirrorCell_82 : decode cX1_mirrorCell 82 = .ok (.invokestatic 63, 3) := by decide +kernel
theorem dX1_mirrorCell_85 : decode cX1_mirrorCell 85 = .ok (.ireturn, 1) := by decide +kernel
theorem dX1_mirrorCell_86 : decode cX1_mirrorCell 86 = .ok (.iload 4, 2) := by decide +kernel
theorem dX1_mirrorCell_88 : decode cX1_mirrorCell 88 = .ok (.iload_n 3, 1) := by decide +kernel
theorem dX1_mirrorCell_89 : decode cX1_mirrorCell 89 = .ok (.invokestatic 63, 3) := by decide +kernel
theorem dX1_mirrorCell_92 : decode cX1_mirrorCell 92 = .ok (.ireturn, 1) := by decide +kernel
abbrev mX1_mirrorCell : KM := (RX1, cX1_mirrorCell, 5, (some .int), { frames := 1, cells := 0, slots := 0, locals := 21 }, 0, 0)
def fX1_mirrorCell (q0 : Nat) (a1 : Int32) (a2 : Int32) (σ : Sto) : Int32 :=
  if a1 = 0 then
    if (σ q0 2) = 0 then
      (fX1_cellAt (fX1_xOf a2) (-(fX1_yOf a2)))
    else
      (fX1_cellAt ((fX1_xOf a2) + (fX1_yOf a2)) (-(fX1_yOf a2)))
  else
    if (σ q0 0) = 60 then
      (fX1_cellAt (-(fX1_xOf a2)) ((fX1_xOf a2) + (fX1_yOf a2)))
    else
      if (σ q0 0) = 90 then
        (fX1_cellAt (-(fX1_xOf a2)) (fX1_yOf a2))
      else
        (fX1_cellAt (fX1_yOf a2) (fX1_xOf a2))
set_option maxHeartbeats 4000000 in
set_option maxRecDepth 100000 in
theorem tX1_mirrorCell (sh : KSh) (hw : KWf sh) (l : Launch) (hst : l.stackTraces = false) (q0 : Nat) (h0 : sh q0 = .inl 1) (a1 : Int32) (a2 : Int32) (σ : Sto) : CT sh l mX1_mirrorCell yX1_mirrorCell [.ref q0, .int a1, .int a2] σ (0, .int (fX1_mirrorCell q0 a1 a2 σ), σ) := by
  refine kct [(0, .ref q0), (1, .int a1), (2, .int a2)] hst (by decide +kernel) rfl rfl (Nat.le_of_ble_eq_true rfl) ?_
  generalize h : fX1_mirrorCell q0 a1 a2 σ = r
  rw [fX1_mirrorCell] at h
  refine kv_iload_n (pc := 0) 2 dX1_mirrorCell_0 rfl rfl ?_
  refine kv_tS (pc := 1) (v := .int (fX1_xOf a2)) [.int a2] (.int (fX1_xOf a2) :: []) 4 0 0 (tX1_xOf sh hw l hst a2 σ) dX1_mirrorCell_1 rfl yw_X1_xOf lk_X1_30 (by decide) (Nat.le_of_ble_eq_true rfl) (by decide) rfl ⟨rfl, rfl, rfl⟩ ?_
  refine kv_istore_n (pc := 4) [(3, .int (fX1_xOf a2)), (0, .ref q0), (1, .int a1), (2, .int a2)] dX1_mirrorCell_4 rfl (by decide) rfl ?_
  refine kv_iload_n (pc := 5) 3 dX1_mirrorCell_5 rfl rfl ?_
  refine kv_tS (pc := 6) (v := .int (fX1_yOf a2)) [.int a2] (.int (fX1_yOf a2) :: []) 9 0 0 (tX1_yOf sh hw l hst a2 σ) dX1_mirrorCell_6 rfl yw_X1_yOf lk_X1_34 (by decide) (Nat.le_of_ble_eq_true rfl) (by decide) rfl ⟨rfl, rfl, rfl⟩ ?_
  refine kv_istore (pc := 9) [(4, .int (fX1_yOf a2)), (3, .int (fX1_xOf a2)), (0, .ref q0), (1, .int a1), (2, .int a2)] dX1_mirrorCell_9 (by decide) rfl ?_
  refine kv_iload_n (pc := 11) 3 dX1_mirrorCell_11 rfl rfl ?_
  refine kv_if_ne (pc := 12) (tgt := 37) dX1_mirrorCell_12 (by decide) h (fun h => ?_) (fun h => ?_)
  · refine kv_aload_n (pc := 37) 2 dX1_mirrorCell_37 rfl rfl ?_
    refine kv_getI (pc := 38) dX1_mirrorCell_38 h0 rfl (i := 0) (by decide) rfl fl_X1_19 rfl ?_
    by_cases e1 : (σ q0 0) = 60
    · rw [if_pos e1] at h
      refine kv_lookup (pc := 41) (off := 35) (tgt := 76) dX1_mirrorCell_41 (by decide) (by rw [e1]; rfl) (by decide) ?_
      refine kv_iload_n (pc := 76) 1 dX1_mirrorCell_76 rfl rfl ?_
      refine kv_ineg (pc := 77) dX1_mirrorCell_77 ?_
      refine kv_iload_n (pc := 78) 1 dX1_mirrorCell_78 rfl rfl ?_
      refine kv_iload (pc := 79) 0 dX1_mirrorCell_79 rfl ?_
      refine kv_iadd (pc := 81) dX1_mirrorCell_81 ?_
      refine kv_tS (pc := 82) (v := .int (fX1_cellAt (-(fX1_xOf a2)) ((fX1_xOf a2) + (fX1_yOf a2)))) [.int (-(fX1_xOf a2)), .int ((fX1_xOf a2) + (fX1_yOf a2))] (.int (fX1_cellAt (-(fX1_xOf a2)) ((fX1_xOf a2) + (fX1_yOf a2))) :: []) 85 0 0 (tX1_cellAt sh hw l hst (-(fX1_xOf a2)) ((fX1_xOf a2) + (fX1_yOf a2)) σ) dX1_mirrorCell_82 rfl yw_X1_cellAt lk_X1_63 (by decide) (Nat.le_of_ble_eq_true rfl) (by decide) rfl ⟨rfl, rfl, rfl⟩ ?_
      exact kv_iret (pc := 85) dX1_mirrorCell_85 rfl (by subst h; rfl) (by decide) (by decide)
    · rw [if_neg e1] at h
      by_cases e2 : (σ q0 0) = 90
      · rw [if_pos e2] at h
        refine kv_lookup (pc := 41) (off := 27) (tgt := 68) dX1_mirrorCell_41 (by decide) (by rw [e2]; rfl) (by decide) ?_
        refine kv_iload_n (pc := 68) 1 dX1_mirrorCell_68 rfl rfl ?_
        refine kv_ineg (pc := 69) dX1_mirrorCell_69 ?_
        refine kv_iload (pc := 70) 0 dX1_mirrorCell_70 rfl ?_
        refine kv_tS (pc := 72) (v := .int (fX1_cellAt (-(fX1_xOf a2)) (fX1_yOf a2))) [.int (-(fX1_xOf a2)), .int (fX1_yOf a2)] (.int (fX1_cellAt (-(fX1_xOf a2)) (fX1_yOf a2)) :: []) 75 0 0 (tX1_cellAt sh hw l hst (-(fX1_xOf a2)) (fX1_yOf a2) σ) dX1_mirrorCell_72 rfl yw_X1_cellAt lk_X1_63 (by decide) (Nat.le_of_ble_eq_true rfl) (by decide) rfl ⟨rfl, rfl, rfl⟩ ?_
        exact kv_iret (pc := 75) dX1_mirrorCell_75 rfl (by subst h; rfl) (by decide) (by decide)
      · rw [if_neg e2] at h
        refine kv_lookup (pc := 41) (off := 45) (tgt := 86) dX1_mirrorCell_41 (by decide) (by show Op.lookupswitch.offset [(60, 35), (90, 27)] _ _ = _; rw [lv_osw (a := 60) e1 (by decide), lv_osw (a := 90) e2 (by decide)]; rfl) (by decide) ?_
        refine kv_iload (pc := 86) 0 dX1_mirrorCell_86 rfl ?_
        refine kv_iload_n (pc := 88) 1 dX1_mirrorCell_88 rfl rfl ?_
        refine kv_tS (pc := 89) (v := .int (fX1_cellAt (fX1_yOf a2) (fX1_xOf a2))) [.int (fX1_yOf a2), .int (fX1_xOf a2)] (.int (fX1_cellAt (fX1_yOf a2) (fX1_xOf a2)) :: []) 92 0 0 (tX1_cellAt sh hw l hst (fX1_yOf a2) (fX1_xOf a2) σ) dX1_mirrorCell_89 rfl yw_X1_cellAt lk_X1_63 (by decide) (Nat.le_of_ble_eq_true rfl) (by decide) rfl ⟨rfl, rfl, rfl⟩ ?_
        exact kv_iret (pc := 92) dX1_mirrorCell_92 rfl (by subst h; rfl) (by decide) (by decide)
  · refine kv_aload_n (pc := 15) 2 dX1_mirrorCell_15 rfl rfl ?_
    refine kv_getI (pc := 16) dX1_mirrorCell_16 h0 rfl (i := 2) (by decide) rfl fl_X1_26 rfl ?_
    refine kv_if_eq (pc := 19) (tgt := 29) dX1_mirrorCell_19 (by decide) h (fun h => ?_) (fun h => ?_)
    · refine kv_iload_n (pc := 29) 1 dX1_mirrorCell_29 rfl rfl ?_
      refine kv_iload (pc := 30) 0 dX1_mirrorCell_30 rfl ?_
      refine kv_ineg (pc := 32) dX1_mirrorCell_32 ?_
      refine kv_tS (pc := 33) (v := .int (fX1_cellAt (fX1_xOf a2) (-(fX1_yOf a2)))) [.int (fX1_xOf a2), .int (-(fX1_yOf a2))] (.int (fX1_cellAt (fX1_xOf a2) (-(fX1_yOf a2))) :: []) 36 0 0 (tX1_cellAt sh hw l hst (fX1_xOf a2) (-(fX1_yOf a2)) σ) dX1_mirrorCell_33 rfl yw_X1_cellAt lk_X1_63 (by decide) (Nat.le_of_ble_eq_true rfl) (by decide) rfl ⟨rfl, rfl, rfl⟩ ?_
      exact kv_iret (pc := 36) dX1_mirrorCell_36 rfl (by subst h; rfl) (by decide) (by decide)
    · refine kv_iload_n (pc := 22) 1 dX1_mirrorCell_22 rfl rfl ?_
      refine kv_iload (pc := 23) 0 dX1_mirrorCell_23 rfl ?_
      refine kv_iadd (pc := 25) dX1_mirrorCell_25 ?_
      refine kv_goto (pc := 26) (tgt := 30) dX1_mirrorCell_26 (by decide) ?_
      refine kv_iload (pc := 30) 0 dX1_mirrorCell_30 rfl ?_
      refine kv_ineg (pc := 32) dX1_mirrorCell_32 ?_
      refine kv_tS (pc := 33) (v := .int (fX1_cellAt ((fX1_xOf a2) + (fX1_yOf a2)) (-(fX1_yOf a2)))) [.int ((fX1_xOf a2) + (fX1_yOf a2)), .int (-(fX1_yOf a2))] (.int (fX1_cellAt ((fX1_xOf a2) + (fX1_yOf a2)) (-(fX1_yOf a2))) :: []) 36 0 0 (tX1_cellAt sh hw l hst ((fX1_xOf a2) + (fX1_yOf a2)) (-(fX1_yOf a2)) σ) dX1_mirrorCell_33 rfl yw_X1_cellAt lk_X1_63 (by decide) (Nat.le_of_ble_eq_true rfl) (by decide) rfl ⟨rfl, rfl, rfl⟩ ?_
      exact kv_iret (pc := 36) dX1_mirrorCell_36 rfl (by subst h; rfl) (by decide) (by decide)
theorem yw_X1_mirrorCell : KMV yX1_mirrorCell mX1_mirrorCell RX1 2 := ⟨⟨rfl, by decide +kernel, by decide +kernel, by decide +kernel⟩, ⟨rfl, rfl⟩, kg_in 660 (by decide +kernel) (by decide +kernel), kg_in 661 (by decide +kernel) (by decide +kernel), kg_in 49 (by decide +kernel) (by decide +kernel), kg_in 662 (by decide +kernel) (by decide +kernel)⟩
theorem dX1_turnCell_0 : decode cX1_turnCell 0 = .ok (.iload_n 1, 1) := by decide +kernel
theorem dX1_turnCell_1 : decode cX1_turnCell 1 = .ok (.invokestatic 30, 3) := by decide +kernel
theorem dX1_turnCell_4 : decode cX1_turnCell 4 = .ok (.istore_n 2, 1) := by decide +kernel
theorem dX1_turnCell_5 : decode cX1_turnCell 5 = .ok (.iload_n 1, 1) := by decide +kernel
theorem dX1_turnCell_6 : decode cX1_turnCell 6 = .ok (.invokestatic 34, 3) := by decide +kernel
theorem dX1_turnCell_9 : decode cX1_turnCell 9 = .ok (.istore_n 3, 1) := by decide +kernel
theorem dX1_turnCell_10 : decode cX1_turnCell 10 = .ok (.iload_n 3, 1) := by decide +kernel
theorem dX1_turnCell_11 : decode cX1_turnCell 11 = .ok (.ineg, 1) := by decide +kernel
theorem dX1_turnCell_12 : decode cX1_turnCell 12 = .ok (.aload_n 0, 1) := by decide +kernel
theorem dX1_turnCell_13 : decode cX1_turnCell 13 = .ok (.getfield 26, 3) := by decide +kernel
theorem dX1_turnCell_16 : decode cX1_turnCell 16 = .ok (.ifCond .eq 9, 3) := by decide +kernel
theorem dX1_turnCell_19 : decode cX1_turnCell 19 = .ok (.iload_n 2, 1) := by decide +kernel
theorem dX1_turnCell_20 : decode cX1_turnCell 20 = .ok (.iload_n 3, 1) := by decide +kernel
theorem dX1_turnCell_21 : decode cX1_turnCell 21 = .ok (.iadd, 1) := by decide +kernel
theorem dX1_turnCell_22 : decode cX1_turnCell 22 = .ok (.goto 4, 3) := by decide +kernel
theorem dX1_turnCell_25 : decode cX1_turnCell 25 = .ok (.iload_n 2, 1) := by decide +kernel
theorem dX1_turnCell_26 : decode cX1_turnCell 26 = .ok (.invokestatic 63, 3) := by decide +kernel
theorem dX1_turnCell_29 : decode cX1_turnCell 29 = .ok (.ireturn, 1) := by decide +kernel
abbrev mX1_turnCell : KM := (RX1, cX1_turnCell, 4, (some .int), { frames := 1, cells := 0, slots := 0, locals := 21 }, 0, 0)
def fX1_turnCell (q0 : Nat) (a1 : Int32) (σ : Sto) : Int32 :=
  if (σ q0 2) = 0 then
    (fX1_cellAt (-(fX1_yOf a1)) (fX1_xOf a1))
  else
    (fX1_cellAt (-(fX1_yOf a1)) ((fX1_xOf a1) + (fX1_yOf a1)))
set_option maxHeartbeats 4000000 in
set_option maxRecDepth 100000 in
theorem tX1_turnCell (sh : KSh) (hw : KWf sh) (l : Launch) (hst : l.stackTraces = false) (q0 : Nat) (h0 : sh q0 = .inl 1) (a1 : Int32) (σ : Sto) : CT sh l mX1_turnCell yX1_turnCell [.ref q0, .int a1] σ (0, .int (fX1_turnCell q0 a1 σ), σ) := by
  refine kct [(0, .ref q0), (1, .int a1)] hst (by decide +kernel) rfl rfl (Nat.le_of_ble_eq_true rfl) ?_
  generalize h : fX1_turnCell q0 a1 σ = r
  rw [fX1_turnCell] at h
  refine kv_iload_n (pc := 0) 1 dX1_turnCell_0 rfl rfl ?_
  refine kv_tS (pc := 1) (v := .int (fX1_xOf a1)) [.int a1] (.int (fX1_xOf a1) :: []) 4 0 0 (tX1_xOf sh hw l hst a1 σ) dX1_turnCell_1 rfl yw_X1_xOf lk_X1_30 (by decide) (Nat.le_of_ble_eq_true rfl) (by decide) rfl ⟨rfl, rfl, rfl⟩ ?_
  refine kv_istore_n (pc := 4) [(2, .int (fX1_xOf a1)), (0, .ref q0), (1, .int a1)] dX1_turnCell_4 rfl (by decide) rfl ?_
  refine kv_iload_n (pc := 5) 2 dX1_turnCell_5 rfl rfl ?_
  refine kv_tS (pc := 6) (v := .int (fX1_yOf a1)) [.int a1] (.int (fX1_yOf a1) :: []) 9 0 0 (tX1_yOf sh hw l hst a1 σ) dX1_turnCell_6 rfl yw_X1_yOf lk_X1_34 (by decide) (Nat.le_of_ble_eq_true rfl) (by decide) rfl ⟨rfl, rfl, rfl⟩ ?_
  refine kv_istore_n (pc := 9) [(3, .int (fX1_yOf a1)), (2, .int (fX1_xOf a1)), (0, .ref q0), (1, .int a1)] dX1_turnCell_9 rfl (by decide) rfl ?_
  refine kv_iload_n (pc := 10) 0 dX1_turnCell_10 rfl rfl ?_
  refine kv_ineg (pc := 11) dX1_turnCell_11 ?_
  refine kv_aload_n (pc := 12) 2 dX1_turnCell_12 rfl rfl ?_
  refine kv_getI (pc := 13) dX1_turnCell_13 h0 rfl (i := 2) (by decide) rfl fl_X1_26 rfl ?_
  refine kv_if_eq (pc := 16) (tgt := 25) dX1_turnCell_16 (by decide) h (fun h => ?_) (fun h => ?_)
  · refine kv_iload_n (pc := 25) 1 dX1_turnCell_25 rfl rfl ?_
    refine kv_tS (pc := 26) (v := .int (fX1_cellAt (-(fX1_yOf a1)) (fX1_xOf a1))) [.int (-(fX1_yOf a1)), .int (fX1_xOf a1)] (.int (fX1_cellAt (-(fX1_yOf a1)) (fX1_xOf a1)) :: []) 29 0 0 (tX1_cellAt sh hw l hst (-(fX1_yOf a1)) (fX1_xOf a1) σ) dX1_turnCell_26 rfl yw_X1_cellAt lk_X1_63 (by decide) (Nat.le_of_ble_eq_true rfl) (by decide) rfl ⟨rfl, rfl, rfl⟩ ?_
    exact kv_iret (pc := 29) dX1_turnCell_29 rfl (by subst h; rfl) (by decide) (by decide)
  · refine kv_iload_n (pc := 19) 1 dX1_turnCell_19 rfl rfl ?_
    refine kv_iload_n (pc := 20) 0 dX1_turnCell_20 rfl rfl ?_
    refine kv_iadd (pc := 21) dX1_turnCell_21 ?_
    refine kv_goto (pc := 22) (tgt := 26) dX1_turnCell_22 (by decide) ?_
    refine kv_tS (pc := 26) (v := .int (fX1_cellAt (-(fX1_yOf a1)) ((fX1_xOf a1) + (fX1_yOf a1)))) [.int (-(fX1_yOf a1)), .int ((fX1_xOf a1) + (fX1_yOf a1))] (.int (fX1_cellAt (-(fX1_yOf a1)) ((fX1_xOf a1) + (fX1_yOf a1))) :: []) 29 0 0 (tX1_cellAt sh hw l hst (-(fX1_yOf a1)) ((fX1_xOf a1) + (fX1_yOf a1)) σ) dX1_turnCell_26 rfl yw_X1_cellAt lk_X1_63 (by decide) (Nat.le_of_ble_eq_true rfl) (by decide) rfl ⟨rfl, rfl, rfl⟩ ?_
    exact kv_iret (pc := 29) dX1_turnCell_29 rfl (by subst h; rfl) (by decide) (by decide)
theorem yw_X1_turnCell : KMV yX1_turnCell mX1_turnCell RX1 1 := ⟨⟨rfl, by decide +kernel, by decide +kernel, by decide +kernel⟩, ⟨rfl, rfl⟩, kg_in 1040 (by decide +kernel) (by decide +kernel), kg_in 40 (by decide +kernel) (by decide +kernel), kg_in 49 (by decide +kernel) (by decide +kernel), kg_in 1041 (by decide +kernel) (by decide +kernel)⟩
theorem dX1_mapCell_0 : decode cX1_mapCell 0 = .ok (.aload_n 0, 1) := by decide +kernel
theorem dX1_mapCell_1 : decode cX1_mapCell 1 = .ok (.invokevirtual 96, 3) := by decide +kernel
theorem dX1_mapCell_4 : decode cX1_mapCell 4 = .ok (.iconst 2, 1) := by decide +kernel
theorem dX1_mapCell_5 : decode cX1_mapCell 5 = .ok (.idiv, 1) := by decide +kernel
theorem dX1_mapCell_6 : decode cX1_mapCell 6 = .ok (.istore_n 3, 1) := by decide +kernel
theorem dX1_mapCell_7 : decode cX1_mapCell 7 = .ok (.iload_n 1, 1) := by decide +kernel
theorem dX1_mapCell_8 : decode cX1_mapCell 8 = .ok (.iload_n 3, 1) := by decide +kernel
theorem dX1_mapCell_9 : decode cX1_mapCell 9 = .ok (.if_icmp .ge 7, 3) := by decide +kernel
theorem dX1_mapCell_12 : decode cX1_mapCell 12 = .ok (.iload_n 1, 1) := by decide +kernel
theorem dX1_mapCell_13 : decode cX1_mapCell 13 = .ok (.goto 6, 3) := by decide +kernel
theorem dX1_mapCell_16 : decode cX1_mapCell 16 = .ok (.iload_n 1, 1) := by decide +kernel
theorem dX1_mapCell_17 : decode cX1_mapCell 17 = .ok (.iload_n 3, 1) := by decide +kernel
theorem dX1_mapCell_18 : decode cX1_mapCell 18 = .ok (.isub, 1) := by decide +kernel
theorem dX1_mapCell_19 : decode cX1_mapCell 19 = .ok (.istore 4, 2) := by decide +kernel
theorem dX1_mapCell_21 : decode cX1_mapCell 21 = .ok (.iload_n 1, 1) := by decide +kernel
theorem dX1_mapCell_22 : decode cX1_mapCell 22 = .ok (.iload_n 3, 1) := by decide +kernel
theorem dX1_mapCell_23 : decode cX1_mapCell 23 = .ok (.if_icmp .ge 7, 3) := by decide +kernel
theorem dX1_mapCell_26 : decode cX1_mapCell 26 = .ok (.iload_n 2, 1) := by decide +kernel
theorem dX1_mapCell_27 : decode cX1_mapCell 27 = .ok (.goto 9, 3) := by decide +kernel
theorem dX1_mapCell_30 : decode cX1_mapCell 30 = .ok (.aload_n 0, 1) := by decide +kernel
theorem dX1_mapCell_31 : decode cX1_mapCell 31 = .ok (.iconst 0, 1) := by decide +kernel
theorem dX1_mapCell_32 : decode cX1_mapCell 32 = .ok (.iload_n 2, 1) := by decide +kernel
theorem dX1_mapCell_33 : decode cX1_mapCell 33 = .ok (.invokevirtual 100, 3) := by decide +kernel
theorem dX1_mapCell_36 : decode cX1_mapCell 36 = .ok (.istore 5, 2) := by decide +kernel
theorem dX1_mapCell_38 : decode cX1_mapCell 38 = .ok (.iconst 0, 1) := by decide +kernel
theorem dX1_mapCell_39 : decode cX1_mapCell 39 = .ok (.istore 6, 2) := by decide +kernel
theorem dX1_mapCell_41 : decode cX1_mapCell 41 = .ok (.iload 6, 2) := by decide +kernel
theorem dX1_mapCell_43 : decode cX1_mapCell 43 = .ok (.iload 4, 2) := by decide +kernel
theorem dX1_mapCell_45 : decode cX1_mapCell 45 = .ok (.if_icmp .ge 17, 3) := by decide +kernel
theorem dX1_mapCell_48 : decode cX1_mapCell 48 = .ok (.aload_n 0, 1) := by decide +kernel
theorem dX1_mapCell_49 : decode cX1_mapCell 49 = .ok (.iload 5, 2) := by decide +kernel
theorem dX1_mapCell_51 : decode cX1_mapCell 51 = .ok (.invokevirtual 103, 3) := by decide +kernel
theorem dX1_mapCell_54 : decode cX1_mapCell 54 = .ok (.istore 5, 2) := by decide +kernel
theorem dX1_mapCell_56 : decode cX1_mapCell 56 = .ok (.iinc 6 1, 3) := by decide +kernel
theorem dX1_mapCell_59 : decode cX1_mapCell 59 = .ok (.goto (-18), 3) := by decide +kernel
theorem dX1_mapCell_62 : decode cX1_mapCell 62 = .ok (.iload 5, 2) := by decide +kernel
theorem dX1_mapCell_64 : decode cX1_mapCell 64 = .ok (.ireturn, 1) := by decide +kernel
abbrev mX1_mapCell : KM := (RX1, cX1_mapCell, 7, (some .int), { frames := 2, cells := 0, slots := 0, locals := 45 }, 0, 0)
def fX1_mapCell_L41 (q0 : Nat) (a1 : Int32) (a2 : Int32) : Nat → Int32 → Int32 → Int32 → Sto → Option Int32
  | 0, _, _, _, _ => none
  | fu + 1, v4, v5, v6, σ =>
    if v4 ≤ v6 then
      some v5
    else
      fX1_mapCell_L41 q0 a1 a2 fu v4 (fX1_turnCell q0 v5 σ) (v6 + 1) σ
def fX1_mapCell_L36 (q0 : Nat) (a1 : Int32) (a2 : Int32) (v4 : Int32) (s0 : Int32) (σ : Sto) : Option Int32 :=
  fX1_mapCell_L41 q0 a1 a2 kFU v4 s0 0 σ
def fX1_mapCell_L19 (q0 : Nat) (a1 : Int32) (a2 : Int32) (v3 : Int32) (s0 : Int32) (σ : Sto) : Option Int32 :=
  if v3 ≤ a1 then
    fX1_mapCell_L36 q0 a1 a2 s0 (fX1_mirrorCell q0 0 a2 σ) σ
  else
    fX1_mapCell_L36 q0 a1 a2 s0 a2 σ
def fX1_mapCell (q0 : Nat) (a1 : Int32) (a2 : Int32) (σ : Sto) : Option Int32 :=
  if ((fX1_maps q0 σ) / 2) ≤ a1 then
    fX1_mapCell_L19 q0 a1 a2 ((fX1_maps q0 σ) / 2) (a1 - ((fX1_maps q0 σ) / 2)) σ
  else
    fX1_mapCell_L19 q0 a1 a2 ((fX1_maps q0 σ) / 2) a1 σ
set_option maxHeartbeats 4000000 in
set_option maxRecDepth 100000 in
theorem wX1_mapCell_L41 (sh : KSh) (hw : KWf sh) (l : Launch) (hst : l.stackTraces = false) (q0 : Nat) (h0 : sh q0 = .inl 1) (a1 : Int32) (a2 : Int32) : ∀ (fu : Nat), ∀ (v4 : Int32), ∀ (v5 : Int32), ∀ (v6 : Int32), ∀ (σ : Sto), ∀ (r : Int32), fX1_mapCell_L41 q0 a1 a2 fu v4 v5 v6 σ = some r → VV sh l mX1_mapCell 0 0 41 [(0, .ref q0), (4, .int v4), (5, .int v5), (6, .int v6)] [] σ (0, .int r, σ) := by
  intro fu
  induction fu with
  | zero => intro v4 v5 v6 σ r h; rw [fX1_mapCell_L41] at h; cases h
  | succ fu ih =>
    intro v4 v5 v6 σ r h
    rw [fX1_mapCell_L41] at h
    refine kv_iload (pc := 41) 3 dX1_mapCell_41 rfl ?_
    refine kv_iload (pc := 43) 1 dX1_mapCell_43 rfl ?_
    refine kv_icmp_ge (pc := 45) (tgt := 62) dX1_mapCell_45 (by decide) h (fun h => ?_) (fun h => ?_)
    · refine kv_iload (pc := 62) 2 dX1_mapCell_62 rfl ?_
      exact kv_iret (pc := 64) dX1_mapCell_64 rfl (by cases h; rfl) (by decide) (by decide)
    · refine kv_aload_n (pc := 48) 0 dX1_mapCell_48 rfl rfl ?_
      refine kv_iload (pc := 49) 2 dX1_mapCell_49 rfl ?_
      refine kv_tV (pc := 51) (v := .int (fX1_turnCell q0 v5 σ)) [.int v5] (.int (fX1_turnCell q0 v5 σ) :: []) 54 0 0 (tX1_turnCell sh hw l hst q0 h0 v5 σ) dX1_mapCell_51 rfl h0 rfl yw_X1_turnCell lk_X1_103 (by decide) (Nat.le_of_ble_eq_true rfl) (by decide) rfl ⟨rfl, rfl, rfl⟩ ?_
      refine kv_istore (pc := 54) [(5, .int (fX1_turnCell q0 v5 σ)), (0, .ref q0), (4, .int v4), (6, .int v6)] dX1_mapCell_54 (by decide) rfl ?_
      refine kv_iinc (pc := 56) (v := v6 + 1) 3 [(6, .int (v6 + 1)), (5, .int (fX1_turnCell q0 v5 σ)), (0, .ref q0), (4, .int v4)] dX1_mapCell_56 rfl rfl (by decide) rfl ?_
      refine kv_goto (pc := 59) (tgt := 41) dX1_mapCell_59 (by decide) ?_
      refine kv_sub (pc := 41) [(0, .ref q0), (4, .int v4), (5, .int (fX1_turnCell q0 v5 σ)), (6, .int (v6 + 1))] [2, 3, 1, 0] rfl ?_
      exact ih v4 (fX1_turnCell q0 v5 σ) (v6 + 1) σ r h
set_option maxHeartbeats 4000000 in
set_option maxRecDepth 100000 in
theorem wX1_mapCell_L36 (sh : KSh) (hw : KWf sh) (l : Launch) (hst : l.stackTraces = false) (q0 : Nat) (h0 : sh q0 = .inl 1) (a1 : Int32) (a2 : Int32) : ∀ (v4 : Int32), ∀ (s0 : Int32), ∀ (σ : Sto), ∀ (r : Int32), fX1_mapCell_L36 q0 a1 a2 v4 s0 σ = some r → VV sh l mX1_mapCell 0 0 36 [(0, .ref q0), (4, .int v4)] [.int s0] σ (0, .int r, σ) := by
  intro v4 s0 σ r h
  rw [fX1_mapCell_L36] at h
  refine kv_istore (pc := 36) [(5, .int s0), (0, .ref q0), (4, .int v4)] dX1_mapCell_36 (by decide) rfl ?_
  refine kv_iconst (pc := 38) (v := 0) dX1_mapCell_38 (by decide) ?_
  refine kv_istore (pc := 39) [(6, .int 0), (5, .int s0), (0, .ref q0), (4, .int v4)] dX1_mapCell_39 (by decide) rfl ?_
  refine kv_sub (pc := 41) [(0, .ref q0), (4, .int v4), (5, .int s0), (6, .int 0)] [2, 3, 1, 0] rfl ?_
  exact wX1_mapCell_L41 sh hw l hst q0 h0 a1 a2 kFU v4 s0 0 σ r h
set_option maxHeartbeats 4000000 in
set_option maxRecDepth 100000 in
theorem wX1_mapCell_L19 (sh : KSh) (hw : KWf sh) (l : Launch) (hst : l.stackTraces = false) (q0 : Nat) (h0 : sh q0 = .inl 1) (a1 : Int32) (a2 : Int32) : ∀ (v3 : Int32), ∀ (s0 : Int32), ∀ (σ : Sto), ∀ (r : Int32), fX1_mapCell_L19 q0 a1 a2 v3 s0 σ = some r → VV sh l mX1_mapCell 0 0 19 [(0, .ref q0), (1, .int a1), (2, .int a2), (3, .int v3)] [.int s0] σ (0, .int r, σ) := by
  intro v3 s0 σ r h
  rw [fX1_mapCell_L19] at h
  refine kv_istore (pc := 19) [(4, .int s0), (0, .ref q0), (1, .int a1), (2, .int a2), (3, .int v3)] dX1_mapCell_19 (by decide) rfl ?_
  refine kv_iload_n (pc := 21) 2 dX1_mapCell_21 rfl rfl ?_
  refine kv_iload_n (pc := 22) 4 dX1_mapCell_22 rfl rfl ?_
  refine kv_icmp_ge (pc := 23) (tgt := 30) dX1_mapCell_23 (by decide) h (fun h => ?_) (fun h => ?_)
  · refine kv_aload_n (pc := 30) 1 dX1_mapCell_30 rfl rfl ?_
    refine kv_iconst (pc := 31) (v := 0) dX1_mapCell_31 (by decide) ?_
    refine kv_iload_n (pc := 32) 3 dX1_mapCell_32 rfl rfl ?_
    refine kv_tV (pc := 33) (v := .int (fX1_mirrorCell q0 0 a2 σ)) [.int 0, .int a2] (.int (fX1_mirrorCell q0 0 a2 σ) :: []) 36 0 0 (tX1_mirrorCell sh hw l hst q0 h0 0 a2 σ) dX1_mapCell_33 rfl h0 rfl yw_X1_mirrorCell lk_X1_100 (by decide) (Nat.le_of_ble_eq_true rfl) (by decide) rfl ⟨rfl, rfl, rfl⟩ ?_
    refine kv_sub (pc := 36) [(0, .ref q0), (4, .int s0)] [1, 0] rfl ?_
    exact wX1_mapCell_L36 sh hw l hst q0 h0 a1 a2 s0 (fX1_mirrorCell q0 0 a2 σ) σ r h
  · refine kv_iload_n (pc := 26) 3 dX1_mapCell_26 rfl rfl ?_
    refine kv_goto (pc := 27) (tgt := 36) dX1_mapCell_27 (by decide) ?_
    refine kv_sub (pc := 36) [(0, .ref q0), (4, .int s0)] [1, 0] rfl ?_
    exact wX1_mapCell_L36 sh hw l hst q0 h0 a1 a2 s0 a2 σ r h
set_option maxHeartbeats 4000000 in
set_option maxRecDepth 100000 in
theorem tX1_mapCell (sh : KSh) (hw : KWf sh) (l : Launch) (hst : l.stackTraces = false) (q0 : Nat) (h0 : sh q0 = .inl 1) (a1 : Int32) (a2 : Int32) (σ : Sto) (r : Int32) (h : fX1_mapCell q0 a1 a2 σ = some r) : CT sh l mX1_mapCell yX1_mapCell [.ref q0, .int a1, .int a2] σ (0, .int r, σ) := by
  refine kct [(0, .ref q0), (1, .int a1), (2, .int a2)] hst (by decide +kernel) rfl rfl (Nat.le_of_ble_eq_true rfl) ?_
  rw [fX1_mapCell] at h
  refine kv_aload_n (pc := 0) 0 dX1_mapCell_0 rfl rfl ?_
  refine kv_tV (pc := 1) (v := .int (fX1_maps q0 σ)) [] (.int (fX1_maps q0 σ) :: []) 4 0 0 (tX1_maps sh hw l hst q0 h0 σ) dX1_mapCell_1 rfl h0 rfl yw_X1_maps lk_X1_96 (by decide) (Nat.le_of_ble_eq_true rfl) (by decide) rfl ⟨rfl, rfl, rfl⟩ ?_
  refine kv_iconst (pc := 4) (v := 2) dX1_mapCell_4 (by decide) ?_
  refine kv_idiv (pc := 5) dX1_mapCell_5 (by decide) ?_
  refine kv_istore_n (pc := 6) [(3, .int ((fX1_maps q0 σ) / 2)), (0, .ref q0), (1, .int a1), (2, .int a2)] dX1_mapCell_6 rfl (by decide) rfl ?_
  refine kv_iload_n (pc := 7) 2 dX1_mapCell_7 rfl rfl ?_
  refine kv_iload_n (pc := 8) 0 dX1_mapCell_8 rfl rfl ?_
  refine kv_icmp_ge (pc := 9) (tgt := 16) dX1_mapCell_9 (by decide) h (fun h => ?_) (fun h => ?_)
  · refine kv_iload_n (pc := 16) 2 dX1_mapCell_16 rfl rfl ?_
    refine kv_iload_n (pc := 17) 0 dX1_mapCell_17 rfl rfl ?_
    refine kv_isub (pc := 18) dX1_mapCell_18 ?_
    refine kv_sub (pc := 19) [(0, .ref q0), (1, .int a1), (2, .int a2), (3, .int ((fX1_maps q0 σ) / 2))] [1, 2, 3, 0] rfl ?_
    exact wX1_mapCell_L19 sh hw l hst q0 h0 a1 a2 ((fX1_maps q0 σ) / 2) (a1 - ((fX1_maps q0 σ) / 2)) σ r h
  · refine kv_iload_n (pc := 12) 2 dX1_mapCell_12 rfl rfl ?_
    refine kv_goto (pc := 13) (tgt := 19) dX1_mapCell_13 (by decide) ?_
    refine kv_sub (pc := 19) [(0, .ref q0), (1, .int a1), (2, .int a2), (3, .int ((fX1_maps q0 σ) / 2))] [1, 2, 3, 0] rfl ?_
    exact wX1_mapCell_L19 sh hw l hst q0 h0 a1 a2 ((fX1_maps q0 σ) / 2) a1 σ r h
theorem yw_X1_mapCell : KMV yX1_mapCell mX1_mapCell RX1 2 := ⟨⟨rfl, by decide +kernel, by decide +kernel, by decide +kernel⟩, ⟨rfl, rfl⟩, kg_in 1033 (by decide +kernel) (by decide +kernel), kg_in 1034 (by decide +kernel) (by decide +kernel), kg_in 49 (by decide +kernel) (by decide +kernel), kg_in 1035 (by decide +kernel) (by decide +kernel)⟩
theorem dX1_mapsByMirrors_0 : decode cX1_mapsByMirrors 0 = .ok (.aload_n 0, 1) := by decide +kernel
theorem dX1_mapsByMirrors_1 : decode cX1_mapsByMirrors 1 = .ok (.getfield 19, 3) := by decide +kernel
theorem dX1_mapsByMirrors_4 : decode cX1_mapsByMirrors 4 = .ok (.lookupswitch 58 #[(45, 54), (60, 50), (90, 47), (180, 44)], 44) := by decide +kernel
theorem dX1_mapsByMirrors_48 : decode cX1_mapsByMirrors 48 = .ok (.bipush 17, 2) := by decide +kernel
theorem dX1_mapsByMirrors_50 : decode cX1_mapsByMirrors 50 = .ok (.ireturn, 1) := by decide +kernel
theorem dX1_mapsByMirrors_51 : decode cX1_mapsByMirrors 51 = .ok (.bipush 85, 2) := by decide +kernel
theorem dX1_mapsByMirrors_53 : decode cX1_mapsByMirrors 53 = .ok (.ireturn, 1) := by decide +kernel
theorem dX1_mapsByMirrors_54 : decode cX1_mapsByMirrors 54 = .ok (.sipush 1365, 3) := by decide +kernel
theorem dX1_mapsByMirrors_57 : decode cX1_mapsByMirrors 57 = .ok (.ireturn, 1) := by decide +kernel
theorem dX1_mapsByMirrors_58 : decode cX1_mapsByMirrors 58 = .ok (.sipush 255, 3) := by decide +kernel
theorem dX1_mapsByMirrors_61 : decode cX1_mapsByMirrors 61 = .ok (.ireturn, 1) := by decide +kernel
theorem dX1_mapsByMirrors_62 : decode cX1_mapsByMirrors 62 = .ok (.sipush 4095, 3) := by decide +kernel
theorem dX1_mapsByMirrors_65 : decode cX1_mapsByMirrors 65 = .ok (.ireturn, 1) := by decide +kernel
abbrev mX1_mapsByMirrors : KM := (RX1, cX1_mapsByMirrors, 1, (some .int), { frames := 0, cells := 0, slots := 0, locals := 0 }, 0, 0)
def fX1_mapsByMirrors (q0 : Nat) (σ : Sto) : Int32 :=
  if (σ q0 0) = 45 then
    255
  else
    if (σ q0 0) = 60 then
      1365
    else
      if (σ q0 0) = 90 then
        85
      else
        if (σ q0 0) = 180 then
          17
        else
          4095
set_option maxHeartbeats 4000000 in
set_option maxRecDepth 100000 in
theorem tX1_mapsByMirrors (sh : KSh) (hw : KWf sh) (l : Launch) (hst : l.stackTraces = false) (q0 : Nat) (h0 : sh q0 = .inl 1) (σ : Sto) : CT sh l mX1_mapsByMirrors yX1_mapsByMirrors [.ref q0] σ (0, .int (fX1_mapsByMirrors q0 σ), σ) := by
  refine kct [(0, .ref q0)] hst (by decide +kernel) rfl rfl (Nat.le_of_ble_eq_true rfl) ?_
  generalize h : fX1_mapsByMirrors q0 σ = r
  rw [fX1_mapsByMirrors] at h
  refine kv_aload_n (pc := 0) 0 dX1_mapsByMirrors_0 rfl rfl ?_
  refine kv_getI (pc := 1) dX1_mapsByMirrors_1 h0 rfl (i := 0) (by decide) rfl fl_X1_19 rfl ?_
  by_cases e1 : (σ q0 0) = 45
  · rw [if_pos e1] at h
    refine kv_lookup (pc := 4) (off := 54) (tgt := 58) dX1_mapsByMirrors_4 (by decide) (by rw [e1]; rfl) (by decide) ?_
    refine kv_sipush (pc := 58) (v := 255) dX1_mapsByMirrors_58 (by decide) ?_
    exact kv_iret (pc := 61) dX1_mapsByMirrors_61 rfl (by subst h; rfl) (by decide) (by decide)
  · rw [if_neg e1] at h
    by_cases e2 : (σ q0 0) = 60
    · rw [if_pos e2] at h
      refine kv_lookup (pc := 4) (off := 50) (tgt := 54) dX1_mapsByMirrors_4 (by decide) (by rw [e2]; rfl) (by decide) ?_
      refine kv_sipush (pc := 54) (v := 1365) dX1_mapsByMirrors_54 (by decide) ?_
      exact kv_iret (pc := 57) dX1_mapsByMirrors_57 rfl (by subst h; rfl) (by decide) (by decide)
    · rw [if_neg e2] at h
      by_cases e3 : (σ q0 0) = 90
      · rw [if_pos e3] at h
        refine kv_lookup (pc := 4) (off := 47) (tgt := 51) dX1_mapsByMirrors_4 (by decide) (by rw [e3]; rfl) (by decide) ?_
        refine kv_bipush (pc := 51) (v := 85) dX1_mapsByMirrors_51 (by decide) ?_
        exact kv_iret (pc := 53) dX1_mapsByMirrors_53 rfl (by subst h; rfl) (by decide) (by decide)
      · rw [if_neg e3] at h
        by_cases e4 : (σ q0 0) = 180
        · rw [if_pos e4] at h
          refine kv_lookup (pc := 4) (off := 44) (tgt := 48) dX1_mapsByMirrors_4 (by decide) (by rw [e4]; rfl) (by decide) ?_
          refine kv_bipush (pc := 48) (v := 17) dX1_mapsByMirrors_48 (by decide) ?_
          exact kv_iret (pc := 50) dX1_mapsByMirrors_50 rfl (by subst h; rfl) (by decide) (by decide)
        · rw [if_neg e4] at h
          refine kv_lookup (pc := 4) (off := 58) (tgt := 62) dX1_mapsByMirrors_4 (by decide) (by show Op.lookupswitch.offset [(45, 54), (60, 50), (90, 47), (180, 44)] _ _ = _; rw [lv_osw (a := 45) e1 (by decide), lv_osw (a := 60) e2 (by decide), lv_osw (a := 90) e3 (by decide), lv_osw (a := 180) e4 (by decide)]; rfl) (by decide) ?_
          refine kv_sipush (pc := 62) (v := 4095) dX1_mapsByMirrors_62 (by decide) ?_
          exact kv_iret (pc := 65) dX1_mapsByMirrors_65 rfl (by subst h; rfl) (by decide) (by decide)
theorem yw_X1_mapsByMirrors : KMV yX1_mapsByMirrors mX1_mapsByMirrors RX1 0 := ⟨⟨rfl, by decide +kernel, by decide +kernel, by decide +kernel⟩, ⟨rfl, rfl⟩, kg_in 1047 (by decide +kernel) (by decide +kernel), kg_in 1048 (by decide +kernel) (by decide +kernel), kg_in 49 (by decide +kernel) (by decide +kernel), kg_in 1049 (by decide +kernel) (by decide +kernel)⟩
