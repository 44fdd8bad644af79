/-! functions that no road of this claim runs: the reference beside the class, and the class's other methods, as functions alone -/
def fX5_liesAs_L26 (q0 : Nat) (q1 : Nat) : Nat → Int32 → Sto → Option Bool
  | 0, _, _ => none
  | fu + 1, v2, σ =>
    if (σ q0 8) ≤ v2 then
      some true
    else
      (fX5_cellOf q0 v2 σ).bind fun r1 =>
      (fX5_cellOf q1 v2 σ).bind fun r4 =>
      if r1 = r4 then
        fX5_liesAs_L26 q0 q1 fu (v2 + 1) σ
      else
        some false
def fX5_liesAs (q0 : Nat) (q1 : Nat) (σ : Sto) : Option Bool :=
  if (σ q0 1) = (σ q1 1) then
    if (σ q0 8) = (σ q1 8) then
      fX5_liesAs_L26 q0 q1 kFU 0 σ
    else
      some false
  else
    some false
def fX3_sizeOfRegion (q0 : Nat) (q1 : Nat) (a2 : Int32) (σ : Sto) : Option (Int32 × Sto) :=
  (fX3_colourOf q0 a2 σ).bind fun r1 =>
  if 0 < r1 then
    (fX3_forgetReached q0 σ).bind fun r4 =>
    (fX3_spread q0 q1 a2 r4).bind fun r7 =>
    some (r7.1, r7.2)
  else
    some (0, σ)
def fX2_addByte (q0 : Nat) (a1 : Int32) (σ : Sto) : Option Sto :=
  if (σ q0 1) < 0 then
    some σ
  else
    if 225 ≤ (σ q0 1) then
      some σ
    else
      if kin (σ q0 1) 225 = true then
        klet (su σ (q0 + 1) (σ q0 1).toNatClampNeg a1) fun σ1 =>
        klet (su σ1 q0 1 ((σ1 q0 1) + 1)) fun σ2 =>
        some σ2
      else none
def fX2_show_L26 (q0 : Nat) (q1 : Nat) (q2 : Nat) (K10 : Int32 → Sto → Option Sto) : Nat → Int32 → Int32 → Sto → Option Sto
  | 0, _, _, _ => none
  | fu + 1, v3, v4, σ =>
    if (σ q2 1) < v4 then
      (fX2_addByte q0 10 σ).bind fun r2 =>
      K10 (v3 + (-1)) r2
    else
      (fX1_pictureCell q2 v4 v3 σ).bind fun r5 =>
      if r5 = (-1) then
        (fX2_addByte q0 32 σ).bind fun r14 =>
        fX2_show_L26 q0 q1 q2 K10 fu v3 (v4 + 1) r14
      else
        (fX3_colourOf q1 r5 σ).bind fun r8 =>
        (fX2_addByte q0 (48 + r8) σ).bind fun r11 =>
        fX2_show_L26 q0 q1 q2 K10 fu v3 (v4 + 1) r11
def fX2_show_L10 (q0 : Nat) (q1 : Nat) (q2 : Nat) : Nat → Int32 → Sto → Option Sto
  | 0, _, _ => none
  | fu + 1, v3, σ =>
    if v3 < (-(σ q2 1)) then
      some σ
    else
      fX2_show_L26 q0 q1 q2 (fX2_show_L10 q0 q1 q2 fu) kFU v3 (-(σ q2 1)) σ
def fX2_show (q0 : Nat) (q1 : Nat) (q2 : Nat) (σ : Sto) : Option Sto :=
  klet (su σ q0 1 0) fun σ1 =>
  fX2_show_L10 q0 q1 q2 kFU (σ1 q2 1) σ1
def fX2_byteAt (q0 : Nat) (a1 : Int32) (σ : Sto) : Option Int32 :=
  if a1 < 0 then
    some (-1)
  else
    if (σ q0 1) ≤ a1 then
      some (-1)
    else
      if 225 ≤ a1 then
        some (-1)
      else
        if kin a1 225 = true then
          some (σ (q0 + 1) a1.toNatClampNeg)
        else none
def fX6_errorCode (σ : Sto) : Int32 :=
  (σ 5 2)
def fX6_errorPosition (σ : Sto) : Int32 :=
  (σ 5 3)
def fX6_depth (a1 : Int32) (a2 : Int32) (σ : Sto) : Option (Nat × Int32) :=
  (fX6_neededPictureCell a1 a2 σ).bind fun r1 =>
  if r1.1 = 0 then
    (fX1_depthOf 26 r1.2 (σ 25 1) σ).bind fun r4 =>
    some (0, r4)
  else some (r1.1, 0)
def fX6_account (a1 : Int32) (σ : Sto) : Option (Nat × Int32) :=
  (fX6_needRange a1 0 5 σ).bind fun r1 =>
  if r1 = 0 then
    if kin a1 6 = true then
      some (0, (σ 4 a1.toNatClampNeg))
    else none
  else some (r1, 0)
def fX6_regionSize (a1 : Int32) (a2 : Int32) (σ : Sto) : Option KP :=
  (fX6_neededPictureCell a1 a2 σ).bind fun r1 =>
  if r1.1 = 0 then
    (fX3_look 7 25 σ).bind fun r4 =>
    (fX3_sizeOfRegion 7 26 r1.2 r4).bind fun r7 =>
    some (0, r7.1, r7.2)
  else some (r1.1, 0, σ)
def fX6_mapped_L18 (a1 : Int32) (a2 : Int32) (a3 : Int32) (a4 : Int32) (σ : Sto) : Option (Nat × Int32) :=
  some (3, 0)
def fX6_mapped (a1 : Int32) (a2 : Int32) (a3 : Int32) (a4 : Int32) (σ : Sto) : Option (Nat × Int32) :=
  if a1 < 0 then
    fX6_mapped_L18 a1 a2 a3 a4 σ
  else
    if a1 < (fX1_maps 26 σ) then
      (fX6_neededPictureCell a2 a3 σ).bind fun r1 =>
      if r1.1 = 0 then
        (fX1_mapCell 26 a1 r1.2 σ).bind fun r4 =>
        some (0, (fX6_told r4 a4))
      else some (r1.1, 0)
    else
      fX6_mapped_L18 a1 a2 a3 a4 σ
def fX6_push_L23 (a1 : Int32) (a2 : Int32) (σ : Sto) : Option KP :=
  some (3, 0, σ)
def fX6_push (a1 : Int32) (a2 : Int32) (σ : Sto) : Option KP :=
  (fX6_needChip a1 σ).bind fun r1 =>
  if r1 = 0 then
    if a2 < 0 then
      fX6_push_L23 a1 a2 σ
    else
      if a2 < (fX1_directions 26 σ) then
        (fX5_cellOf 25 a1 σ).bind fun r4 =>
        if r4 = (-1) then
          (fX6_refused 3 σ).bind fun r31 =>
          some (0, r31.1, r31.2)
        else
          (fX5_cellOf 25 a1 σ).bind fun r7 =>
          (fX1_boxNeighbour 26 r7 a2 σ).bind fun r10 =>
          if r10 = (-1) then
            (fX6_refused 4 σ).bind fun r28 =>
            some (0, r28.1, r28.2)
          else
            (fX5_chipOn 25 r10 σ).bind fun r13 =>
            if r13 = (-1) then
              (fX6_keepForUndo σ).bind fun r16 =>
              (fX5_shift 25 a1 r10 r16).bind fun r19 =>
              (fX6_movesOfNextTick r19).bind fun r22 =>
              some (0, r22.1, r22.2)
            else
              (fX6_refused 2 σ).bind fun r25 =>
              some (0, r25.1, r25.2)
      else
        fX6_push_L23 a1 a2 σ
  else some (r1, 0, σ)
def fX6_bestTurn_L87 (a1 : Int32) (K14 : Int32 → Int32 → Int32 → Sto → Option KP) (v2 : Int32) (v3 : Int32) (v4 : Int32) (σ : Sto) : Option KP :=
  K14 v2 v3 (v4 + 1) σ
def fX6_bestTurn_L14 (a1 : Int32) : Nat → Int32 → Int32 → Int32 → Sto → Option KP
  | 0, _, _, _, _ => none
  | fu + 1, v2, v3, v4, σ =>
    if (fX1_directions 26 σ) ≤ v4 then
      some (0, v2, σ)
    else
      (fX5_copyFrom 34 25 σ).bind fun r4 =>
      (some (fX5_turnBy 34 v4 r4)).bind fun r7 =>
      (fX6_settleTrial r7).bind fun r10 =>
      (fX3_look 7 34 r10.2).bind fun r13 =>
      (fX3_countColour 7 a1 r13).bind fun r16 =>
      if r16 ≤ v3 then
        fX6_bestTurn_L87 a1 (fX6_bestTurn_L14 a1 fu) v2 v3 v4 r13
      else
        fX6_bestTurn_L87 a1 (fX6_bestTurn_L14 a1 fu) v4 r16 v4 r13
def fX6_bestTurn (a1 : Int32) (σ : Sto) : Option KP :=
  (fX6_needRange a1 1 9 σ).bind fun r1 =>
  if r1 = 0 then
    fX6_bestTurn_L14 a1 kFU 0 (-1) 0 σ
  else some (r1, 0, σ)
def fX6_period_L20 (a1 : Int32) : Nat → Int32 → Sto → Option KP
  | 0, _, _ => none
  | fu + 1, v2, σ =>
    if 48 < v2 then
      some (0, (-1), σ)
    else
      (some (fX5_turnBy 34 a1 σ)).bind fun r7 =>
      (fX6_settleTrial r7).bind fun r10 =>
      (fX5_liesAs 34 25 r10.2).bind fun r13 =>
      if r13 = true then
        some (0, v2, r10.2)
      else
        fX6_period_L20 a1 fu (v2 + 1) r10.2
def fX6_period (a1 : Int32) (σ : Sto) : Option KP :=
  (fX6_needRange a1 1 7 σ).bind fun r1 =>
  if r1 = 0 then
    (fX5_copyFrom 34 25 σ).bind fun r4 =>
    fX6_period_L20 a1 kFU 1 r4
  else some (r1, 0, σ)
def fX6_write (σ : Sto) : Option (Int32 × Sto) :=
  (fX3_look 7 25 σ).bind fun r1 =>
  (fX2_show 23 7 26 r1).bind fun r4 =>
  some ((r4 23 1), r4)
def fX6_output (a1 : Int32) (σ : Sto) : Option Int32 :=
  (fX2_byteAt 23 a1 σ).bind fun r1 =>
  some r1
def fX6_restore (a1 : Int32) (σ : Sto) : Option KP :=
  (fX6_needSaved a1 σ).bind fun r1 =>
  if r1 = 0 then
    if kin a1 2 = true then
      (fX5_copyFrom 25 (115 + 9 * a1.toNatClampNeg) σ).bind fun r5 =>
      klet (su r5 0 4 0) fun σ8 =>
      some (0, 0, σ8)
    else none
  else some (r1, 0, σ)
def fX7_thrown (σ : Sto) : Int32 :=
  (σ 133 7)
def fX7_isIn (a0 : Int32) (a1 : Int32) (a2 : Int32) : Bool :=
  if a0 < a1 then
    false
  else
    if a2 < a0 then
      false
    else
      true
def fX7_has (a0 : Int32) (a1 : Int32) : Bool :=
  if ((a0 >>> (a1 &&& 31)) &&& 1) = 1 then
    true
  else
    false
def fX7_bit (a0 : Int32) : Int32 :=
  if a0 = 0 then
    0
  else
    1
def fX7_goes (a1 : Int32) (σ : Sto) : Option (Bool × Sto) :=
  if a1 = 0 then
    klet (su σ 133 7 1) fun σ1 =>
    if kbo a1 = true then
      some (decide (a1 = 1), σ1)
    else none
  else
    klet (su σ 133 7 0) fun σ3 =>
    if kbo a1 = true then
      some (decide (a1 = 1), σ3)
    else none
def fX7_goesBoth (a1 : Int32) (a2 : Int32) (σ : Sto) : (Bool × Sto) :=
  if a1 = 0 then
    klet (su σ 133 7 1) fun σ3 =>
    if (σ3 133 7) = 0 then
      (true, σ3)
    else
      (false, σ3)
  else
    if a2 = 0 then
      klet (su σ 133 7 2) fun σ2 =>
      if (σ2 133 7) = 0 then
        (true, σ2)
      else
        (false, σ2)
    else
      klet (su σ 133 7 0) fun σ1 =>
      if (σ1 133 7) = 0 then
        (true, σ1)
      else
        (false, σ1)
def fX7_clears_L2 (a1 : Int32) (a2 : Int32) : Nat → Int32 → Sto → Option Sto
  | 0, _, _ => none
  | fu + 1, v3, σ =>
    if 220 ≤ v3 then
      if kin 0 220 = true then
        klet (su σ 134 (Int32.toNatClampNeg 0) a1) fun σ1 =>
        if kin 1 220 = true then
          klet (su σ1 134 (Int32.toNatClampNeg 1) a2) fun σ2 =>
          if kin 3 220 = true then
            klet (su σ2 134 (Int32.toNatClampNeg 3) 90) fun σ3 =>
            some σ3
          else none
        else none
      else none
    else
      if kin v3 220 = true then
        klet (su σ 134 v3.toNatClampNeg 0) fun σ4 =>
        fX7_clears_L2 a1 a2 fu (v3 + 1) σ4
      else none
def fX7_clears (a1 : Int32) (a2 : Int32) (σ : Sto) : Option Sto :=
  fX7_clears_L2 a1 a2 kFU 0 σ
def fX7_copies_L3 (q0 : Nat) (n0 : Nat) (a1 : Int32) (q2 : Nat) (n2 : Nat) (a3 : Int32) : Nat → Int32 → Sto → Option Sto
  | 0, _, _ => none
  | fu + 1, v4, σ =>
    if 220 ≤ v4 then
      some σ
    else
      if kin (a1 + v4) n0 = true then
        if kin (a3 + v4) n2 = true then
          klet (su σ q2 (a3 + v4).toNatClampNeg (σ q0 (a1 + v4).toNatClampNeg)) fun σ1 =>
          fX7_copies_L3 q0 n0 a1 q2 n2 a3 fu (v4 + 1) σ1
        else none
      else none
def fX7_copies (q0 : Nat) (n0 : Nat) (a1 : Int32) (q2 : Nat) (n2 : Nat) (a3 : Int32) (σ : Sto) : Option Sto :=
  fX7_copies_L3 q0 n0 a1 q2 n2 a3 kFU 0 σ
def fX7_c (a1 : Int32) (a2 : Int32) (σ : Sto) : Option Int32 :=
  if kin ((10 + (7 * a1)) + a2) 220 = true then
    some (σ 134 ((10 + (7 * a1)) + a2).toNatClampNeg)
  else none
def fX7_puts (a1 : Int32) (a2 : Int32) (a3 : Int32) (σ : Sto) : Option Sto :=
  if kin ((10 + (7 * a1)) + a2) 220 = true then
    klet (su σ 134 ((10 + (7 * a1)) + a2).toNatClampNeg a3) fun σ1 =>
    some σ1
  else none
def fX7_isChip (a1 : Int32) (σ : Sto) : Option Bool :=
  if kin 5 220 = true then
    some (fX7_isIn a1 0 ((σ 134 (Int32.toNatClampNeg 5)) - 1))
  else none
def fX7_isInside (a1 : Int32) (σ : Sto) : Option Bool :=
  (fX7_c a1 6 σ).bind fun r1 =>
  if r1 = 1 then
    some true
  else
    some false
def fX7_isHex (σ : Sto) : Option Bool :=
  if kin 0 220 = true then
    if (σ 134 (Int32.toNatClampNeg 0)) = 60 then
      some true
    else
      if kin 0 220 = true then
        if (σ 134 (Int32.toNatClampNeg 0)) = 30 then
          some true
        else
          some false
      else none
  else none
def fX7_directions (σ : Sto) : Option Int32 :=
  (fX7_isHex σ).bind fun r1 =>
  if r1 = true then
    some 6
  else
    some 8
def fX7_stepX (a1 : Int32) (σ : Sto) : Option Int32 :=
  (fX7_isHex σ).bind fun r1 =>
  if r1 = true then
    if kin (a1 + 8) 14 = true then
      some (σ 140 (a1 + 8).toNatClampNeg)
    else none
  else
    if kin (a1 + 0) 14 = true then
      some (σ 140 (a1 + 0).toNatClampNeg)
    else none
def fX7_stepY (a1 : Int32) (σ : Sto) : Option Int32 :=
  (fX7_isHex σ).bind fun r1 =>
  if r1 = true then
    if kin (a1 + 8) 14 = true then
      some (σ 141 (a1 + 8).toNatClampNeg)
    else none
  else
    if kin (a1 + 0) 14 = true then
      some (σ 141 (a1 + 0).toNatClampNeg)
    else none
def fX7_abs (a0 : Int32) : Int32 :=
  if 0 ≤ a0 then
    a0
  else
    (-a0)
def fX7_isNear_L45 (a1 : Int32) (a2 : Int32) (s0 : Int32) (σ : Sto) : Option Bool :=
  if s0 = 0 then
    some false
  else
    (fX7_isHex σ).bind fun r1 =>
    if r1 = true then
      if kin 1 220 = true then
        if (σ 134 (Int32.toNatClampNeg 1)) < (fX7_abs (a1 + a2)) then
          some false
        else
          some true
      else none
    else
      some true
def fX7_isNear_L44 (a1 : Int32) (a2 : Int32) (σ : Sto) : Option Bool :=
  fX7_isNear_L45 a1 a2 0 σ
def fX7_isNear (a1 : Int32) (a2 : Int32) (σ : Sto) : Option Bool :=
  if kin 1 220 = true then
    if kin 1 220 = true then
      if (fX7_isIn a1 (-(σ 134 (Int32.toNatClampNeg 1))) (σ 134 (Int32.toNatClampNeg 1))) = true then
        if kin 1 220 = true then
          if kin 1 220 = true then
            if (fX7_isIn a2 (-(σ 134 (Int32.toNatClampNeg 1))) (σ 134 (Int32.toNatClampNeg 1))) = true then
              fX7_isNear_L45 a1 a2 1 σ
            else
              fX7_isNear_L44 a1 a2 σ
          else none
        else none
      else
        fX7_isNear_L44 a1 a2 σ
    else none
  else none
def fX7_isBox_L62 (a1 : Int32) (a2 : Int32) (σ : Sto) : Option Bool :=
  if a1 < 0 then
    some false
  else
    if a2 < 0 then
      some false
    else
      some true
def fX7_isBox (a1 : Int32) (a2 : Int32) (σ : Sto) : Option Bool :=
  (fX7_isNear a1 a2 σ).bind fun r1 =>
  if r1 = true then
    if kin 0 220 = true then
      if (σ 134 (Int32.toNatClampNeg 0)) = 60 then
        fX7_isBox_L62 a1 a2 σ
      else
        if (σ 134 (Int32.toNatClampNeg 0)) = 90 then
          fX7_isBox_L62 a1 a2 σ
        else
          if (σ 134 (Int32.toNatClampNeg 0)) = 180 then
            if a2 < 0 then
              some false
            else
              some true
          else
            if a2 < 0 then
              some false
            else
              if a1 < a2 then
                some false
              else
                some true
    else none
  else
    some false
def fX7_cell (a0 : Int32) (a1 : Int32) : Int32 :=
  (((13 * (a0 + 6)) + a1) + 6)
def fX7_xOf (a0 : Int32) : Int32 :=
  ((a0 / 13) - 6)
def fX7_yOf (a0 : Int32) : Int32 :=
  ((krem a0 13) - 6)
def fX7_isPictureCell (a1 : Int32) (σ : Sto) : Option Bool :=
  (fX7_isNear (fX7_xOf a1) (fX7_yOf a1) σ).bind fun r1 =>
  some r1
def fX7_isBoxCell (a1 : Int32) (σ : Sto) : Option Bool :=
  (fX7_isBox (fX7_xOf a1) (fX7_yOf a1) σ).bind fun r1 =>
  some r1
def fX7_depthOf (a1 : Int32) (a2 : Int32) (σ : Sto) : Option Int32 :=
  if kin 2 220 = true then
    (fX7_stepX (σ 134 (Int32.toNatClampNeg 2)) σ).bind fun r1 =>
    if kin 2 220 = true then
      (fX7_stepY (σ 134 (Int32.toNatClampNeg 2)) σ).bind fun r4 =>
      (fX7_isHex σ).bind fun r7 =>
      if r7 = true then
        some (((2 * ((a1 * r1) + (a2 * r4))) + (a1 * r4)) + (a2 * r1))
      else
        some ((a1 * r1) + (a2 * r4))
    else none
  else none
def fX7_stands (a1 : Int32) (a2 : Int32) (σ : Sto) : Sto :=
  klet (su σ 133 10 a1) fun σ1 =>
  klet (su σ1 133 11 a2) fun σ2 =>
  σ2
def fX7_becomes (a1 : Int32) (a2 : Int32) (σ : Sto) : Sto :=
  klet (su σ 133 10 a1) fun σ1 =>
  klet (su σ1 133 11 a2) fun σ2 =>
  σ2
def fX7_mirrors (a1 : Int32) (σ : Sto) : Option Sto :=
  if a1 = 0 then
    (fX7_isHex σ).bind fun r10 =>
    if r10 = true then
      (some (fX7_becomes ((σ 133 10) + (σ 133 11)) (-(σ 133 11)) σ)).bind fun r16 =>
      some r16
    else
      (some (fX7_becomes (σ 133 10) (-(σ 133 11)) σ)).bind fun r13 =>
      some r13
  else
    if kin 0 220 = true then
      if (σ 134 (Int32.toNatClampNeg 0)) = 90 then
        (some (fX7_becomes (-(σ 133 10)) (σ 133 11) σ)).bind fun r7 =>
        some r7
      else
        if kin 0 220 = true then
          if (σ 134 (Int32.toNatClampNeg 0)) = 60 then
            (some (fX7_becomes (-(σ 133 10)) ((σ 133 10) + (σ 133 11)) σ)).bind fun r4 =>
            some r4
          else
            (some (fX7_becomes (σ 133 11) (σ 133 10) σ)).bind fun r1 =>
            some r1
        else none
    else none
def fX7_turnsOnce (σ : Sto) : Option Sto :=
  (fX7_isHex σ).bind fun r1 =>
  if r1 = true then
    (some (fX7_becomes (-(σ 133 11)) ((σ 133 10) + (σ 133 11)) σ)).bind fun r7 =>
    some r7
  else
    (some (fX7_becomes (-(σ 133 11)) (σ 133 10) σ)).bind fun r4 =>
    some r4
def fX7_half (σ : Sto) : Option Int32 :=
  (fX7_isHex σ).bind fun r1 =>
  if r1 = true then
    some 6
  else
    some 4
def fX7_maps_L15 (a1 : Int32) : Nat → Int32 → Sto → Option Sto
  | 0, _, _ => none
  | fu + 1, v2, σ =>
    (fX7_half σ).bind fun r4 =>
    if r4 = 0 then none else
    if (krem a1 r4) ≤ v2 then
      some σ
    else
      (fX7_turnsOnce σ).bind fun r8 =>
      fX7_maps_L15 a1 fu (v2 + 1) r8
def fX7_maps_L13 (a1 : Int32) (σ : Sto) : Option Sto :=
  fX7_maps_L15 a1 kFU 0 σ
def fX7_maps (a1 : Int32) (σ : Sto) : Option Sto :=
  (fX7_half σ).bind fun r1 =>
  if a1 < r1 then
    fX7_maps_L13 a1 σ
  else
    (fX7_mirrors 0 σ).bind fun r11 =>
    fX7_maps_L13 a1 r11
def fX7_mirrorMany (σ : Sto) : Option Int32 :=
  if kin 0 220 = true then
    if (σ 134 (Int32.toNatClampNeg 0)) = 180 then
      some 1
    else
      some 2
  else none
def fX7_laysChips_L63 (K24 : Int32 → Sto → Option Sto) (v1 : Int32) (σ : Sto) : Option Sto :=
  K24 (v1 + 1) σ
def fX7_laysChips_L24 : Nat → Int32 → Sto → Option Sto
  | 0, _, _ => none
  | fu + 1, v1, σ =>
    if kin 5 220 = true then
      if (σ 134 (Int32.toNatClampNeg 5)) ≤ v1 then
        some σ
      else
        (fX7_isInside v1 σ).bind fun r1 =>
        if r1 = true then
          (fX7_c v1 3 σ).bind fun r4 =>
          (fX7_c v1 4 σ).bind fun r7 =>
          if kin (fX7_cell r4 r7) 169 = true then
            klet (su σ 142 (fX7_cell r4 r7).toNatClampNeg v1) fun σ10 =>
            fX7_laysChips_L63 (fX7_laysChips_L24 fu) v1 σ10
          else none
        else
          fX7_laysChips_L63 (fX7_laysChips_L24 fu) v1 σ
    else none
def fX7_laysChips_L2 : Nat → Int32 → Sto → Option Sto
  | 0, _, _ => none
  | fu + 1, v1, σ =>
    if 169 ≤ v1 then
      fX7_laysChips_L24 kFU 0 σ
    else
      if kin v1 169 = true then
        klet (su σ 142 v1.toNatClampNeg (-1)) fun σ11 =>
        fX7_laysChips_L2 fu (v1 + 1) σ11
      else none
def fX7_laysChips (σ : Sto) : Option Sto :=
  fX7_laysChips_L2 kFU 0 σ
def fX7_spreadsFrom_L100 (a1 : Int32) (K4 : Int32 → Int32 → Sto → Option (Bool × Sto)) (v2 : Int32) (v3 : Int32) (σ : Sto) : Option (Bool × Sto) :=
  K4 v2 (v3 + 1) σ
def fX7_spreadsFrom_L4 (a1 : Int32) : Nat → Int32 → Int32 → Sto → Option (Bool × Sto)
  | 0, _, _, _ => none
  | fu + 1, v2, v3, σ =>
    (fX7_mirrorMany σ).bind fun r1 =>
    if r1 ≤ v3 then
      if kbo v2 = true then
        some (decide (v2 = 1), σ)
      else none
    else
      if kin 6 220 = true then
        if (fX7_has (σ 134 (Int32.toNatClampNeg 6)) v3) = true then
          fX7_spreadsFrom_L100 a1 (fX7_spreadsFrom_L4 a1 fu) v2 v3 σ
        else
          (some (fX7_stands (fX7_xOf a1) (fX7_yOf a1) σ)).bind fun r5 =>
          (fX7_mirrors v3 r5).bind fun r8 =>
          if kin (fX7_cell (r8 133 10) (r8 133 11)) 169 = true then
            if (r8 143 (fX7_cell (r8 133 10) (r8 133 11)).toNatClampNeg) = (-1) then
              if kin a1 169 = true then
                if kin (fX7_cell (r8 133 10) (r8 133 11)) 169 = true then
                  klet (su r8 143 (fX7_cell (r8 133 10) (r8 133 11)).toNatClampNeg ((r8 143 a1.toNatClampNeg) + 1)) fun σ11 =>
                  if kin a1 169 = true then
                    if kin (fX7_cell (r8 133 10) (r8 133 11)) 169 = true then
                      klet (su σ11 144 (fX7_cell (r8 133 10) (r8 133 11)).toNatClampNeg (σ11 144 a1.toNatClampNeg)) fun σ12 =>
                      fX7_spreadsFrom_L100 a1 (fX7_spreadsFrom_L4 a1 fu) 1 v3 σ12
                    else none
                  else none
                else none
              else none
            else
              fX7_spreadsFrom_L100 a1 (fX7_spreadsFrom_L4 a1 fu) v2 v3 r8
          else none
      else none
def fX7_spreadsFrom (a1 : Int32) (σ : Sto) : Option (Bool × Sto) :=
  fX7_spreadsFrom_L4 a1 kFU 0 0 σ
def fX7_laysSeen_L80 (K45 : Int32 → Int32 → Sto → Option Sto) (K53 : Int32 → Int32 → Int32 → Sto → Option Sto) (v1 : Int32) (v2 : Int32) (v3 : Int32) (σ : Sto) : Option Sto :=
  K53 v1 v2 (v3 + 1) σ
def fX7_laysSeen_L53 (K45 : Int32 → Int32 → Sto → Option Sto) : Nat → Int32 → Int32 → Int32 → Sto → Option Sto
  | 0, _, _, _, _ => none
  | fu + 1, v1, v2, v3, σ =>
    if 169 ≤ v3 then
      K45 v1 (v2 + 1) σ
    else
      if kin v3 169 = true then
        if (σ 143 v3.toNatClampNeg) = v2 then
          (fX7_spreadsFrom v3 σ).bind fun r1 =>
          if r1.1 = true then
            fX7_laysSeen_L80 K45 (fX7_laysSeen_L53 K45 fu) 1 v2 v3 r1.2
          else
            fX7_laysSeen_L80 K45 (fX7_laysSeen_L53 K45 fu) v1 v2 v3 r1.2
        else
          fX7_laysSeen_L80 K45 (fX7_laysSeen_L53 K45 fu) v1 v2 v3 σ
      else none
def fX7_laysSeen_L45 : Nat → Int32 → Int32 → Sto → Option Sto
  | 0, _, _, _ => none
  | fu + 1, v1, v2, σ =>
    if v1 = 0 then
      some σ
    else
      fX7_laysSeen_L53 (fX7_laysSeen_L45 fu) kFU 0 v2 0 σ
def fX7_laysSeen_L2 : Nat → Int32 → Sto → Option Sto
  | 0, _, _ => none
  | fu + 1, v1, σ =>
    if 169 ≤ v1 then
      fX7_laysSeen_L45 kFU 1 0 σ
    else
      (fX7_isBoxCell v1 σ).bind fun r4 =>
      if r4 = true then
        if kin v1 169 = true then
          klet (su σ 143 v1.toNatClampNeg 0) fun σ9 =>
          if kin v1 169 = true then
            klet (su σ9 144 v1.toNatClampNeg v1) fun σ10 =>
            fX7_laysSeen_L2 fu (v1 + 1) σ10
          else none
        else none
      else
        if kin v1 169 = true then
          klet (su σ 143 v1.toNatClampNeg (-1)) fun σ7 =>
          if kin v1 169 = true then
            klet (su σ7 144 v1.toNatClampNeg v1) fun σ8 =>
            fX7_laysSeen_L2 fu (v1 + 1) σ8
          else none
        else none
def fX7_laysSeen (σ : Sto) : Option Sto :=
  fX7_laysSeen_L2 kFU 0 σ
def fX7_laysPicture_L55 (K10 : Int32 → Sto → Option Sto) (v1 : Int32) (s0 : Int32) (σ : Sto) : Option Sto :=
  if s0 = 0 then
    if kin v1 169 = true then
      klet (su σ 145 v1.toNatClampNeg 0) fun σ10 =>
      K10 (v1 + 1) σ10
    else none
  else
    if kin v1 169 = true then
      if kin (σ 144 v1.toNatClampNeg) 169 = true then
        (fX7_c (σ 142 (σ 144 v1.toNatClampNeg).toNatClampNeg) 1 σ).bind fun r11 =>
        if kin v1 169 = true then
          klet (su σ 145 v1.toNatClampNeg r11) fun σ14 =>
          K10 (v1 + 1) σ14
        else none
      else none
    else none
def fX7_laysPicture_L54 (K10 : Int32 → Sto → Option Sto) (v1 : Int32) (σ : Sto) : Option Sto :=
  fX7_laysPicture_L55 K10 v1 0 σ
def fX7_laysPicture_L10 : Nat → Int32 → Sto → Option Sto
  | 0, _, _ => none
  | fu + 1, v1, σ =>
    if 169 ≤ v1 then
      some σ
    else
      (fX7_isPictureCell v1 σ).bind fun r7 =>
      if r7 = true then
        if kin v1 169 = true then
          if (σ 143 v1.toNatClampNeg) = (-1) then
            fX7_laysPicture_L54 (fX7_laysPicture_L10 fu) v1 σ
          else
            if kin v1 169 = true then
              if kin (σ 144 v1.toNatClampNeg) 169 = true then
                if (σ 142 (σ 144 v1.toNatClampNeg).toNatClampNeg) = (-1) then
                  fX7_laysPicture_L54 (fX7_laysPicture_L10 fu) v1 σ
                else
                  fX7_laysPicture_L55 (fX7_laysPicture_L10 fu) v1 1 σ
              else none
            else none
        else none
      else
        fX7_laysPicture_L54 (fX7_laysPicture_L10 fu) v1 σ
def fX7_laysPicture (σ : Sto) : Option Sto :=
  (fX7_laysChips σ).bind fun r1 =>
  (fX7_laysSeen r1).bind fun r4 =>
  fX7_laysPicture_L10 kFU 0 r4
def fX7_brightnessOf_L18 (a1 : Int32) : Nat → Int32 → Int32 → Sto → Option Int32
  | 0, _, _, _ => none
  | fu + 1, v2, v3, σ =>
    if kin a1 169 = true then
      if (σ 143 a1.toNatClampNeg) ≤ v3 then
        some v2
      else
        if kin 3 220 = true then
          fX7_brightnessOf_L18 a1 fu ((v2 * (σ 134 (Int32.toNatClampNeg 3))) / 100) (v3 + 1) σ
        else none
    else none
def fX7_brightnessOf (a1 : Int32) (σ : Sto) : Option Int32 :=
  if kin a1 169 = true then
    if (σ 143 a1.toNatClampNeg) = (-1) then
      some 0
    else
      fX7_brightnessOf_L18 a1 kFU 1000 0 σ
  else none
def fX7_cellsWith_L35 (a1 : Int32) (K4 : Int32 → Int32 → Sto → Option Int32) (v3 : Int32) (s0 : Int32) (s1 : Int32) (σ : Sto) : Option Int32 :=
  K4 (s1 + (fX7_bit s0)) (v3 + 1) σ
def fX7_cellsWith_L34 (a1 : Int32) (K4 : Int32 → Int32 → Sto → Option Int32) (v3 : Int32) (s0 : Int32) (σ : Sto) : Option Int32 :=
  fX7_cellsWith_L35 a1 K4 v3 0 s0 σ
def fX7_cellsWith_L4 (a1 : Int32) : Nat → Int32 → Int32 → Sto → Option Int32
  | 0, _, _, _ => none
  | fu + 1, v2, v3, σ =>
    if 169 ≤ v3 then
      some v2
    else
      (fX7_isPictureCell v3 σ).bind fun r1 =>
      if r1 = true then
        if kin v3 169 = true then
          if (σ 145 v3.toNatClampNeg) = a1 then
            fX7_cellsWith_L35 a1 (fX7_cellsWith_L4 a1 fu) v3 1 v2 σ
          else
            fX7_cellsWith_L34 a1 (fX7_cellsWith_L4 a1 fu) v3 v2 σ
        else none
      else
        fX7_cellsWith_L34 a1 (fX7_cellsWith_L4 a1 fu) v3 v2 σ
def fX7_cellsWith (a1 : Int32) (σ : Sto) : Option Int32 :=
  fX7_cellsWith_L4 a1 kFU 0 0 σ
def fX7_arranges_L188 (a1 : Int32) (K7 : Int32 → Sto → Option Sto) (v2 : Int32) (σ : Sto) : Option Sto :=
  K7 (v2 + 1) σ
def fX7_arranges_L161 (a1 : Int32) (K7 : Int32 → Sto → Option Sto) (v2 : Int32) (v4 : Int32) (v5 : Int32) (σ : Sto) : Option Sto :=
  if kin v5 30 = true then
    klet (su σ 147 v5.toNatClampNeg v4) fun σ20 =>
    if kin v5 30 = true then
      klet (su σ20 146 v5.toNatClampNeg v2) fun σ21 =>
      klet (su σ21 133 18 ((σ21 133 18) + 1)) fun σ22 =>
      fX7_arranges_L188 a1 K7 v2 σ22
    else none
  else none
def fX7_arranges_L104 (a1 : Int32) (K7 : Int32 → Sto → Option Sto) : Nat → Int32 → Int32 → Int32 → Sto → Option Sto
  | 0, _, _, _, _ => none
  | fu + 1, v2, v4, v5, σ =>
    if v5 ≤ 0 then
      fX7_arranges_L161 a1 K7 v2 v4 v5 σ
    else
      if kin (v5 - 1) 30 = true then
        if (σ 147 (v5 - 1).toNatClampNeg) ≤ v4 then
          fX7_arranges_L161 a1 K7 v2 v4 v5 σ
        else
          if kin (v5 - 1) 30 = true then
            if kin v5 30 = true then
              klet (su σ 147 v5.toNatClampNeg (σ 147 (v5 - 1).toNatClampNeg)) fun σ23 =>
              if kin (v5 - 1) 30 = true then
                if kin v5 30 = true then
                  klet (su σ23 146 v5.toNatClampNeg (σ23 146 (v5 - 1).toNatClampNeg)) fun σ24 =>
                  fX7_arranges_L104 a1 K7 fu v2 v4 (v5 + (-1)) σ24
                else none
              else none
            else none
          else none
      else none
def fX7_arranges_L96 (a1 : Int32) (K7 : Int32 → Sto → Option Sto) (v2 : Int32) (s0 : Int32) (σ : Sto) : Option Sto :=
  fX7_arranges_L104 a1 K7 kFU v2 s0 (σ 133 18) σ
def fX7_arranges_L56 (a1 : Int32) (K7 : Int32 → Sto → Option Sto) (v2 : Int32) (σ : Sto) : Option Sto :=
  (fX7_c v2 3 σ).bind fun r8 =>
  (fX7_c v2 4 σ).bind fun r11 =>
  (fX7_depthOf r8 r11 σ).bind fun r14 =>
  (fX7_c v2 2 σ).bind fun r17 =>
  if a1 = 0 then
    fX7_arranges_L96 a1 K7 v2 (-((10 * r14) + r17)) σ
  else
    fX7_arranges_L96 a1 K7 v2 ((10 * r14) + r17) σ
def fX7_arranges_L7 (a1 : Int32) : Nat → Int32 → Sto → Option Sto
  | 0, _, _ => none
  | fu + 1, v2, σ =>
    if kin 5 220 = true then
      if (σ 134 (Int32.toNatClampNeg 5)) ≤ v2 then
        some σ
      else
        (fX7_c v2 0 σ).bind fun r2 =>
        (fX7_isInside v2 σ).bind fun r5 =>
        if r5 = true then
          if a1 = 0 then
            if r2 = 0 then
              fX7_arranges_L56 a1 (fX7_arranges_L7 a1 fu) v2 σ
            else
              if r2 = 1 then
                fX7_arranges_L56 a1 (fX7_arranges_L7 a1 fu) v2 σ
              else
                fX7_arranges_L188 a1 (fX7_arranges_L7 a1 fu) v2 σ
          else
            if r2 = 2 then
              fX7_arranges_L56 a1 (fX7_arranges_L7 a1 fu) v2 σ
            else
              fX7_arranges_L188 a1 (fX7_arranges_L7 a1 fu) v2 σ
        else
          fX7_arranges_L188 a1 (fX7_arranges_L7 a1 fu) v2 σ
    else none
def fX7_arranges (a1 : Int32) (σ : Sto) : Option Sto :=
  klet (su σ 133 18 0) fun σ1 =>
  fX7_arranges_L7 a1 kFU 0 σ1
def fX7_turned (a1 : Int32) (a2 : Int32) (σ : Sto) : Option Int32 :=
  (fX7_directions σ).bind fun r1 =>
  (fX7_directions σ).bind fun r4 =>
  if r4 = 0 then none else
  some (krem ((a1 + a2) + r1) r4)
def fX7_lies (a1 : Int32) (a2 : Int32) (a3 : Int32) (σ : Sto) : Option Sto :=
  (fX7_puts a1 3 a2 σ).bind fun r1 =>
  (fX7_puts a1 4 a3 r1).bind fun r4 =>
  if kin (fX7_cell a2 a3) 169 = true then
    klet (su r4 142 (fX7_cell a2 a3).toNatClampNeg a1) fun σ7 =>
    some σ7
  else none
def fX7_tries_L152 (a1 : Int32) (a2 : Int32) (a3 : Int32) (σ : Sto) : Option (Bool × Sto) :=
  (fX7_c a1 5 σ).bind fun r20 =>
  (fX7_puts a1 5 (r20 + 1) σ).bind fun r23 =>
  if kin 7 220 = true then
    if kin 7 220 = true then
      klet (su r23 134 (Int32.toNatClampNeg 7) ((r23 134 (Int32.toNatClampNeg 7)) + 1)) fun σ26 =>
      some (true, σ26)
    else none
  else none
def fX7_tries_L104 (a1 : Int32) (a2 : Int32) (a3 : Int32) (v4 : Int32) (v5 : Int32) (v6 : Int32) (v7 : Int32) (v8 : Int32) (v9 : Int32) (σ : Sto) : Option (Bool × Sto) :=
  if kin (fX7_cell v4 v5) 169 = true then
    klet (su σ 142 (fX7_cell v4 v5).toNatClampNeg (-1)) fun σ16 =>
    (fX7_lies a1 v6 v7 σ16).bind fun r17 =>
    if v9 = 0 then
      fX7_tries_L152 a1 a2 a3 r17
    else
      (fX7_lies v8 v4 v5 r17).bind fun r27 =>
      if kin 8 220 = true then
        if kin 8 220 = true then
          klet (su r27 134 (Int32.toNatClampNeg 8) ((r27 134 (Int32.toNatClampNeg 8)) + 1)) fun σ30 =>
          fX7_tries_L152 a1 a2 a3 σ30
        else none
      else none
  else none
def fX7_tries_L89 (a1 : Int32) (a2 : Int32) (a3 : Int32) (v4 : Int32) (v5 : Int32) (v6 : Int32) (v7 : Int32) (v8 : Int32) (s0 : Int32) (σ : Sto) : Option (Bool × Sto) :=
  if v8 = (-1) then
    fX7_tries_L104 a1 a2 a3 v4 v5 v6 v7 v8 s0 σ
  else
    if s0 = 0 then
      some (false, σ)
    else
      fX7_tries_L104 a1 a2 a3 v4 v5 v6 v7 v8 s0 σ
def fX7_tries_L88 (a1 : Int32) (a2 : Int32) (a3 : Int32) (v4 : Int32) (v5 : Int32) (v6 : Int32) (v7 : Int32) (v8 : Int32) (σ : Sto) : Option (Bool × Sto) :=
  fX7_tries_L89 a1 a2 a3 v4 v5 v6 v7 v8 0 σ
def fX7_tries (a1 : Int32) (a2 : Int32) (a3 : Int32) (σ : Sto) : Option (Bool × Sto) :=
  (fX7_c a1 3 σ).bind fun r1 =>
  (fX7_c a1 4 σ).bind fun r4 =>
  (fX7_stepX a2 σ).bind fun r7 =>
  (fX7_stepY a2 σ).bind fun r10 =>
  (fX7_isBox (r1 + r7) (r4 + r10) σ).bind fun r13 =>
  if r13 = true then
    if kin (fX7_cell (r1 + r7) (r4 + r10)) 169 = true then
      if (σ 142 (fX7_cell (r1 + r7) (r4 + r10)).toNatClampNeg) = (-1) then
        fX7_tries_L88 a1 a2 a3 r1 r4 (r1 + r7) (r4 + r10) (σ 142 (fX7_cell (r1 + r7) (r4 + r10)).toNatClampNeg) σ
      else
        if a3 = 0 then
          fX7_tries_L88 a1 a2 a3 r1 r4 (r1 + r7) (r4 + r10) (σ 142 (fX7_cell (r1 + r7) (r4 + r10)).toNatClampNeg) σ
        else
          (fX7_c (σ 142 (fX7_cell (r1 + r7) (r4 + r10)).toNatClampNeg) 0 σ).bind fun r31 =>
          if r31 = 2 then
            fX7_tries_L89 a1 a2 a3 r1 r4 (r1 + r7) (r4 + r10) (σ 142 (fX7_cell (r1 + r7) (r4 + r10)).toNatClampNeg) 1 σ
          else
            fX7_tries_L88 a1 a2 a3 r1 r4 (r1 + r7) (r4 + r10) (σ 142 (fX7_cell (r1 + r7) (r4 + r10)).toNatClampNeg) σ
    else none
  else
    some (false, σ)
def fX7_falls_L92 (a1 : Int32) (s0 : Int32) (σ : Sto) : Option (Bool × Sto) :=
  if kin 9 220 = true then
    if kin 9 220 = true then
      klet (su σ 134 (Int32.toNatClampNeg 9) ((σ 134 (Int32.toNatClampNeg 9)) + (fX7_bit s0))) fun σ13 =>
      if kbo s0 = true then
        some (decide (s0 = 1), σ13)
      else none
    else none
  else none
def fX7_falls_L87 (a1 : Int32) (σ : Sto) : Option (Bool × Sto) :=
  fX7_falls_L92 a1 1 σ
def fX7_falls_L45 (a1 : Int32) (s0 : Int32) (σ : Sto) : Option (Bool × Sto) :=
  if kin 2 220 = true then
    (fX7_turned (σ 134 (Int32.toNatClampNeg 2)) s0 σ).bind fun r7 =>
    (fX7_tries a1 r7 0 σ).bind fun r10 =>
    if r10.1 = true then
      fX7_falls_L87 a1 r10.2
    else
      if kin 2 220 = true then
        (fX7_turned (r10.2 134 (Int32.toNatClampNeg 2)) (-s0) r10.2).bind fun r15 =>
        (fX7_tries a1 r15 0 r10.2).bind fun r18 =>
        if r18.1 = true then
          fX7_falls_L87 a1 r18.2
        else
          fX7_falls_L92 a1 0 r18.2
      else none
  else none
def fX7_falls (a1 : Int32) (σ : Sto) : Option (Bool × Sto) :=
  if kin 2 220 = true then
    (fX7_tries a1 (σ 134 (Int32.toNatClampNeg 2)) 1 σ).bind fun r1 =>
    if r1.1 = true then
      some (true, r1.2)
    else
      (fX7_c a1 0 r1.2).bind fun r4 =>
      if r4 = 1 then
        if kin 4 220 = true then
          if (krem (r1.2 134 (Int32.toNatClampNeg 4)) 2) = 0 then
            fX7_falls_L45 a1 1 r1.2
          else
            fX7_falls_L45 a1 (-1) r1.2
        else none
      else
        some (false, r1.2)
  else none
def fX7_ticksOnce_L50 : Nat → Int32 → Int32 → Sto → Option (Int32 × Sto)
  | 0, _, _, _ => none
  | fu + 1, v1, v2, σ =>
    if (σ 133 18) ≤ v2 then
      if kin 4 220 = true then
        if kin 4 220 = true then
          klet (su σ 134 (Int32.toNatClampNeg 4) ((σ 134 (Int32.toNatClampNeg 4)) + 1)) fun σ10 =>
          some (v1, σ10)
        else none
      else none
    else
      if kin v2 30 = true then
        if kin 2 220 = true then
          (fX7_directions σ).bind fun r11 =>
          (fX7_turned (σ 134 (Int32.toNatClampNeg 2)) (r11 / 2) σ).bind fun r14 =>
          (fX7_tries (σ 146 v2.toNatClampNeg) r14 0 σ).bind fun r17 =>
          fX7_ticksOnce_L50 fu (v1 + (fX7_bit (kb r17.1))) (v2 + 1) r17.2
        else none
      else none
def fX7_ticksOnce_L13 : Nat → Int32 → Int32 → Sto → Option (Int32 × Sto)
  | 0, _, _, _ => none
  | fu + 1, v1, v2, σ =>
    if (σ 133 18) ≤ v2 then
      (fX7_arranges 1 σ).bind fun r7 =>
      fX7_ticksOnce_L50 kFU v1 0 r7
    else
      if kin v2 30 = true then
        (fX7_falls (σ 146 v2.toNatClampNeg) σ).bind fun r20 =>
        fX7_ticksOnce_L13 fu (v1 + (fX7_bit (kb r20.1))) (v2 + 1) r20.2
      else none
def fX7_ticksOnce (σ : Sto) : Option (Int32 × Sto) :=
  (fX7_laysChips σ).bind fun r1 =>
  (fX7_arranges 0 r1).bind fun r4 =>
  fX7_ticksOnce_L13 kFU 0 0 r4
def fX7_movesNow (σ : Sto) : Option (Int32 × Sto) :=
  (fX7_copies 134 220 0 148 220 0 σ).bind fun r1 =>
  (fX7_ticksOnce r1).bind fun r4 =>
  (fX7_copies 148 220 0 134 220 0 r4.2).bind fun r7 =>
  some (r4.1, r7)
def fX7_settlesAll_L2 : Nat → Int32 → Sto → Option (Int32 × Sto)
  | 0, _, _ => none
  | fu + 1, v1, σ =>
    (fX7_movesNow σ).bind fun r1 =>
    if r1.1 ≤ 0 then
      some (v1, r1.2)
    else
      (fX7_ticksOnce r1.2).bind fun r4 =>
      fX7_settlesAll_L2 fu (v1 + 1) r4.2
def fX7_settlesAll (σ : Sto) : Option (Int32 × Sto) :=
  fX7_settlesAll_L2 kFU 0 σ
def fX7_appendText_L29 (a1 : Int32) : Nat → Int32 → Sto → Option (Int32 × Sto)
  | 0, _, _ => none
  | fu + 1, v2, σ =>
    if v2 < 0 then
      some ((σ 133 21), σ)
    else
      if kin (σ 133 21) 600 = true then
        klet (su σ 149 (σ 133 21).toNatClampNeg ((a1 >>> (v2 &&& 31)) &&& 255)) fun σ4 =>
        klet (su σ4 133 21 ((σ4 133 21) + 1)) fun σ5 =>
        fX7_appendText_L29 a1 fu (v2 + (-8)) σ5
      else none
def fX7_appendText (a1 : Int32) (σ : Sto) : Option (Int32 × Sto) :=
  if 600 < ((σ 133 21) + 4) then
    (fX7_goes 0 σ).bind fun r1 =>
    if r1.1 = true then
      fX7_appendText_L29 a1 kFU 24 r1.2
    else
      some (0, r1.2)
  else
    (fX7_goes 1 σ).bind fun r6 =>
    if r6.1 = true then
      fX7_appendText_L29 a1 kFU 24 r6.2
    else
      some (0, r6.2)
def fX7_truncateText (a1 : Int32) (σ : Sto) : Option (Int32 × Sto) :=
  (fX7_goes (kb (fX7_isIn a1 0 (σ 133 21))) σ).bind fun r1 =>
  if r1.1 = true then
    klet (su r1.2 133 21 a1) fun σ4 =>
    some ((σ4 133 21), σ4)
  else
    some (0, r1.2)
def fX7_errorCode (σ : Sto) : (Int32 × Sto) :=
  klet (su σ 133 7 0) fun σ1 =>
  ((σ1 133 28), σ1)
def fX7_errorPosition (σ : Sto) : (Int32 × Sto) :=
  klet (su σ 133 7 0) fun σ1 =>
  ((σ1 133 29), σ1)
def fX7_byteAt (a1 : Int32) (σ : Sto) : Option Int32 :=
  if (σ 133 21) ≤ a1 then
    some (-1)
  else
    if kin a1 600 = true then
      some (σ 149 a1.toNatClampNeg)
    else none
def fX7_isLetter (a1 : Int32) (σ : Sto) : Option Bool :=
  (fX7_byteAt a1 σ).bind fun r1 =>
  some (fX7_isIn r1 97 122)
def fX7_isDigit (a1 : Int32) (σ : Sto) : Option Bool :=
  (fX7_byteAt a1 σ).bind fun r1 =>
  some (fX7_isIn r1 48 57)
def fX7_scans_L26 (K0 : Sto → Option Sto) (σ : Sto) : Option Sto :=
  klet (su σ 133 22 ((σ 133 22) + 1)) fun σ4 =>
  K0 σ4
def fX7_scans_L126 : Nat → Sto → Option Sto
  | 0, _ => none
  | fu + 1, σ =>
    (fX7_isDigit (σ 133 22) σ).bind fun r25 =>
    if r25 = true then
      if kin (σ 133 22) 600 = true then
        klet (su σ 133 25 (if (((10 * (σ 133 25)) + (σ 149 (σ 133 22).toNatClampNeg)) - 48) < 1000 then (((10 * (σ 133 25)) + (σ 149 (σ 133 22).toNatClampNeg)) - 48) else 1000)) fun σ29 =>
        klet (su σ29 133 22 ((σ29 133 22) + 1)) fun σ30 =>
        fX7_scans_L126 fu σ30
      else none
    else
      klet (su σ 133 24 2) fun σ28 =>
      some σ28
def fX7_scans_L78 : Nat → Sto → Option Sto
  | 0, _ => none
  | fu + 1, σ =>
    (fX7_isLetter (σ 133 22) σ).bind fun r31 =>
    if r31 = true then
      klet (su σ 133 22 ((σ 133 22) + 1)) fun σ35 =>
      fX7_scans_L78 fu σ35
    else
      klet (su σ 133 24 1) fun σ34 =>
      some σ34
def fX7_scans_L0 : Nat → Sto → Option Sto
  | 0, _ => none
  | fu + 1, σ =>
    (fX7_byteAt (σ 133 22) σ).bind fun r1 =>
    if r1 = 32 then
      fX7_scans_L26 (fX7_scans_L0 fu) σ
    else
      (fX7_byteAt (σ 133 22) σ).bind fun r5 =>
      if r5 = 10 then
        fX7_scans_L26 (fX7_scans_L0 fu) σ
      else
        klet (su σ 133 23 (σ 133 22)) fun σ8 =>
        (fX7_byteAt (σ8 133 22) σ8).bind fun r9 =>
        if r9 = (-1) then
          klet (su σ8 133 24 0) fun σ36 =>
          some σ36
        else
          (fX7_isLetter (σ8 133 22) σ8).bind fun r12 =>
          if r12 = true then
            fX7_scans_L78 kFU σ8
          else
            (fX7_isDigit (σ8 133 22) σ8).bind fun r15 =>
            if r15 = true then
              klet (su σ8 133 25 0) fun σ24 =>
              fX7_scans_L126 kFU σ24
            else
              if kin (σ8 133 22) 600 = true then
                if (σ8 149 (σ8 133 22).toNatClampNeg) = 59 then
                  klet (su σ8 133 24 3) fun σ18 =>
                  klet (su σ18 133 22 ((σ18 133 22) + 1)) fun σ19 =>
                  some σ19
                else
                  if kin (σ8 133 22) 600 = true then
                    if (σ8 149 (σ8 133 22).toNatClampNeg) = 45 then
                      klet (su σ8 133 24 3) fun σ22 =>
                      klet (su σ22 133 22 ((σ22 133 22) + 1)) fun σ23 =>
                      some σ23
                    else
                      klet (su σ8 133 24 4) fun σ20 =>
                      klet (su σ20 133 22 ((σ20 133 22) + 1)) fun σ21 =>
                      some σ21
                  else none
              else none
def fX7_scans (σ : Sto) : Option Sto :=
  fX7_scans_L0 kFU σ
def fX7_fails (a1 : Int32) (σ : Sto) : Sto :=
  if (σ 133 26) = 0 then
    klet (su σ 133 26 a1) fun σ1 =>
    klet (su σ1 133 27 (σ1 133 23)) fun σ2 =>
    σ2
  else
    σ
def fX7_isGood (σ : Sto) : Bool :=
  if (σ 133 26) = 0 then
    true
  else
    false
def fX7_goesOn (σ : Sto) : Option Sto :=
  if (fX7_isGood σ) = true then
    (fX7_scans σ).bind fun r1 =>
    some r1
  else
    some σ
def fX7_isWord_L75 (t1 : Nat) (K39 : Int32 → Int32 → Sto → Option Bool) (v3 : Int32) (s0 : Int32) (σ : Sto) : Option Bool :=
  K39 s0 (v3 + 1) σ
def fX7_isWord_L39 (t1 : Nat) : Nat → Int32 → Int32 → Sto → Option Bool
  | 0, _, _, _ => none
  | fu + 1, v2, v3, σ =>
    if v2 = 0 then
      if kbo v2 = true then
        some (decide (v2 = 1))
      else none
    else
      if (nI (ksby t1).length) ≤ v3 then
        if kbo v2 = true then
          some (decide (v2 = 1))
        else none
      else
        if kin ((σ 133 23) + v3) 600 = true then
          if kin v3 (ksby t1).length = true then
            if (σ 149 ((σ 133 23) + v3).toNatClampNeg) = (ksch t1 v3) then
              fX7_isWord_L75 t1 (fX7_isWord_L39 t1 fu) v3 1 σ
            else
              fX7_isWord_L75 t1 (fX7_isWord_L39 t1 fu) v3 0 σ
          else none
        else none
def fX7_isWord_L36 (t1 : Nat) (s0 : Int32) (σ : Sto) : Option Bool :=
  fX7_isWord_L39 t1 kFU s0 0 σ
def fX7_isWord_L35 (t1 : Nat) (σ : Sto) : Option Bool :=
  fX7_isWord_L36 t1 0 σ
def fX7_isWord (t1 : Nat) (σ : Sto) : Option Bool :=
  if (fX7_isGood σ) = true then
    if (σ 133 24) = 1 then
      if ((σ 133 22) - (σ 133 23)) = (nI (ksby t1).length) then
        fX7_isWord_L36 t1 1 σ
      else
        fX7_isWord_L35 t1 σ
    else
      fX7_isWord_L35 t1 σ
  else
    fX7_isWord_L35 t1 σ
def fX7_isSign (a1 : Int32) (σ : Sto) : Option Bool :=
  if (fX7_isGood σ) = true then
    if (σ 133 24) = 3 then
      if kin (σ 133 23) 600 = true then
        if (σ 149 (σ 133 23).toNatClampNeg) = a1 then
          some true
        else
          some false
      else none
    else
      some false
  else
    some false
def fX7_needs (t1 : Nat) (σ : Sto) : Option Sto :=
  (fX7_isWord t1 σ).bind fun r1 =>
  if r1 = true then
    (fX7_goesOn σ).bind fun r4 =>
    some r4
  else
    (some (fX7_fails 1 σ)).bind fun r7 =>
    (fX7_goesOn r7).bind fun r10 =>
    some r10
def fX7_ends (σ : Sto) : Option Sto :=
  (fX7_isSign 59 σ).bind fun r1 =>
  if r1 = true then
    (fX7_goesOn σ).bind fun r4 =>
    some r4
  else
    (some (fX7_fails 1 σ)).bind fun r7 =>
    (fX7_goesOn r7).bind fun r10 =>
    some r10
def fX7_looks_L30 (a1 : Int32) (a2 : Int32) (σ : Sto) : Option (Int32 × Sto) :=
  if (fX7_isGood σ) = true then
    some ((σ 133 25), σ)
  else
    some (a1, σ)
def fX7_looks_L13 (a1 : Int32) (a2 : Int32) (σ : Sto) : Option (Int32 × Sto) :=
  if (fX7_isIn (σ 133 25) a1 a2) = true then
    fX7_looks_L30 a1 a2 σ
  else
    (some (fX7_fails 2 σ)).bind fun r1 =>
    fX7_looks_L30 a1 a2 r1
def fX7_looks (a1 : Int32) (a2 : Int32) (σ : Sto) : Option (Int32 × Sto) :=
  if (σ 133 24) = 2 then
    fX7_looks_L13 a1 a2 σ
  else
    (some (fX7_fails 1 σ)).bind fun r4 =>
    fX7_looks_L13 a1 a2 r4
def fX7_reads (a1 : Int32) (a2 : Int32) (σ : Sto) : Option (Int32 × Sto) :=
  (fX7_looks a1 a2 σ).bind fun r1 =>
  (fX7_goesOn r1.2).bind fun r4 =>
  some (r1.1, r4)
def fX7_isAngle (a0 : Int32) : Bool :=
  if a0 = 180 then
    true
  else
    if a0 = 90 then
      true
    else
      if a0 = 45 then
        true
      else
        if a0 = 60 then
          true
        else
          if a0 = 30 then
            true
          else
            false
def fX7_kindHere (σ : Sto) : Option Int32 :=
  (fX7_isWord 11 σ).bind fun r1 =>
  if r1 = true then
    some 0
  else
    (fX7_isWord 12 σ).bind fun r4 =>
    if r4 = true then
      some 1
    else
      (fX7_isWord 13 σ).bind fun r7 =>
      if r7 = true then
        some 2
      else
        (fX7_isWord 14 σ).bind fun r10 =>
        if r10 = true then
          some 3
        else
          some (-1)
def fX7_placeHere_L15 (v1 : Int32) (σ : Sto) : Option (Int32 × Sto) :=
  (fX7_looks 0 6 σ).bind fun r4 =>
  if v1 = 0 then
    some (r4.1, r4.2)
  else
    some ((-r4.1), r4.2)
def fX7_placeHere (σ : Sto) : Option (Int32 × Sto) :=
  (fX7_isSign 45 σ).bind fun r1 =>
  if r1 = true then
    (fX7_scans σ).bind fun r7 =>
    fX7_placeHere_L15 (kb r1) r7
  else
    fX7_placeHere_L15 (kb r1) σ
def fX7_lays (a1 : Int32) (a2 : Int32) (a3 : Int32) (a4 : Int32) (a5 : Int32) (σ : Sto) : Option (Int32 × Sto) :=
  if kin 5 220 = true then
    (fX7_puts (σ 134 (Int32.toNatClampNeg 5)) 0 a1 σ).bind fun r1 =>
    (fX7_puts (σ 134 (Int32.toNatClampNeg 5)) 1 a2 r1).bind fun r4 =>
    (fX7_puts (σ 134 (Int32.toNatClampNeg 5)) 2 a3 r4).bind fun r7 =>
    (fX7_puts (σ 134 (Int32.toNatClampNeg 5)) 3 a4 r7).bind fun r10 =>
    (fX7_puts (σ 134 (Int32.toNatClampNeg 5)) 4 a5 r10).bind fun r13 =>
    (fX7_puts (σ 134 (Int32.toNatClampNeg 5)) 5 0 r13).bind fun r16 =>
    (fX7_puts (σ 134 (Int32.toNatClampNeg 5)) 6 1 r16).bind fun r19 =>
    if kin 5 220 = true then
      if kin 5 220 = true then
        klet (su r19 134 (Int32.toNatClampNeg 5) ((r19 134 (Int32.toNatClampNeg 5)) + 1)) fun σ22 =>
        some ((σ 134 (Int32.toNatClampNeg 5)), σ22)
      else none
    else none
  else none
def fX7_chipNow_L53 (a1 : Int32) (a2 : Int32) (K5 : Int32 → Int32 → Sto → Option Int32) (v4 : Int32) (s0 : Int32) (σ : Sto) : Option Int32 :=
  K5 s0 (v4 + 1) σ
def fX7_chipNow_L52 (a1 : Int32) (a2 : Int32) (K5 : Int32 → Int32 → Sto → Option Int32) (v3 : Int32) (v4 : Int32) (σ : Sto) : Option Int32 :=
  fX7_chipNow_L53 a1 a2 K5 v4 v3 σ
def fX7_chipNow_L5 (a1 : Int32) (a2 : Int32) : Nat → Int32 → Int32 → Sto → Option Int32
  | 0, _, _, _ => none
  | fu + 1, v3, v4, σ =>
    if kin 5 220 = true then
      if (σ 134 (Int32.toNatClampNeg 5)) ≤ v4 then
        some v3
      else
        (fX7_isInside v4 σ).bind fun r1 =>
        if r1 = true then
          (fX7_c v4 3 σ).bind fun r4 =>
          if r4 = a1 then
            (fX7_c v4 4 σ).bind fun r7 =>
            if r7 = a2 then
              fX7_chipNow_L53 a1 a2 (fX7_chipNow_L5 a1 a2 fu) v4 v4 σ
            else
              fX7_chipNow_L52 a1 a2 (fX7_chipNow_L5 a1 a2 fu) v3 v4 σ
          else
            fX7_chipNow_L52 a1 a2 (fX7_chipNow_L5 a1 a2 fu) v3 v4 σ
        else
          fX7_chipNow_L52 a1 a2 (fX7_chipNow_L5 a1 a2 fu) v3 v4 σ
    else none
def fX7_chipNow (a1 : Int32) (a2 : Int32) (σ : Sto) : Option Int32 :=
  fX7_chipNow_L5 a1 a2 kFU (-1) 0 σ
def fX7_readsChip_L87 (a1 : Int32) (v2 : Int32) (v3 : Int32) (v4 : Int32) (v5 : Int32) (σ : Sto) : Option Sto :=
  (fX7_goesOn σ).bind fun r19 =>
  if (fX7_isGood r19) = true then
    (fX7_lays a1 v2 v3 v4 v5 r19).bind fun r22 =>
    some r22.2
  else
    some r19
def fX7_readsChip_L82 (a1 : Int32) (v2 : Int32) (v3 : Int32) (v4 : Int32) (v5 : Int32) (σ : Sto) : Option Sto :=
  (some (fX7_fails 3 σ)).bind fun r28 =>
  fX7_readsChip_L87 a1 v2 v3 v4 v5 r28
def fX7_readsChip_L16 (a1 : Int32) (σ : Sto) : Option Sto :=
  (fX7_goesOn σ).bind fun r1 =>
  (fX7_reads 1 9 r1).bind fun r4 =>
  (fX7_reads 1 9 r4.2).bind fun r7 =>
  (fX7_placeHere r7.2).bind fun r10 =>
  (fX7_goesOn r10.2).bind fun r13 =>
  (fX7_placeHere r13).bind fun r16 =>
  if (fX7_isGood r16.2) = true then
    (fX7_isBox r10.1 r16.1 r16.2).bind fun r25 =>
    if r25 = true then
      (fX7_chipNow r10.1 r16.1 r16.2).bind fun r31 =>
      if r31 = (-1) then
        fX7_readsChip_L87 a1 r4.1 r7.1 r10.1 r16.1 r16.2
      else
        fX7_readsChip_L82 a1 r4.1 r7.1 r10.1 r16.1 r16.2
    else
      fX7_readsChip_L82 a1 r4.1 r7.1 r10.1 r16.1 r16.2
  else
    fX7_readsChip_L87 a1 r4.1 r7.1 r10.1 r16.1 r16.2
def fX7_readsChip (a1 : Int32) (σ : Sto) : Option Sto :=
  if kin 5 220 = true then
    if (σ 134 (Int32.toNatClampNeg 5)) = 30 then
      (some (fX7_fails 4 σ)).bind fun r34 =>
      fX7_readsChip_L16 a1 r34
    else
      fX7_readsChip_L16 a1 σ
  else none
def fX7_readsCover_L42 (v1 : Int32) (σ : Sto) : Option Sto :=
  (fX7_goesOn σ).bind fun r10 =>
  if kin 6 220 = true then
    if kin 6 220 = true then
      klet (su r10 134 (Int32.toNatClampNeg 6) ((r10 134 (Int32.toNatClampNeg 6)) ||| (1 <<< (v1 &&& 31)))) fun σ13 =>
      some σ13
    else none
  else none
def fX7_readsCover (σ : Sto) : Option Sto :=
  (fX7_goesOn σ).bind fun r1 =>
  (fX7_mirrorMany r1).bind fun r4 =>
  (fX7_looks 0 (r4 - 1) r1).bind fun r7 =>
  if (fX7_isGood r7.2) = true then
    if kin 6 220 = true then
      if (fX7_has (r7.2 134 (Int32.toNatClampNeg 6)) r7.1) = true then
        (some (fX7_fails 3 r7.2)).bind fun r14 =>
        fX7_readsCover_L42 r7.1 r14
      else
        fX7_readsCover_L42 r7.1 r7.2
    else none
  else
    fX7_readsCover_L42 r7.1 r7.2
def fX7_readsStatement (σ : Sto) : Option Sto :=
  (fX7_kindHere σ).bind fun r1 =>
  if r1 = (-1) then
    (fX7_isWord 15 σ).bind fun r4 =>
    if r4 = true then
      (fX7_goesOn σ).bind fun r35 =>
      (fX7_directions r35).bind fun r38 =>
      (fX7_reads 0 (r38 - 1) r35).bind fun r41 =>
      if kin 2 220 = true then
        klet (su r41.2 134 (Int32.toNatClampNeg 2) r41.1) fun σ44 =>
        (fX7_ends σ44).bind fun r45 =>
        some r45
      else none
    else
      (fX7_isWord 16 σ).bind fun r7 =>
      if r7 = true then
        (fX7_goesOn σ).bind fun r25 =>
        (fX7_reads 1 100 r25).bind fun r28 =>
        if kin 3 220 = true then
          klet (su r28.2 134 (Int32.toNatClampNeg 3) r28.1) fun σ31 =>
          (fX7_ends σ31).bind fun r32 =>
          some r32
        else none
      else
        (fX7_isWord 17 σ).bind fun r10 =>
        if r10 = true then
          (fX7_readsCover σ).bind fun r19 =>
          (fX7_ends r19).bind fun r22 =>
          some r22
        else
          (some (fX7_fails 1 σ)).bind fun r13 =>
          (fX7_ends r13).bind fun r16 =>
          some r16
  else
    (fX7_readsChip r1 σ).bind fun r48 =>
    (fX7_ends r48).bind fun r51 =>
    some r51
def fX7_readsAll_L71 : Nat → Sto → Option Sto
  | 0, _ => none
  | fu + 1, σ =>
    if (fX7_isGood σ) = true then
      if (σ 133 24) = 0 then
        some σ
      else
        (fX7_readsStatement σ).bind fun r19 =>
        fX7_readsAll_L71 fu r19
    else
      some σ
def fX7_readsAll_L35 (v1 : Int32) (σ : Sto) : Option Sto :=
  (fX7_goesOn σ).bind fun r7 =>
  (fX7_needs 10 r7).bind fun r10 =>
  (fX7_reads 1 6 r10).bind fun r13 =>
  (fX7_ends r13.2).bind fun r16 =>
  if (fX7_isGood r16) = true then
    (fX7_clears v1 r13.1 r16).bind fun r22 =>
    fX7_readsAll_L71 kFU r22
  else
    fX7_readsAll_L71 kFU r16
def fX7_readsAll (σ : Sto) : Option Sto :=
  (fX7_needs 9 σ).bind fun r1 =>
  (fX7_looks 0 1000 r1).bind fun r4 =>
  if (fX7_isGood r4.2) = true then
    if (fX7_isAngle r4.1) = true then
      fX7_readsAll_L35 r4.1 r4.2
    else
      (some (fX7_fails 2 r4.2)).bind fun r25 =>
      fX7_readsAll_L35 r4.1 r25
  else
    fX7_readsAll_L35 r4.1 r4.2
def fX7_load (σ : Sto) : Option (Int32 × Sto) :=
  klet (su σ 133 7 0) fun σ1 =>
  (fX7_copies 134 220 0 135 220 0 σ1).bind fun r2 =>
  klet (su r2 133 22 0) fun σ5 =>
  klet (su σ5 133 26 0) fun σ6 =>
  klet (su σ6 133 27 (-1)) fun σ7 =>
  (fX7_scans σ7).bind fun r8 =>
  (fX7_readsAll r8).bind fun r11 =>
  klet (su r11 133 21 0) fun σ14 =>
  klet (su σ14 133 28 (σ14 133 26)) fun σ15 =>
  klet (su σ15 133 29 (σ15 133 27)) fun σ16 =>
  if (fX7_isGood σ16) = true then
    klet (su σ16 133 6 0) fun σ17 =>
    if kin 5 220 = true then
      some ((σ17 134 (Int32.toNatClampNeg 5)), σ17)
    else none
  else
    (fX7_copies 135 220 0 134 220 0 σ16).bind fun r18 =>
    some ((-1), r18)
def fX7_insideMany_L4 : Nat → Int32 → Int32 → Sto → Option Int32
  | 0, _, _, _ => none
  | fu + 1, v1, v2, σ =>
    if kin 5 220 = true then
      if (σ 134 (Int32.toNatClampNeg 5)) ≤ v2 then
        some v1
      else
        (fX7_c v2 6 σ).bind fun r1 =>
        fX7_insideMany_L4 fu (v1 + r1) (v2 + 1) σ
    else none
def fX7_insideMany (σ : Sto) : Option Int32 :=
  fX7_insideMany_L4 kFU 0 0 σ
def fX7_boxMany_L4 : Nat → Int32 → Int32 → Sto → Option Int32
  | 0, _, _, _ => none
  | fu + 1, v1, v2, σ =>
    if 169 ≤ v2 then
      some v1
    else
      (fX7_isBoxCell v2 σ).bind fun r1 =>
      fX7_boxMany_L4 fu (v1 + (fX7_bit (kb r1))) (v2 + 1) σ
def fX7_boxMany (σ : Sto) : Option Int32 :=
  fX7_boxMany_L4 kFU 0 0 σ
def fX7_pictureMany_L4 : Nat → Int32 → Int32 → Sto → Option Int32
  | 0, _, _, _ => none
  | fu + 1, v1, v2, σ =>
    if 169 ≤ v2 then
      some v1
    else
      (fX7_isPictureCell v2 σ).bind fun r1 =>
      fX7_pictureMany_L4 fu (v1 + (fX7_bit (kb r1))) (v2 + 1) σ
def fX7_pictureMany (σ : Sto) : Option Int32 :=
  fX7_pictureMany_L4 kFU 0 0 σ
def fX7_seenMany_L31 (K8 : Int32 → Int32 → Sto → Option (Int32 × Sto)) (v2 : Int32) (s0 : Int32) (s1 : Int32) (σ : Sto) : Option (Int32 × Sto) :=
  K8 (s1 + (fX7_bit s0)) (v2 + 1) σ
def fX7_seenMany_L8 : Nat → Int32 → Int32 → Sto → Option (Int32 × Sto)
  | 0, _, _, _ => none
  | fu + 1, v1, v2, σ =>
    if 169 ≤ v2 then
      some (v1, σ)
    else
      if kin v2 169 = true then
        if (σ 143 v2.toNatClampNeg) = (-1) then
          fX7_seenMany_L31 (fX7_seenMany_L8 fu) v2 0 v1 σ
        else
          fX7_seenMany_L31 (fX7_seenMany_L8 fu) v2 1 v1 σ
      else none
def fX7_seenMany (σ : Sto) : Option (Int32 × Sto) :=
  (fX7_laysSeen σ).bind fun r1 =>
  fX7_seenMany_L8 kFU 0 0 r1
def fX7_count (a1 : Int32) (σ : Sto) : Option (Int32 × Sto) :=
  (fX7_goes (kb (fX7_isIn a1 0 15)) σ).bind fun r1 =>
  if r1.1 = true then
    if a1 = 0 then
      if kin 0 220 = true then
        some ((r1.2 134 (Int32.toNatClampNeg 0)), r1.2)
      else none
    else
      if a1 = 1 then
        if kin 1 220 = true then
          some ((r1.2 134 (Int32.toNatClampNeg 1)), r1.2)
        else none
      else
        if a1 = 2 then
          if kin 2 220 = true then
            some ((r1.2 134 (Int32.toNatClampNeg 2)), r1.2)
          else none
        else
          if a1 = 3 then
            if kin 3 220 = true then
              some ((r1.2 134 (Int32.toNatClampNeg 3)), r1.2)
            else none
          else
            if a1 = 4 then
              if kin 4 220 = true then
                some ((r1.2 134 (Int32.toNatClampNeg 4)), r1.2)
              else none
            else
              if a1 = 5 then
                if kin 5 220 = true then
                  some ((r1.2 134 (Int32.toNatClampNeg 5)), r1.2)
                else none
              else
                if a1 = 6 then
                  (fX7_insideMany r1.2).bind fun r11 =>
                  some (r11, r1.2)
                else
                  if a1 = 7 then
                    (fX7_boxMany r1.2).bind fun r15 =>
                    some (r15, r1.2)
                  else
                    if a1 = 8 then
                      (fX7_pictureMany r1.2).bind fun r19 =>
                      some (r19, r1.2)
                    else
                      if a1 = 9 then
                        (fX7_seenMany r1.2).bind fun r23 =>
                        some (r23.1, r23.2)
                      else
                        if a1 = 10 then
                          if kin 6 220 = true then
                            some ((r1.2 134 (Int32.toNatClampNeg 6)), r1.2)
                          else none
                        else
                          if a1 = 11 then
                            if kin 7 220 = true then
                              some ((r1.2 134 (Int32.toNatClampNeg 7)), r1.2)
                            else none
                          else
                            if a1 = 12 then
                              if kin 8 220 = true then
                                some ((r1.2 134 (Int32.toNatClampNeg 8)), r1.2)
                              else none
                            else
                              if a1 = 13 then
                                if kin 9 220 = true then
                                  some ((r1.2 134 (Int32.toNatClampNeg 9)), r1.2)
                                else none
                              else
                                if a1 = 14 then
                                  (fX7_directions r1.2).bind fun r31 =>
                                  some (r31, r1.2)
                                else
                                  some ((r1.2 133 6), r1.2)
  else
    some (0, r1.2)
def fX7_chip_L30 (a1 : Int32) (a2 : Int32) (σ : Sto) : Option (Int32 × Sto) :=
  (fX7_isInside a1 σ).bind fun r7 =>
  if r7 = true then
    (fX7_c a1 a2 σ).bind fun r10 =>
    some (r10, σ)
  else
    some ((-100), σ)
def fX7_chip (a1 : Int32) (a2 : Int32) (σ : Sto) : Option (Int32 × Sto) :=
  (fX7_isChip a1 σ).bind fun r1 =>
  (some (fX7_goesBoth (kb r1) (kb (fX7_isIn a2 0 5)) σ)).bind fun r4 =>
  if r4.1 = true then
    if a2 = 3 then
      fX7_chip_L30 a1 a2 r4.2
    else
      if a2 = 4 then
        fX7_chip_L30 a1 a2 r4.2
      else
        (fX7_c a1 a2 r4.2).bind fun r13 =>
        some (r13, r4.2)
  else
    some (0, r4.2)
def fX7_chipAt (a1 : Int32) (a2 : Int32) (σ : Sto) : Option (Int32 × Sto) :=
  (fX7_isBox a1 a2 σ).bind fun r1 =>
  (fX7_goes (kb r1) σ).bind fun r4 =>
  if r4.1 = true then
    (fX7_chipNow a1 a2 r4.2).bind fun r7 =>
    some (r7, r4.2)
  else
    some (0, r4.2)
def fX7_depth (a1 : Int32) (a2 : Int32) (σ : Sto) : Option (Int32 × Sto) :=
  (fX7_isNear a1 a2 σ).bind fun r1 =>
  (fX7_goes (kb r1) σ).bind fun r4 =>
  if r4.1 = true then
    (fX7_depthOf a1 a2 r4.2).bind fun r7 =>
    some (r7, r4.2)
  else
    some (0, r4.2)
def fX7_account (a1 : Int32) (σ : Sto) : Option (Int32 × Sto) :=
  (fX7_goes (kb (fX7_isIn a1 0 5)) σ).bind fun r1 =>
  if r1.1 = true then
    if kin a1 6 = true then
      some ((r1.2 138 a1.toNatClampNeg), r1.2)
    else none
  else
    some (0, r1.2)
def fX7_colour (a1 : Int32) (a2 : Int32) (σ : Sto) : Option (Int32 × Sto) :=
  (fX7_isNear a1 a2 σ).bind fun r1 =>
  (fX7_goes (kb r1) σ).bind fun r4 =>
  if r4.1 = true then
    (fX7_laysPicture r4.2).bind fun r7 =>
    if kin (fX7_cell a1 a2) 169 = true then
      some ((r7 145 (fX7_cell a1 a2).toNatClampNeg), r7)
    else none
  else
    some (0, r4.2)
def fX7_brightness (a1 : Int32) (a2 : Int32) (σ : Sto) : Option (Int32 × Sto) :=
  (fX7_isNear a1 a2 σ).bind fun r1 =>
  (fX7_goes (kb r1) σ).bind fun r4 =>
  if r4.1 = true then
    (fX7_laysSeen r4.2).bind fun r7 =>
    (fX7_brightnessOf (fX7_cell a1 a2) r7).bind fun r10 =>
    some (r10, r7)
  else
    some (0, r4.2)
def fX7_reflections (a1 : Int32) (a2 : Int32) (σ : Sto) : Option (Int32 × Sto) :=
  (fX7_isNear a1 a2 σ).bind fun r1 =>
  (fX7_goes (kb r1) σ).bind fun r4 =>
  if r4.1 = true then
    (fX7_laysSeen r4.2).bind fun r7 =>
    if kin (fX7_cell a1 a2) 169 = true then
      some ((r7 143 (fX7_cell a1 a2).toNatClampNeg), r7)
    else none
  else
    some (0, r4.2)
def fX7_source (a1 : Int32) (a2 : Int32) (a3 : Int32) (σ : Sto) : Option (Int32 × Sto) :=
  (fX7_isNear a1 a2 σ).bind fun r1 =>
  (fX7_goes (kb r1) σ).bind fun r4 =>
  if r4.1 = true then
    (fX7_laysSeen r4.2).bind fun r7 =>
    if kin (fX7_cell a1 a2) 169 = true then
      if (r7 143 (fX7_cell a1 a2).toNatClampNeg) = (-1) then
        some ((-100), r7)
      else
        if a3 = 0 then
          if kin (fX7_cell a1 a2) 169 = true then
            some ((fX7_xOf (r7 144 (fX7_cell a1 a2).toNatClampNeg)), r7)
          else none
        else
          if kin (fX7_cell a1 a2) 169 = true then
            some ((fX7_yOf (r7 144 (fX7_cell a1 a2).toNatClampNeg)), r7)
          else none
    else none
  else
    some (0, r4.2)
def fX7_images_L64 (a1 : Int32) (a2 : Int32) (K24 : Int32 → Int32 → Sto → Option (Int32 × Sto)) (v4 : Int32) (s0 : Int32) (s1 : Int32) (σ : Sto) : Option (Int32 × Sto) :=
  K24 (s1 + (fX7_bit s0)) (v4 + 1) σ
def fX7_images_L63 (a1 : Int32) (a2 : Int32) (K24 : Int32 → Int32 → Sto → Option (Int32 × Sto)) (v4 : Int32) (s0 : Int32) (σ : Sto) : Option (Int32 × Sto) :=
  fX7_images_L64 a1 a2 K24 v4 0 s0 σ
def fX7_images_L24 (a1 : Int32) (a2 : Int32) : Nat → Int32 → Int32 → Sto → Option (Int32 × Sto)
  | 0, _, _, _ => none
  | fu + 1, v3, v4, σ =>
    if 169 ≤ v4 then
      some (v3, σ)
    else
      if kin v4 169 = true then
        if (σ 143 v4.toNatClampNeg) = (-1) then
          fX7_images_L63 a1 a2 (fX7_images_L24 a1 a2 fu) v4 v3 σ
        else
          if kin v4 169 = true then
            if (σ 144 v4.toNatClampNeg) = (fX7_cell a1 a2) then
              fX7_images_L64 a1 a2 (fX7_images_L24 a1 a2 fu) v4 1 v3 σ
            else
              fX7_images_L63 a1 a2 (fX7_images_L24 a1 a2 fu) v4 v3 σ
          else none
      else none
def fX7_images (a1 : Int32) (a2 : Int32) (σ : Sto) : Option (Int32 × Sto) :=
  (fX7_isBox a1 a2 σ).bind fun r1 =>
  (fX7_goes (kb r1) σ).bind fun r4 =>
  if r4.1 = true then
    (fX7_laysSeen r4.2).bind fun r7 =>
    fX7_images_L24 a1 a2 kFU 0 0 r7
  else
    some (0, r4.2)
def fX7_cellsOf (a1 : Int32) (σ : Sto) : Option (Int32 × Sto) :=
  (fX7_goes (kb (fX7_isIn a1 0 9)) σ).bind fun r1 =>
  if r1.1 = true then
    (fX7_laysPicture r1.2).bind fun r4 =>
    (fX7_cellsWith a1 r4).bind fun r7 =>
    some (r7, r4)
  else
    some (0, r1.2)
def fX7_commonest_L104 (a1 : Int32) (K22 : Int32 → Sto → Option (Int32 × Sto)) (v2 : Int32) (σ : Sto) : Option (Int32 × Sto) :=
  K22 (v2 + 1) σ
def fX7_commonest_L80 (a1 : Int32) (K22 : Int32 → Sto → Option (Int32 × Sto)) (K40 : Int32 → Int32 → Int32 → Int32 → Sto → Option (Int32 × Sto)) (v2 : Int32) (v3 : Int32) (v5 : Int32) (s0 : Int32) (s1 : Int32) (σ : Sto) : Option (Int32 × Sto) :=
  K40 v2 v3 (s1 + (fX7_bit s0)) (v5 + 1) σ
def fX7_commonest_L75 (a1 : Int32) (K22 : Int32 → Sto → Option (Int32 × Sto)) (K40 : Int32 → Int32 → Int32 → Int32 → Sto → Option (Int32 × Sto)) (v2 : Int32) (v3 : Int32) (v5 : Int32) (s0 : Int32) (σ : Sto) : Option (Int32 × Sto) :=
  fX7_commonest_L80 a1 K22 K40 v2 v3 v5 1 s0 σ
def fX7_commonest_L79 (a1 : Int32) (K22 : Int32 → Sto → Option (Int32 × Sto)) (K40 : Int32 → Int32 → Int32 → Int32 → Sto → Option (Int32 × Sto)) (v2 : Int32) (v3 : Int32) (v5 : Int32) (s0 : Int32) (σ : Sto) : Option (Int32 × Sto) :=
  fX7_commonest_L80 a1 K22 K40 v2 v3 v5 0 s0 σ
def fX7_commonest_L40 (a1 : Int32) (K22 : Int32 → Sto → Option (Int32 × Sto)) : Nat → Int32 → Int32 → Int32 → Int32 → Sto → Option (Int32 × Sto)
  | 0, _, _, _, _, _ => none
  | fu + 1, v2, v3, v4, v5, σ =>
    if 9 < v5 then
      if v3 ≤ 0 then
        fX7_commonest_L104 a1 K22 v2 σ
      else
        if v4 = a1 then
          some (v2, σ)
        else
          fX7_commonest_L104 a1 K22 v2 σ
    else
      (fX7_cellsWith v5 σ).bind fun r10 =>
      if v3 < r10 then
        fX7_commonest_L75 a1 K22 (fX7_commonest_L40 a1 K22 fu) v2 v3 v5 v4 σ
      else
        (fX7_cellsWith v5 σ).bind fun r13 =>
        if r13 = v3 then
          if v2 ≤ v5 then
            fX7_commonest_L79 a1 K22 (fX7_commonest_L40 a1 K22 fu) v2 v3 v5 v4 σ
          else
            fX7_commonest_L75 a1 K22 (fX7_commonest_L40 a1 K22 fu) v2 v3 v5 v4 σ
        else
          fX7_commonest_L79 a1 K22 (fX7_commonest_L40 a1 K22 fu) v2 v3 v5 v4 σ
def fX7_commonest_L22 (a1 : Int32) : Nat → Int32 → Sto → Option (Int32 × Sto)
  | 0, _, _ => none
  | fu + 1, v2, σ =>
    if 9 < v2 then
      some ((-1), σ)
    else
      (fX7_cellsWith v2 σ).bind fun r7 =>
      fX7_commonest_L40 a1 (fX7_commonest_L22 a1 fu) kFU v2 r7 0 1 σ
def fX7_commonest (a1 : Int32) (σ : Sto) : Option (Int32 × Sto) :=
  (fX7_goes (kb (fX7_isIn a1 0 8)) σ).bind fun r1 =>
  if r1.1 = true then
    (fX7_laysPicture r1.2).bind fun r4 =>
    fX7_commonest_L22 a1 kFU 1 r4
  else
    some (0, r1.2)
def fX7_floods_L160 (a1 : Int32) (a2 : Int32) (K19 : Int32 → Int32 → Sto → Option (Int32 × Sto)) (K42 : Int32 → Int32 → Int32 → Int32 → Sto → Option (Int32 × Sto)) (v3 : Int32) (v4 : Int32) (v5 : Int32) (v6 : Int32) (σ : Sto) : Option (Int32 × Sto) :=
  K42 v3 v4 v5 (v6 + 1) σ
def fX7_floods_L42 (a1 : Int32) (a2 : Int32) (K19 : Int32 → Int32 → Sto → Option (Int32 × Sto)) : Nat → Int32 → Int32 → Int32 → Int32 → Sto → Option (Int32 × Sto)
  | 0, _, _, _, _, _ => none
  | fu + 1, v3, v4, v5, v6, σ =>
    (fX7_directions σ).bind fun r3 =>
    if r3 ≤ v6 then
      K19 v3 v4 σ
    else
      (fX7_stepX v6 σ).bind fun r6 =>
      (fX7_stepY v6 σ).bind fun r9 =>
      (fX7_isNear ((fX7_xOf v5) + r6) ((fX7_yOf v5) + r9) σ).bind fun r12 =>
      if r12 = true then
        if kin (fX7_cell ((fX7_xOf v5) + r6) ((fX7_yOf v5) + r9)) 169 = true then
          if (σ 150 (fX7_cell ((fX7_xOf v5) + r6) ((fX7_yOf v5) + r9)).toNatClampNeg) = (-1) then
            if kin (fX7_cell ((fX7_xOf v5) + r6) ((fX7_yOf v5) + r9)) 169 = true then
              if kin a1 169 = true then
                if (σ 145 (fX7_cell ((fX7_xOf v5) + r6) ((fX7_yOf v5) + r9)).toNatClampNeg) = (σ 145 a1.toNatClampNeg) then
                  if kin (fX7_cell ((fX7_xOf v5) + r6) ((fX7_yOf v5) + r9)) 169 = true then
                    klet (su σ 150 (fX7_cell ((fX7_xOf v5) + r6) ((fX7_yOf v5) + r9)).toNatClampNeg a2) fun σ15 =>
                    if kin v4 169 = true then
                      klet (su σ15 151 v4.toNatClampNeg (fX7_cell ((fX7_xOf v5) + r6) ((fX7_yOf v5) + r9))) fun σ16 =>
                      fX7_floods_L160 a1 a2 K19 (fX7_floods_L42 a1 a2 K19 fu) v3 (v4 + 1) v5 v6 σ16
                    else none
                  else none
                else
                  fX7_floods_L160 a1 a2 K19 (fX7_floods_L42 a1 a2 K19 fu) v3 v4 v5 v6 σ
              else none
            else none
          else
            fX7_floods_L160 a1 a2 K19 (fX7_floods_L42 a1 a2 K19 fu) v3 v4 v5 v6 σ
        else none
      else
        fX7_floods_L160 a1 a2 K19 (fX7_floods_L42 a1 a2 K19 fu) v3 v4 v5 v6 σ
def fX7_floods_L19 (a1 : Int32) (a2 : Int32) : Nat → Int32 → Int32 → Sto → Option (Int32 × Sto)
  | 0, _, _, _ => none
  | fu + 1, v3, v4, σ =>
    if v4 ≤ 0 then
      some (v3, σ)
    else
      if kin (v4 + (-1)) 169 = true then
        fX7_floods_L42 a1 a2 (fX7_floods_L19 a1 a2 fu) kFU (v3 + 1) (v4 + (-1)) (σ 151 (v4 + (-1)).toNatClampNeg) 0 σ
      else none
def fX7_floods (a1 : Int32) (a2 : Int32) (σ : Sto) : Option (Int32 × Sto) :=
  if kin 0 169 = true then
    klet (su σ 151 (Int32.toNatClampNeg 0) a1) fun σ1 =>
    if kin a1 169 = true then
      klet (su σ1 150 a1.toNatClampNeg a2) fun σ2 =>
      fX7_floods_L19 a1 a2 kFU 0 1 σ2
    else none
  else none
def fX7_clearsRegions_L2 : Nat → Int32 → Sto → Option Sto
  | 0, _, _ => none
  | fu + 1, v1, σ =>
    if 169 ≤ v1 then
      some σ
    else
      if kin v1 169 = true then
        klet (su σ 150 v1.toNatClampNeg (-1)) fun σ1 =>
        fX7_clearsRegions_L2 fu (v1 + 1) σ1
      else none
def fX7_clearsRegions (σ : Sto) : Option Sto :=
  fX7_clearsRegions_L2 kFU 0 σ
def fX7_regionsOf_L79 (a1 : Int32) (K8 : Int32 → Int32 → Sto → Option (Int32 × Sto)) (v2 : Int32) (v3 : Int32) (σ : Sto) : Option (Int32 × Sto) :=
  K8 v2 (v3 + 1) σ
def fX7_regionsOf_L51 (a1 : Int32) (K8 : Int32 → Int32 → Sto → Option (Int32 × Sto)) (v2 : Int32) (v3 : Int32) (s0 : Int32) (σ : Sto) : Option (Int32 × Sto) :=
  if s0 = 0 then
    fX7_regionsOf_L79 a1 K8 v2 v3 σ
  else
    if kin v3 169 = true then
      if (σ 150 v3.toNatClampNeg) = (-1) then
        (fX7_floods v3 v2 σ).bind fun r7 =>
        fX7_regionsOf_L79 a1 K8 (v2 + 1) v3 r7.2
      else
        fX7_regionsOf_L79 a1 K8 v2 v3 σ
    else none
def fX7_regionsOf_L50 (a1 : Int32) (K8 : Int32 → Int32 → Sto → Option (Int32 × Sto)) (v2 : Int32) (v3 : Int32) (σ : Sto) : Option (Int32 × Sto) :=
  fX7_regionsOf_L51 a1 K8 v2 v3 0 σ
def fX7_regionsOf_L46 (a1 : Int32) (K8 : Int32 → Int32 → Sto → Option (Int32 × Sto)) (v2 : Int32) (v3 : Int32) (σ : Sto) : Option (Int32 × Sto) :=
  fX7_regionsOf_L51 a1 K8 v2 v3 1 σ
def fX7_regionsOf_L8 (a1 : Int32) : Nat → Int32 → Int32 → Sto → Option (Int32 × Sto)
  | 0, _, _, _ => none
  | fu + 1, v2, v3, σ =>
    if 169 ≤ v3 then
      some (v2, σ)
    else
      (fX7_isPictureCell v3 σ).bind fun r4 =>
      if r4 = true then
        if kin v3 169 = true then
          if (σ 145 v3.toNatClampNeg) = 0 then
            fX7_regionsOf_L50 a1 (fX7_regionsOf_L8 a1 fu) v2 v3 σ
          else
            if a1 = 0 then
              fX7_regionsOf_L46 a1 (fX7_regionsOf_L8 a1 fu) v2 v3 σ
            else
              if kin v3 169 = true then
                if (σ 145 v3.toNatClampNeg) = a1 then
                  fX7_regionsOf_L46 a1 (fX7_regionsOf_L8 a1 fu) v2 v3 σ
                else
                  fX7_regionsOf_L50 a1 (fX7_regionsOf_L8 a1 fu) v2 v3 σ
              else none
        else none
      else
        fX7_regionsOf_L50 a1 (fX7_regionsOf_L8 a1 fu) v2 v3 σ
def fX7_regionsOf (a1 : Int32) (σ : Sto) : Option (Int32 × Sto) :=
  (fX7_clearsRegions σ).bind fun r1 =>
  fX7_regionsOf_L8 a1 kFU 0 0 r1
def fX7_regions (a1 : Int32) (σ : Sto) : Option (Int32 × Sto) :=
  (fX7_goes (kb (fX7_isIn a1 0 9)) σ).bind fun r1 =>
  if r1.1 = true then
    (fX7_laysPicture r1.2).bind fun r4 =>
    (fX7_regionsOf a1 r4).bind fun r7 =>
    some (r7.1, r7.2)
  else
    some (0, r1.2)
def fX7_regionSize (a1 : Int32) (a2 : Int32) (σ : Sto) : Option (Int32 × Sto) :=
  (fX7_isNear a1 a2 σ).bind fun r1 =>
  (fX7_goes (kb r1) σ).bind fun r4 =>
  if r4.1 = true then
    (fX7_laysPicture r4.2).bind fun r7 =>
    (fX7_clearsRegions r7).bind fun r10 =>
    if kin (fX7_cell a1 a2) 169 = true then
      if (r10 145 (fX7_cell a1 a2).toNatClampNeg) = 0 then
        some (0, r10)
      else
        (fX7_floods (fX7_cell a1 a2) 0 r10).bind fun r13 =>
        some (r13.1, r13.2)
    else none
  else
    some (0, r4.2)
def fX7_edgesNow_L119 (K4 : Int32 → Int32 → Sto → Option Int32) (K13 : Int32 → Int32 → Int32 → Sto → Option Int32) (v1 : Int32) (v2 : Int32) (v3 : Int32) (σ : Sto) : Option Int32 :=
  K13 v1 v2 (v3 + 1) σ
def fX7_edgesNow_L114 (K4 : Int32 → Int32 → Sto → Option Int32) (K13 : Int32 → Int32 → Int32 → Sto → Option Int32) (v2 : Int32) (v3 : Int32) (s0 : Int32) (s1 : Int32) (σ : Sto) : Option Int32 :=
  fX7_edgesNow_L119 K4 K13 (s1 + (fX7_bit s0)) v2 v3 σ
def fX7_edgesNow_L113 (K4 : Int32 → Int32 → Sto → Option Int32) (K13 : Int32 → Int32 → Int32 → Sto → Option Int32) (v2 : Int32) (v3 : Int32) (s0 : Int32) (σ : Sto) : Option Int32 :=
  fX7_edgesNow_L114 K4 K13 v2 v3 0 s0 σ
def fX7_edgesNow_L13 (K4 : Int32 → Int32 → Sto → Option Int32) : Nat → Int32 → Int32 → Int32 → Sto → Option Int32
  | 0, _, _, _, _ => none
  | fu + 1, v1, v2, v3, σ =>
    (fX7_directions σ).bind fun r1 =>
    if (r1 / 2) ≤ v3 then
      K4 v1 (v2 + 1) σ
    else
      (fX7_stepX v3 σ).bind fun r4 =>
      (fX7_stepY v3 σ).bind fun r7 =>
      (fX7_isPictureCell v2 σ).bind fun r10 =>
      if r10 = true then
        (fX7_isNear ((fX7_xOf v2) + r4) ((fX7_yOf v2) + r7) σ).bind fun r13 =>
        if r13 = true then
          if kin (fX7_cell ((fX7_xOf v2) + r4) ((fX7_yOf v2) + r7)) 169 = true then
            if kin v2 169 = true then
              if (σ 145 v2.toNatClampNeg) = 0 then
                fX7_edgesNow_L113 K4 (fX7_edgesNow_L13 K4 fu) v2 v3 v1 σ
              else
                if (σ 145 (fX7_cell ((fX7_xOf v2) + r4) ((fX7_yOf v2) + r7)).toNatClampNeg) = 0 then
                  fX7_edgesNow_L113 K4 (fX7_edgesNow_L13 K4 fu) v2 v3 v1 σ
                else
                  if kin v2 169 = true then
                    if (σ 145 v2.toNatClampNeg) = (σ 145 (fX7_cell ((fX7_xOf v2) + r4) ((fX7_yOf v2) + r7)).toNatClampNeg) then
                      fX7_edgesNow_L113 K4 (fX7_edgesNow_L13 K4 fu) v2 v3 v1 σ
                    else
                      fX7_edgesNow_L114 K4 (fX7_edgesNow_L13 K4 fu) v2 v3 1 v1 σ
                  else none
            else none
          else none
        else
          fX7_edgesNow_L119 K4 (fX7_edgesNow_L13 K4 fu) v1 v2 v3 σ
      else
        fX7_edgesNow_L119 K4 (fX7_edgesNow_L13 K4 fu) v1 v2 v3 σ
def fX7_edgesNow_L4 : Nat → Int32 → Int32 → Sto → Option Int32
  | 0, _, _, _ => none
  | fu + 1, v1, v2, σ =>
    if 169 ≤ v2 then
      some v1
    else
      fX7_edgesNow_L13 (fX7_edgesNow_L4 fu) kFU v1 v2 0 σ
def fX7_edgesNow (σ : Sto) : Option Int32 :=
  fX7_edgesNow_L4 kFU 0 0 σ
def fX7_edges (σ : Sto) : Option (Int32 × Sto) :=
  klet (su σ 133 7 0) fun σ1 =>
  (fX7_laysPicture σ1).bind fun r2 =>
  (fX7_edgesNow r2).bind fun r5 =>
  some (r5, r2)
def fX7_light_L47 (K13 : Int32 → Int32 → Sto → Option (Int32 × Sto)) (v2 : Int32) (s0 : Int32) (s1 : Int32) (σ : Sto) : Option (Int32 × Sto) :=
  K13 (s1 + s0) (v2 + 1) σ
def fX7_light_L46 (K13 : Int32 → Int32 → Sto → Option (Int32 × Sto)) (v2 : Int32) (s0 : Int32) (σ : Sto) : Option (Int32 × Sto) :=
  fX7_light_L47 K13 v2 0 s0 σ
def fX7_light_L13 : Nat → Int32 → Int32 → Sto → Option (Int32 × Sto)
  | 0, _, _, _ => none
  | fu + 1, v1, v2, σ =>
    if 169 ≤ v2 then
      some (v1, σ)
    else
      (fX7_isPictureCell v2 σ).bind fun r5 =>
      if r5 = true then
        if kin v2 169 = true then
          if (σ 145 v2.toNatClampNeg) = 0 then
            fX7_light_L46 (fX7_light_L13 fu) v2 v1 σ
          else
            (fX7_brightnessOf v2 σ).bind fun r8 =>
            fX7_light_L47 (fX7_light_L13 fu) v2 r8 v1 σ
        else none
      else
        fX7_light_L46 (fX7_light_L13 fu) v2 v1 σ
def fX7_light (σ : Sto) : Option (Int32 × Sto) :=
  klet (su σ 133 7 0) fun σ1 =>
  (fX7_laysPicture σ1).bind fun r2 =>
  fX7_light_L13 kFU 0 0 r2
def fX7_brings_L77 (a1 : Int32) (q2 : Nat) (n2 : Nat) (q3 : Nat) (n3 : Nat) (K6 : Int32 → Int32 → Sto → Option (Bool × Sto)) (v4 : Int32) (v5 : Int32) (σ : Sto) : Option (Bool × Sto) :=
  K6 v4 (v5 + 1) σ
def fX7_brings_L75 (a1 : Int32) (q2 : Nat) (n2 : Nat) (q3 : Nat) (n3 : Nat) (K6 : Int32 → Int32 → Sto → Option (Bool × Sto)) (v5 : Int32) (s0 : Int32) (σ : Sto) : Option (Bool × Sto) :=
  fX7_brings_L77 a1 q2 n2 q3 n3 K6 s0 v5 σ
def fX7_brings_L6 (a1 : Int32) (q2 : Nat) (n2 : Nat) (q3 : Nat) (n3 : Nat) : Nat → Int32 → Int32 → Sto → Option (Bool × Sto)
  | 0, _, _, _ => none
  | fu + 1, v4, v5, σ =>
    if 169 ≤ v5 then
      if kbo v4 = true then
        some (decide (v4 = 1), σ)
      else none
    else
      if v4 = 0 then
        if kbo v4 = true then
          some (decide (v4 = 1), σ)
        else none
      else
        (fX7_isPictureCell v5 σ).bind fun r3 =>
        if r3 = true then
          (some (fX7_stands (fX7_xOf v5) (fX7_yOf v5) σ)).bind fun r6 =>
          (fX7_maps a1 r6).bind fun r9 =>
          if kin v5 n2 = true then
            if kin (fX7_cell (r9 133 10) (r9 133 11)) n3 = true then
              if (r9 q2 v5.toNatClampNeg) = (r9 q3 (fX7_cell (r9 133 10) (r9 133 11)).toNatClampNeg) then
                fX7_brings_L75 a1 q2 n2 q3 n3 (fX7_brings_L6 a1 q2 n2 q3 n3 fu) v5 1 r9
              else
                fX7_brings_L75 a1 q2 n2 q3 n3 (fX7_brings_L6 a1 q2 n2 q3 n3 fu) v5 0 r9
            else none
          else none
        else
          fX7_brings_L77 a1 q2 n2 q3 n3 (fX7_brings_L6 a1 q2 n2 q3 n3 fu) v4 v5 σ
def fX7_brings (a1 : Int32) (q2 : Nat) (n2 : Nat) (q3 : Nat) (n3 : Nat) (σ : Sto) : Option (Bool × Sto) :=
  fX7_brings_L6 a1 q2 n2 q3 n3 kFU 1 0 σ
def fX7_symmetriesNow_L38 (K4 : Int32 → Int32 → Sto → Option (Int32 × Sto)) (v2 : Int32) (s0 : Int32) (s1 : Int32) (σ : Sto) : Option (Int32 × Sto) :=
  K4 (s1 ||| s0) (v2 + 1) σ
def fX7_symmetriesNow_L4 : Nat → Int32 → Int32 → Sto → Option (Int32 × Sto)
  | 0, _, _, _ => none
  | fu + 1, v1, v2, σ =>
    (fX7_half σ).bind fun r1 =>
    if (2 * r1) ≤ v2 then
      some (v1, σ)
    else
      (fX7_brings v2 145 169 145 169 σ).bind fun r4 =>
      if r4.1 = true then
        fX7_symmetriesNow_L38 (fX7_symmetriesNow_L4 fu) v2 (1 <<< (v2 &&& 31)) v1 r4.2
      else
        fX7_symmetriesNow_L38 (fX7_symmetriesNow_L4 fu) v2 0 v1 r4.2
def fX7_symmetriesNow (σ : Sto) : Option (Int32 × Sto) :=
  fX7_symmetriesNow_L4 kFU 0 0 σ
def fX7_symmetries (σ : Sto) : Option (Int32 × Sto) :=
  klet (su σ 133 7 0) fun σ1 =>
  (fX7_laysPicture σ1).bind fun r2 =>
  (fX7_symmetriesNow r2).bind fun r5 =>
  some (r5.1, r5.2)
def fX7_behind_L155 (a1 : Int32) (a2 : Int32) (K61 : Int32 → Int32 → Int32 → Int32 → Int32 → Int32 → Sto → Option (Int32 × Sto)) (v3 : Int32) (v4 : Int32) (v5 : Int32) (v6 : Int32) (v8 : Int32) (s0 : Int32) (σ : Sto) : Option (Int32 × Sto) :=
  K61 v3 v4 v5 v6 s0 (v8 + 1) σ
def fX7_behind_L154 (a1 : Int32) (a2 : Int32) (K61 : Int32 → Int32 → Int32 → Int32 → Int32 → Int32 → Sto → Option (Int32 × Sto)) (v3 : Int32) (v4 : Int32) (v5 : Int32) (v6 : Int32) (v8 : Int32) (σ : Sto) : Option (Int32 × Sto) :=
  fX7_behind_L155 a1 a2 K61 v3 v4 v5 v6 v8 (-1) σ
def fX7_behind_L112 (a1 : Int32) (a2 : Int32) (K61 : Int32 → Int32 → Int32 → Int32 → Int32 → Int32 → Sto → Option (Int32 × Sto)) (v3 : Int32) (v4 : Int32) (v5 : Int32) (v6 : Int32) (v8 : Int32) (s0 : Int32) (σ : Sto) : Option (Int32 × Sto) :=
  (some (fX7_stands 0 1 σ)).bind fun r28 =>
  (fX7_maps v8 r28).bind fun r31 =>
  if s0 = 0 then
    fX7_behind_L154 a1 a2 K61 v3 v4 v5 v6 v8 r31
  else
    if (r31 133 10) = v5 then
      if (r31 133 11) = v6 then
        fX7_behind_L155 a1 a2 K61 v3 v4 v5 v6 v8 v8 r31
      else
        fX7_behind_L154 a1 a2 K61 v3 v4 v5 v6 v8 r31
    else
      fX7_behind_L154 a1 a2 K61 v3 v4 v5 v6 v8 r31
def fX7_behind_L111 (a1 : Int32) (a2 : Int32) (K61 : Int32 → Int32 → Int32 → Int32 → Int32 → Int32 → Sto → Option (Int32 × Sto)) (v3 : Int32) (v4 : Int32) (v5 : Int32) (v6 : Int32) (v8 : Int32) (σ : Sto) : Option (Int32 × Sto) :=
  fX7_behind_L112 a1 a2 K61 v3 v4 v5 v6 v8 0 σ
def fX7_behind_L61 (a1 : Int32) (a2 : Int32) : Nat → Int32 → Int32 → Int32 → Int32 → Int32 → Int32 → Sto → Option (Int32 × Sto)
  | 0, _, _, _, _, _, _, _ => none
  | fu + 1, v3, v4, v5, v6, v7, v8, σ =>
    (fX7_half σ).bind fun r19 =>
    if (2 * r19) ≤ v8 then
      some (v7, σ)
    else
      if v7 = (-1) then
        (some (fX7_stands 1 0 σ)).bind fun r22 =>
        (fX7_maps v8 r22).bind fun r25 =>
        if (r25 133 10) = v3 then
          if (r25 133 11) = v4 then
            fX7_behind_L112 a1 a2 (fX7_behind_L61 a1 a2 fu) v3 v4 v5 v6 v8 1 r25
          else
            fX7_behind_L111 a1 a2 (fX7_behind_L61 a1 a2 fu) v3 v4 v5 v6 v8 r25
        else
          fX7_behind_L111 a1 a2 (fX7_behind_L61 a1 a2 fu) v3 v4 v5 v6 v8 r25
      else
        some (v7, σ)
def fX7_behind (a1 : Int32) (a2 : Int32) (σ : Sto) : Option (Int32 × Sto) :=
  (some (fX7_stands 1 0 σ)).bind fun r1 =>
  (fX7_maps a1 r1).bind fun r4 =>
  (fX7_mirrors a2 r4).bind fun r7 =>
  (some (fX7_stands 0 1 r7)).bind fun r10 =>
  (fX7_maps a1 r10).bind fun r13 =>
  (fX7_mirrors a2 r13).bind fun r16 =>
  fX7_behind_L61 a1 a2 kFU (r7 133 10) (r7 133 11) (r16 133 10) (r16 133 11) (-1) 0 r16
def fX7_ownMaps_L66 (K9 : Int32 → Int32 → Sto → Option (Int32 × Sto)) (K18 : Int32 → Int32 → Int32 → Sto → Option (Int32 × Sto)) (v1 : Int32) (v2 : Int32) (v3 : Int32) (σ : Sto) : Option (Int32 × Sto) :=
  K18 v1 v2 (v3 + 1) σ
def fX7_ownMaps_L31 (K9 : Int32 → Int32 → Sto → Option (Int32 × Sto)) (K18 : Int32 → Int32 → Int32 → Sto → Option (Int32 × Sto)) : Nat → Int32 → Int32 → Int32 → Int32 → Sto → Option (Int32 × Sto)
  | 0, _, _, _, _, _ => none
  | fu + 1, v1, v2, v3, v4, σ =>
    (fX7_mirrorMany σ).bind fun r5 =>
    if r5 ≤ v4 then
      fX7_ownMaps_L66 K9 K18 v1 v2 v3 σ
    else
      if (fX7_has v2 v3) = true then
        (fX7_behind v3 v4 σ).bind fun r8 =>
        fX7_ownMaps_L31 K9 K18 fu (v1 ||| (1 <<< (r8.1 &&& 31))) v2 v3 (v4 + 1) r8.2
      else
        fX7_ownMaps_L66 K9 K18 v1 v2 v3 σ
def fX7_ownMaps_L18 (K9 : Int32 → Int32 → Sto → Option (Int32 × Sto)) : Nat → Int32 → Int32 → Int32 → Sto → Option (Int32 × Sto)
  | 0, _, _, _, _ => none
  | fu + 1, v1, v2, v3, σ =>
    (fX7_half σ).bind fun r2 =>
    if (2 * r2) ≤ v3 then
      K9 v1 v2 σ
    else
      fX7_ownMaps_L31 K9 (fX7_ownMaps_L18 K9 fu) kFU v1 v2 v3 0 σ
def fX7_ownMaps_L9 : Nat → Int32 → Int32 → Sto → Option (Int32 × Sto)
  | 0, _, _, _ => none
  | fu + 1, v1, v2, σ =>
    if v1 = v2 then
      some (v1, σ)
    else
      fX7_ownMaps_L18 (fX7_ownMaps_L9 fu) kFU v1 v1 0 σ
def fX7_ownMaps (σ : Sto) : Option (Int32 × Sto) :=
  klet (su σ 133 7 0) fun σ1 =>
  fX7_ownMaps_L9 kFU 1 0 σ1
def fX7_mapped (a1 : Int32) (a2 : Int32) (a3 : Int32) (a4 : Int32) (σ : Sto) : Option (Int32 × Sto) :=
  (fX7_half σ).bind fun r1 =>
  if (fX7_isIn a1 0 ((2 * r1) - 1)) = true then
    (fX7_isNear a2 a3 σ).bind fun r13 =>
    if r13 = true then
      (fX7_goes 1 σ).bind fun r25 =>
      if r25.1 = true then
        (some (fX7_stands a2 a3 r25.2)).bind fun r28 =>
        (fX7_maps a1 r28).bind fun r31 =>
        if a4 = 0 then
          some ((r31 133 10), r31)
        else
          some ((r31 133 11), r31)
      else
        some (0, r25.2)
    else
      (fX7_goes 0 σ).bind fun r16 =>
      if r16.1 = true then
        (some (fX7_stands a2 a3 r16.2)).bind fun r19 =>
        (fX7_maps a1 r19).bind fun r22 =>
        if a4 = 0 then
          some ((r22 133 10), r22)
        else
          some ((r22 133 11), r22)
      else
        some (0, r16.2)
  else
    (fX7_goes 0 σ).bind fun r4 =>
    if r4.1 = true then
      (some (fX7_stands a2 a3 r4.2)).bind fun r7 =>
      (fX7_maps a1 r7).bind fun r10 =>
      if a4 = 0 then
        some ((r10 133 10), r10)
      else
        some ((r10 133 11), r10)
    else
      some (0, r4.2)
def fX7_isSlot (a0 : Int32) : Bool :=
  fX7_isIn a0 0 1
def fX7_matches_L156 (a1 : Int32) : Nat → Int32 → Int32 → Sto → Option (Int32 × Sto)
  | 0, _, _, _ => none
  | fu + 1, v4, v5, σ =>
    (fX7_half σ).bind fun r25 =>
    if (2 * r25) ≤ v5 then
      some ((-1), σ)
    else
      if v4 = 0 then
        some ((-1), σ)
      else
        (fX7_brings v5 152 169 145 169 σ).bind fun r28 =>
        if r28.1 = true then
          some (v5, r28.2)
        else
          fX7_matches_L156 a1 fu v4 (v5 + 1) r28.2
def fX7_matches_L108 (a1 : Int32) : Nat → Int32 → Int32 → Sto → Option (Int32 × Sto)
  | 0, _, _, _ => none
  | fu + 1, v4, v5, σ =>
    if 169 ≤ v5 then
      (fX7_copies 135 220 0 134 220 0 σ).bind fun r19 =>
      (fX7_laysPicture r19).bind fun r22 =>
      fX7_matches_L156 a1 kFU v4 0 r22
    else
      if kin v5 169 = true then
        if kin v5 169 = true then
          klet (su σ 152 v5.toNatClampNeg (σ 145 v5.toNatClampNeg)) fun σ31 =>
          fX7_matches_L108 a1 fu v4 (v5 + 1) σ31
        else none
      else none
def fX7_matches_L99 (a1 : Int32) (s0 : Int32) (σ : Sto) : Option (Int32 × Sto) :=
  (fX7_laysPicture σ).bind fun r16 =>
  fX7_matches_L108 a1 kFU s0 0 r16
def fX7_matches_L98 (a1 : Int32) (σ : Sto) : Option (Int32 × Sto) :=
  fX7_matches_L99 a1 0 σ
def fX7_matches (a1 : Int32) (σ : Sto) : Option (Int32 × Sto) :=
  if (fX7_isSlot a1) = true then
    if kin a1 2 = true then
      if (σ 139 a1.toNatClampNeg) = 0 then
        (some (fX7_goesBoth (kb (fX7_isSlot a1)) 0 σ)).bind fun r32 =>
        if r32.1 = true then
          (fX7_copies 134 220 0 135 220 0 r32.2).bind fun r35 =>
          (fX7_isHex r35).bind fun r38 =>
          if kin 1 220 = true then
            (fX7_copies 137 440 (220 * a1) 134 220 0 r35).bind fun r41 =>
            (fX7_isHex r41).bind fun r44 =>
            if (kb r44) = (kb r38) then
              if kin 1 220 = true then
                if (r41 134 (Int32.toNatClampNeg 1)) = (r35 134 (Int32.toNatClampNeg 1)) then
                  fX7_matches_L99 a1 1 r41
                else
                  fX7_matches_L98 a1 r41
              else none
            else
              fX7_matches_L98 a1 r41
          else none
        else
          some (0, r32.2)
      else
        (some (fX7_goesBoth (kb (fX7_isSlot a1)) 1 σ)).bind fun r47 =>
        if r47.1 = true then
          (fX7_copies 134 220 0 135 220 0 r47.2).bind fun r50 =>
          (fX7_isHex r50).bind fun r53 =>
          if kin 1 220 = true then
            (fX7_copies 137 440 (220 * a1) 134 220 0 r50).bind fun r56 =>
            (fX7_isHex r56).bind fun r59 =>
            if (kb r59) = (kb r53) then
              if kin 1 220 = true then
                if (r56 134 (Int32.toNatClampNeg 1)) = (r50 134 (Int32.toNatClampNeg 1)) then
                  fX7_matches_L99 a1 1 r56
                else
                  fX7_matches_L98 a1 r56
              else none
            else
              fX7_matches_L98 a1 r56
          else none
        else
          some (0, r47.2)
    else none
  else
    (some (fX7_goesBoth (kb (fX7_isSlot a1)) 0 σ)).bind fun r1 =>
    if r1.1 = true then
      (fX7_copies 134 220 0 135 220 0 r1.2).bind fun r4 =>
      (fX7_isHex r4).bind fun r7 =>
      if kin 1 220 = true then
        (fX7_copies 137 440 (220 * a1) 134 220 0 r4).bind fun r10 =>
        (fX7_isHex r10).bind fun r13 =>
        if (kb r13) = (kb r7) then
          if kin 1 220 = true then
            if (r10 134 (Int32.toNatClampNeg 1)) = (r4 134 (Int32.toNatClampNeg 1)) then
              fX7_matches_L99 a1 1 r10
            else
              fX7_matches_L98 a1 r10
          else none
        else
          fX7_matches_L98 a1 r10
      else none
    else
      some (0, r1.2)
def fX7_begins_L55 (σ : Sto) : Option Sto :=
  (fX7_copies 134 220 0 136 1760 (220 * (σ 133 6)) σ).bind fun r1 =>
  klet (su r1 133 6 ((r1 133 6) + 1)) fun σ4 =>
  if kin 0 6 = true then
    if kin 0 6 = true then
      klet (su σ4 138 (Int32.toNatClampNeg 0) ((σ4 138 (Int32.toNatClampNeg 0)) + 1)) fun σ5 =>
      some σ5
    else none
  else none
def fX7_begins_L21 : Nat → Int32 → Sto → Option Sto
  | 0, _, _ => none
  | fu + 1, v1, σ =>
    if (220 * (σ 133 6)) ≤ v1 then
      fX7_begins_L55 σ
    else
      if kin (v1 + 220) 1760 = true then
        if kin v1 1760 = true then
          klet (su σ 136 v1.toNatClampNeg (σ 136 (v1 + 220).toNatClampNeg)) fun σ7 =>
          fX7_begins_L21 fu (v1 + 1) σ7
        else none
      else none
def fX7_begins (σ : Sto) : Option Sto :=
  if (σ 133 6) = 8 then
    klet (su σ 133 6 ((σ 133 6) - 1)) fun σ6 =>
    fX7_begins_L21 kFU 0 σ6
  else
    fX7_begins_L55 σ
def fX7_refuses (a1 : Int32) (σ : Sto) : Option (Int32 × Sto) :=
  if kin a1 6 = true then
    if kin a1 6 = true then
      klet (su σ 138 a1.toNatClampNeg ((σ 138 a1.toNatClampNeg) + 1)) fun σ1 =>
      some ((-a1), σ1)
    else none
  else none
def fX7_add (a1 : Int32) (a2 : Int32) (a3 : Int32) (a4 : Int32) (a5 : Int32) (σ : Sto) : Option (Int32 × Sto) :=
  (fX7_isBox a4 a5 σ).bind fun r1 =>
  if (fX7_isIn a1 0 3) = true then
    if (fX7_isIn a2 1 9) = true then
      if (fX7_isIn a3 1 9) = true then
        (some (fX7_goesBoth (kb r1) 1 σ)).bind fun r58 =>
        if r58.1 = true then
          if kin 5 220 = true then
            if (r58.2 134 (Int32.toNatClampNeg 5)) = 30 then
              (fX7_refuses 1 r58.2).bind fun r73 =>
              some (r73.1, r73.2)
            else
              (fX7_chipNow a4 a5 r58.2).bind fun r61 =>
              if r61 = (-1) then
                (fX7_begins r58.2).bind fun r64 =>
                (fX7_lays a1 a2 a3 a4 a5 r64).bind fun r67 =>
                some (r67.1, r67.2)
              else
                (fX7_refuses 2 r58.2).bind fun r70 =>
                some (r70.1, r70.2)
          else none
        else
          some (0, r58.2)
      else
        (some (fX7_goesBoth (kb r1) 0 σ)).bind fun r40 =>
        if r40.1 = true then
          if kin 5 220 = true then
            if (r40.2 134 (Int32.toNatClampNeg 5)) = 30 then
              (fX7_refuses 1 r40.2).bind fun r55 =>
              some (r55.1, r55.2)
            else
              (fX7_chipNow a4 a5 r40.2).bind fun r43 =>
              if r43 = (-1) then
                (fX7_begins r40.2).bind fun r46 =>
                (fX7_lays a1 a2 a3 a4 a5 r46).bind fun r49 =>
                some (r49.1, r49.2)
              else
                (fX7_refuses 2 r40.2).bind fun r52 =>
                some (r52.1, r52.2)
          else none
        else
          some (0, r40.2)
    else
      (some (fX7_goesBoth (kb r1) 0 σ)).bind fun r22 =>
      if r22.1 = true then
        if kin 5 220 = true then
          if (r22.2 134 (Int32.toNatClampNeg 5)) = 30 then
            (fX7_refuses 1 r22.2).bind fun r37 =>
            some (r37.1, r37.2)
          else
            (fX7_chipNow a4 a5 r22.2).bind fun r25 =>
            if r25 = (-1) then
              (fX7_begins r22.2).bind fun r28 =>
              (fX7_lays a1 a2 a3 a4 a5 r28).bind fun r31 =>
              some (r31.1, r31.2)
            else
              (fX7_refuses 2 r22.2).bind fun r34 =>
              some (r34.1, r34.2)
        else none
      else
        some (0, r22.2)
  else
    (some (fX7_goesBoth (kb r1) 0 σ)).bind fun r4 =>
    if r4.1 = true then
      if kin 5 220 = true then
        if (r4.2 134 (Int32.toNatClampNeg 5)) = 30 then
          (fX7_refuses 1 r4.2).bind fun r19 =>
          some (r19.1, r19.2)
        else
          (fX7_chipNow a4 a5 r4.2).bind fun r7 =>
          if r7 = (-1) then
            (fX7_begins r4.2).bind fun r10 =>
            (fX7_lays a1 a2 a3 a4 a5 r10).bind fun r13 =>
            some (r13.1, r13.2)
          else
            (fX7_refuses 2 r4.2).bind fun r16 =>
            some (r16.1, r16.2)
      else none
    else
      some (0, r4.2)
def fX7_take (a1 : Int32) (σ : Sto) : Option (Int32 × Sto) :=
  (fX7_isChip a1 σ).bind fun r1 =>
  (fX7_goes (kb r1) σ).bind fun r4 =>
  if r4.1 = true then
    (fX7_isInside a1 r4.2).bind fun r7 =>
    if r7 = true then
      (fX7_begins r4.2).bind fun r10 =>
      (fX7_puts a1 6 0 r10).bind fun r13 =>
      (fX7_insideMany r13).bind fun r16 =>
      some (r16, r13)
    else
      (fX7_refuses 3 r4.2).bind fun r19 =>
      some (r19.1, r19.2)
  else
    some (0, r4.2)
def fX7_push (a1 : Int32) (a2 : Int32) (σ : Sto) : Option (Int32 × Sto) :=
  (fX7_isChip a1 σ).bind fun r1 =>
  if r1 = true then
    (fX7_directions σ).bind fun r49 =>
    if (fX7_isIn a2 0 (r49 - 1)) = true then
      (fX7_goes 1 σ).bind fun r97 =>
      if r97.1 = true then
        (fX7_isInside a1 r97.2).bind fun r100 =>
        if r100 = true then
          (fX7_c a1 3 r97.2).bind fun r103 =>
          (fX7_stepX a2 r97.2).bind fun r106 =>
          (fX7_c a1 4 r97.2).bind fun r109 =>
          (fX7_stepY a2 r97.2).bind fun r112 =>
          (fX7_isBox (r103 + r106) (r109 + r112) r97.2).bind fun r115 =>
          if r115 = true then
            (fX7_chipNow (r103 + r106) (r109 + r112) r97.2).bind fun r118 =>
            if r118 = (-1) then
              (fX7_begins r97.2).bind fun r121 =>
              (fX7_puts a1 3 (r103 + r106) r121).bind fun r124 =>
              (fX7_puts a1 4 (r109 + r112) r124).bind fun r127 =>
              (fX7_movesNow r127).bind fun r130 =>
              some (r130.1, r130.2)
            else
              (fX7_refuses 2 r97.2).bind fun r133 =>
              some (r133.1, r133.2)
          else
            (fX7_refuses 4 r97.2).bind fun r136 =>
            some (r136.1, r136.2)
        else
          (fX7_refuses 3 r97.2).bind fun r139 =>
          some (r139.1, r139.2)
      else
        some (0, r97.2)
    else
      (fX7_goes 0 σ).bind fun r52 =>
      if r52.1 = true then
        (fX7_isInside a1 r52.2).bind fun r55 =>
        if r55 = true then
          (fX7_c a1 3 r52.2).bind fun r58 =>
          (fX7_stepX a2 r52.2).bind fun r61 =>
          (fX7_c a1 4 r52.2).bind fun r64 =>
          (fX7_stepY a2 r52.2).bind fun r67 =>
          (fX7_isBox (r58 + r61) (r64 + r67) r52.2).bind fun r70 =>
          if r70 = true then
            (fX7_chipNow (r58 + r61) (r64 + r67) r52.2).bind fun r73 =>
            if r73 = (-1) then
              (fX7_begins r52.2).bind fun r76 =>
              (fX7_puts a1 3 (r58 + r61) r76).bind fun r79 =>
              (fX7_puts a1 4 (r64 + r67) r79).bind fun r82 =>
              (fX7_movesNow r82).bind fun r85 =>
              some (r85.1, r85.2)
            else
              (fX7_refuses 2 r52.2).bind fun r88 =>
              some (r88.1, r88.2)
          else
            (fX7_refuses 4 r52.2).bind fun r91 =>
            some (r91.1, r91.2)
        else
          (fX7_refuses 3 r52.2).bind fun r94 =>
          some (r94.1, r94.2)
      else
        some (0, r52.2)
  else
    (fX7_goes 0 σ).bind fun r4 =>
    if r4.1 = true then
      (fX7_isInside a1 r4.2).bind fun r7 =>
      if r7 = true then
        (fX7_c a1 3 r4.2).bind fun r10 =>
        (fX7_stepX a2 r4.2).bind fun r13 =>
        (fX7_c a1 4 r4.2).bind fun r16 =>
        (fX7_stepY a2 r4.2).bind fun r19 =>
        (fX7_isBox (r10 + r13) (r16 + r19) r4.2).bind fun r22 =>
        if r22 = true then
          (fX7_chipNow (r10 + r13) (r16 + r19) r4.2).bind fun r25 =>
          if r25 = (-1) then
            (fX7_begins r4.2).bind fun r28 =>
            (fX7_puts a1 3 (r10 + r13) r28).bind fun r31 =>
            (fX7_puts a1 4 (r16 + r19) r31).bind fun r34 =>
            (fX7_movesNow r34).bind fun r37 =>
            some (r37.1, r37.2)
          else
            (fX7_refuses 2 r4.2).bind fun r40 =>
            some (r40.1, r40.2)
        else
          (fX7_refuses 4 r4.2).bind fun r43 =>
          some (r43.1, r43.2)
      else
        (fX7_refuses 3 r4.2).bind fun r46 =>
        some (r46.1, r46.2)
    else
      some (0, r4.2)
def fX7_paint (a1 : Int32) (a2 : Int32) (σ : Sto) : Option (Int32 × Sto) :=
  (fX7_isChip a1 σ).bind fun r1 =>
  (some (fX7_goesBoth (kb r1) (kb (fX7_isIn a2 1 9)) σ)).bind fun r4 =>
  if r4.1 = true then
    (fX7_isInside a1 r4.2).bind fun r7 =>
    if r7 = true then
      (fX7_begins r4.2).bind fun r10 =>
      (fX7_puts a1 1 a2 r10).bind fun r13 =>
      (fX7_laysPicture r13).bind fun r16 =>
      (fX7_cellsWith a2 r16).bind fun r19 =>
      some (r19, r16)
    else
      (fX7_refuses 3 r4.2).bind fun r22 =>
      some (r22.1, r22.2)
  else
    some (0, r4.2)
def fX7_turn (a1 : Int32) (σ : Sto) : Option (Int32 × Sto) :=
  (fX7_goes (kb (fX7_isIn a1 1 7)) σ).bind fun r1 =>
  if r1.1 = true then
    (fX7_begins r1.2).bind fun r4 =>
    if kin 2 220 = true then
      (fX7_directions r4).bind fun r7 =>
      if r7 = 0 then none else
      if kin 2 220 = true then
        klet (su r4 134 (Int32.toNatClampNeg 2) (krem ((r4 134 (Int32.toNatClampNeg 2)) + a1) r7)) fun σ11 =>
        if kin 2 220 = true then
          some ((σ11 134 (Int32.toNatClampNeg 2)), σ11)
        else none
      else none
    else none
  else
    some (0, r1.2)
def fX7_tick (σ : Sto) : Option (Int32 × Sto) :=
  klet (su σ 133 7 0) fun σ1 =>
  (fX7_movesNow σ1).bind fun r2 =>
  if r2.1 = 0 then
    (fX7_refuses 5 r2.2).bind fun r11 =>
    some (r11.1, r11.2)
  else
    (fX7_begins r2.2).bind fun r5 =>
    (fX7_ticksOnce r5).bind fun r8 =>
    some (r8.1, r8.2)
def fX7_settle (σ : Sto) : Option (Int32 × Sto) :=
  klet (su σ 133 7 0) fun σ1 =>
  (fX7_movesNow σ1).bind fun r2 =>
  if r2.1 = 0 then
    (fX7_refuses 5 r2.2).bind fun r11 =>
    some (r11.1, r11.2)
  else
    (fX7_begins r2.2).bind fun r5 =>
    (fX7_settlesAll r5).bind fun r8 =>
    some (r8.1, r8.2)
def fX7_cover (a1 : Int32) (a2 : Int32) (σ : Sto) : Option (Int32 × Sto) :=
  (fX7_mirrorMany σ).bind fun r1 =>
  (fX7_goes (kb (fX7_isIn a1 0 (r1 - 1))) σ).bind fun r4 =>
  if r4.1 = true then
    if kin 6 220 = true then
      if (kb (fX7_has (r4.2 134 (Int32.toNatClampNeg 6)) a1)) = a2 then
        (fX7_refuses 4 r4.2).bind fun r14 =>
        some (r14.1, r14.2)
      else
        (fX7_begins r4.2).bind fun r7 =>
        if kin 6 220 = true then
          if kin 6 220 = true then
            klet (su r7 134 (Int32.toNatClampNeg 6) ((r7 134 (Int32.toNatClampNeg 6)) ^^^ (1 <<< (a1 &&& 31)))) fun σ10 =>
            (fX7_seenMany σ10).bind fun r11 =>
            some (r11.1, r11.2)
          else none
        else none
    else none
  else
    some (0, r4.2)
def fX7_setKeep (a1 : Int32) (σ : Sto) : Option (Int32 × Sto) :=
  (fX7_goes (kb (fX7_isIn a1 1 100)) σ).bind fun r1 =>
  if r1.1 = true then
    (fX7_begins r1.2).bind fun r4 =>
    if kin 3 220 = true then
      if kin 3 220 = true then
        klet (su r4 134 (Int32.toNatClampNeg 3) a1) fun σ7 =>
        some ((r4 134 (Int32.toNatClampNeg 3)), σ7)
      else none
    else none
  else
    some (0, r1.2)
def fX7_moves (σ : Sto) : Option (Int32 × Sto) :=
  klet (su σ 133 7 0) fun σ1 =>
  (fX7_movesNow σ1).bind fun r2 =>
  some (r2.1, r2.2)
def fX7_restsAt (a1 : Int32) (a2 : Int32) (σ : Sto) : Option (Int32 × Sto) :=
  (fX7_isChip a1 σ).bind fun r1 =>
  (fX7_isChip a1 σ).bind fun r4 =>
  if r4 = true then
    (fX7_isInside a1 σ).bind fun r28 =>
    if r28 = true then
      (some (fX7_goesBoth (kb r1) 1 σ)).bind fun r52 =>
      if r52.1 = true then
        (fX7_copies 134 220 0 135 220 0 r52.2).bind fun r55 =>
        (fX7_settlesAll r55).bind fun r58 =>
        if a2 = 0 then
          (fX7_c a1 3 r58.2).bind fun r61 =>
          (fX7_copies 135 220 0 134 220 0 r58.2).bind fun r64 =>
          some (r61, r64)
        else
          (fX7_c a1 4 r58.2).bind fun r67 =>
          (fX7_copies 135 220 0 134 220 0 r58.2).bind fun r70 =>
          some (r67, r70)
      else
        some (0, r52.2)
    else
      (some (fX7_goesBoth (kb r1) 0 σ)).bind fun r31 =>
      if r31.1 = true then
        (fX7_copies 134 220 0 135 220 0 r31.2).bind fun r34 =>
        (fX7_settlesAll r34).bind fun r37 =>
        if a2 = 0 then
          (fX7_c a1 3 r37.2).bind fun r40 =>
          (fX7_copies 135 220 0 134 220 0 r37.2).bind fun r43 =>
          some (r40, r43)
        else
          (fX7_c a1 4 r37.2).bind fun r46 =>
          (fX7_copies 135 220 0 134 220 0 r37.2).bind fun r49 =>
          some (r46, r49)
      else
        some (0, r31.2)
  else
    (some (fX7_goesBoth (kb r1) 0 σ)).bind fun r7 =>
    if r7.1 = true then
      (fX7_copies 134 220 0 135 220 0 r7.2).bind fun r10 =>
      (fX7_settlesAll r10).bind fun r13 =>
      if a2 = 0 then
        (fX7_c a1 3 r13.2).bind fun r16 =>
        (fX7_copies 135 220 0 134 220 0 r13.2).bind fun r19 =>
        some (r16, r19)
      else
        (fX7_c a1 4 r13.2).bind fun r22 =>
        (fX7_copies 135 220 0 134 220 0 r13.2).bind fun r25 =>
        some (r22, r25)
    else
      some (0, r7.2)
def fX7_depthSum_L43 (K4 : Int32 → Int32 → Sto → Option Int32) (v2 : Int32) (s0 : Int32) (s1 : Int32) (σ : Sto) : Option Int32 :=
  K4 (s1 + s0) (v2 + 1) σ
def fX7_depthSum_L4 : Nat → Int32 → Int32 → Sto → Option Int32
  | 0, _, _, _ => none
  | fu + 1, v1, v2, σ =>
    if kin 5 220 = true then
      if (σ 134 (Int32.toNatClampNeg 5)) ≤ v2 then
        some v1
      else
        (fX7_isInside v2 σ).bind fun r1 =>
        if r1 = true then
          (fX7_c v2 3 σ).bind fun r4 =>
          (fX7_c v2 4 σ).bind fun r7 =>
          (fX7_depthOf r4 r7 σ).bind fun r10 =>
          fX7_depthSum_L43 (fX7_depthSum_L4 fu) v2 r10 v1 σ
        else
          fX7_depthSum_L43 (fX7_depthSum_L4 fu) v2 0 v1 σ
    else none
def fX7_depthSum (σ : Sto) : Option Int32 :=
  fX7_depthSum_L4 kFU 0 0 σ
def fX7_settledNow (a1 : Int32) (a2 : Int32) (σ : Sto) : Option (Int32 × Sto) :=
  if kin 2 220 = true then
    (fX7_directions σ).bind fun r1 =>
    if r1 = 0 then none else
    if kin 2 220 = true then
      klet (su σ 134 (Int32.toNatClampNeg 2) (krem ((σ 134 (Int32.toNatClampNeg 2)) + a1) r1)) fun σ5 =>
      if kin 7 220 = true then
        (fX7_settlesAll σ5).bind fun r6 =>
        (fX7_laysPicture r6.2).bind fun r9 =>
        if a2 = 0 then
          some (r6.1, r9)
        else
          if a2 = 1 then
            if kin 7 220 = true then
              some (((r9 134 (Int32.toNatClampNeg 7)) - (σ5 134 (Int32.toNatClampNeg 7))), r9)
            else none
          else
            if a2 = 2 then
              (fX7_regionsOf 0 r9).bind fun r15 =>
              some (r15.1, r15.2)
            else
              if a2 = 3 then
                (fX7_edgesNow r9).bind fun r19 =>
                some (r19, r9)
              else
                if a2 = 4 then
                  (fX7_symmetriesNow r9).bind fun r23 =>
                  some (r23.1, r23.2)
                else
                  (fX7_depthSum r9).bind fun r26 =>
                  some (r26, r9)
      else none
    else none
  else none
def fX7_settled (a1 : Int32) (a2 : Int32) (σ : Sto) : Option (Int32 × Sto) :=
  if (fX7_isIn a1 0 7) = true then
    if (fX7_isIn a2 0 5) = true then
      (fX7_goes 1 σ).bind fun r25 =>
      if r25.1 = true then
        (fX7_copies 134 220 0 135 220 0 r25.2).bind fun r28 =>
        (fX7_settledNow a1 a2 r28).bind fun r31 =>
        (fX7_copies 135 220 0 134 220 0 r31.2).bind fun r34 =>
        some (r31.1, r34)
      else
        some (0, r25.2)
    else
      (fX7_goes 0 σ).bind fun r13 =>
      if r13.1 = true then
        (fX7_copies 134 220 0 135 220 0 r13.2).bind fun r16 =>
        (fX7_settledNow a1 a2 r16).bind fun r19 =>
        (fX7_copies 135 220 0 134 220 0 r19.2).bind fun r22 =>
        some (r19.1, r22)
      else
        some (0, r13.2)
  else
    (fX7_goes 0 σ).bind fun r1 =>
    if r1.1 = true then
      (fX7_copies 134 220 0 135 220 0 r1.2).bind fun r4 =>
      (fX7_settledNow a1 a2 r4).bind fun r7 =>
      (fX7_copies 135 220 0 134 220 0 r7.2).bind fun r10 =>
      some (r7.1, r10)
    else
      some (0, r1.2)
def fX7_bestTurn_L73 (a1 : Int32) (K36 : Int32 → Int32 → Int32 → Sto → Option (Int32 × Sto)) (v3 : Int32) (v4 : Int32) (v6 : Int32) (s0 : Int32) (σ : Sto) : Option (Int32 × Sto) :=
  (fX7_copies 135 220 0 134 220 0 σ).bind fun r16 =>
  K36 s0 (if v6 < v3 then v3 else v6) (v4 + 1) r16
def fX7_bestTurn_L36 (a1 : Int32) : Nat → Int32 → Int32 → Int32 → Sto → Option (Int32 × Sto)
  | 0, _, _, _, _ => none
  | fu + 1, v2, v3, v4, σ =>
    (fX7_directions σ).bind fun r7 =>
    if r7 ≤ v4 then
      some (v2, σ)
    else
      (fX7_settledNow v4 0 σ).bind fun r10 =>
      (fX7_cellsWith a1 r10.2).bind fun r13 =>
      if r13 ≤ v3 then
        fX7_bestTurn_L73 a1 (fX7_bestTurn_L36 a1 fu) v3 v4 r13 v2 r10.2
      else
        fX7_bestTurn_L73 a1 (fX7_bestTurn_L36 a1 fu) v3 v4 r13 v4 r10.2
def fX7_bestTurn (a1 : Int32) (σ : Sto) : Option (Int32 × Sto) :=
  (fX7_goes (kb (fX7_isIn a1 1 9)) σ).bind fun r1 =>
  if r1.1 = true then
    (fX7_copies 134 220 0 135 220 0 r1.2).bind fun r4 =>
    fX7_bestTurn_L36 a1 kFU 0 (-1) 0 r4
  else
    some (0, r1.2)
def fX7_isAsBefore_L96 (K23 : Int32 → Int32 → Sto → Option Bool) (v2 : Int32) (s0 : Int32) (σ : Sto) : Option Bool :=
  K23 s0 (v2 + 1) σ
def fX7_isAsBefore_L91 (K23 : Int32 → Int32 → Sto → Option Bool) (v2 : Int32) (σ : Sto) : Option Bool :=
  fX7_isAsBefore_L96 K23 v2 1 σ
def fX7_isAsBefore_L95 (K23 : Int32 → Int32 → Sto → Option Bool) (v2 : Int32) (σ : Sto) : Option Bool :=
  fX7_isAsBefore_L96 K23 v2 0 σ
def fX7_isAsBefore_L23 : Nat → Int32 → Int32 → Sto → Option Bool
  | 0, _, _, _ => none
  | fu + 1, v1, v2, σ =>
    if kin 5 220 = true then
      if (σ 134 (Int32.toNatClampNeg 5)) ≤ v2 then
        if kbo v1 = true then
          some (decide (v1 = 1))
        else none
      else
        if v1 = 0 then
          if kbo v1 = true then
            some (decide (v1 = 1))
          else none
        else
          (fX7_isInside v2 σ).bind fun r3 =>
          if r3 = true then
            if kin ((10 + (7 * v2)) + 3) 220 = true then
              if kin ((10 + (7 * v2)) + 3) 220 = true then
                if (σ 134 ((10 + (7 * v2)) + 3).toNatClampNeg) = (σ 135 ((10 + (7 * v2)) + 3).toNatClampNeg) then
                  if kin ((10 + (7 * v2)) + 4) 220 = true then
                    if kin ((10 + (7 * v2)) + 4) 220 = true then
                      if (σ 134 ((10 + (7 * v2)) + 4).toNatClampNeg) = (σ 135 ((10 + (7 * v2)) + 4).toNatClampNeg) then
                        fX7_isAsBefore_L91 (fX7_isAsBefore_L23 fu) v2 σ
                      else
                        fX7_isAsBefore_L95 (fX7_isAsBefore_L23 fu) v2 σ
                    else none
                  else none
                else
                  fX7_isAsBefore_L95 (fX7_isAsBefore_L23 fu) v2 σ
              else none
            else none
          else
            fX7_isAsBefore_L91 (fX7_isAsBefore_L23 fu) v2 σ
    else none
def fX7_isAsBefore_L20 (s0 : Int32) (σ : Sto) : Option Bool :=
  fX7_isAsBefore_L23 kFU s0 0 σ
def fX7_isAsBefore (σ : Sto) : Option Bool :=
  if kin 2 220 = true then
    if kin 2 220 = true then
      if (σ 134 (Int32.toNatClampNeg 2)) = (σ 135 (Int32.toNatClampNeg 2)) then
        fX7_isAsBefore_L20 1 σ
      else
        fX7_isAsBefore_L20 0 σ
    else none
  else none
def fX7_period_L71 (a1 : Int32) (v2 : Int32) (σ : Sto) : Option (Int32 × Sto) :=
  (fX7_copies 135 220 0 134 220 0 σ).bind fun r7 =>
  some (v2, r7)
def fX7_period_L64 (a1 : Int32) (K33 : Int32 → Int32 → Sto → Option (Int32 × Sto)) (v3 : Int32) (s0 : Int32) (σ : Sto) : Option (Int32 × Sto) :=
  K33 s0 (v3 + 1) σ
def fX7_period_L33 (a1 : Int32) : Nat → Int32 → Int32 → Sto → Option (Int32 × Sto)
  | 0, _, _, _ => none
  | fu + 1, v2, v3, σ =>
    if 48 < v3 then
      fX7_period_L71 a1 v2 σ
    else
      if v2 = (-1) then
        (fX7_settledNow a1 0 σ).bind fun r10 =>
        (fX7_isAsBefore r10.2).bind fun r13 =>
        if r13 = true then
          fX7_period_L64 a1 (fX7_period_L33 a1 fu) v3 v3 r10.2
        else
          fX7_period_L64 a1 (fX7_period_L33 a1 fu) v3 (-1) r10.2
      else
        fX7_period_L71 a1 v2 σ
def fX7_period (a1 : Int32) (σ : Sto) : Option (Int32 × Sto) :=
  (fX7_goes (kb (fX7_isIn a1 1 7)) σ).bind fun r1 =>
  if r1.1 = true then
    (fX7_copies 134 220 0 135 220 0 r1.2).bind fun r4 =>
    fX7_period_L33 a1 kFU (-1) 1 r4
  else
    some (0, r1.2)
def fX7_write_L40 (K21 : Int32 → Sto → Option (Int32 × Sto)) : Nat → Int32 → Int32 → Sto → Option (Int32 × Sto)
  | 0, _, _, _ => none
  | fu + 1, v1, v2, σ =>
    if kin 1 220 = true then
      if (σ 134 (Int32.toNatClampNeg 1)) < v2 then
        if kin (σ 133 34) 200 = true then
          klet (su σ 153 (σ 133 34).toNatClampNeg 10) fun σ6 =>
          klet (su σ6 133 34 ((σ6 133 34) + 1)) fun σ7 =>
          K21 (v1 + (-1)) σ7
        else none
      else
        (fX7_isNear v2 v1 σ).bind fun r8 =>
        if r8 = true then
          if kin (fX7_cell v2 v1) 169 = true then
            if kin (σ 133 34) 200 = true then
              klet (su σ 153 (σ 133 34).toNatClampNeg (48 + (σ 145 (fX7_cell v2 v1).toNatClampNeg))) fun σ13 =>
              klet (su σ13 133 34 ((σ13 133 34) + 1)) fun σ14 =>
              fX7_write_L40 K21 fu v1 (v2 + 1) σ14
            else none
          else none
        else
          if kin (σ 133 34) 200 = true then
            klet (su σ 153 (σ 133 34).toNatClampNeg 32) fun σ11 =>
            klet (su σ11 133 34 ((σ11 133 34) + 1)) fun σ12 =>
            fX7_write_L40 K21 fu v1 (v2 + 1) σ12
          else none
    else none
def fX7_write_L21 : Nat → Int32 → Sto → Option (Int32 × Sto)
  | 0, _, _ => none
  | fu + 1, v1, σ =>
    if kin 1 220 = true then
      if v1 < (-(σ 134 (Int32.toNatClampNeg 1))) then
        some ((σ 133 34), σ)
      else
        if kin 1 220 = true then
          fX7_write_L40 (fX7_write_L21 fu) kFU v1 (-(σ 134 (Int32.toNatClampNeg 1))) σ
        else none
    else none
def fX7_write (σ : Sto) : Option (Int32 × Sto) :=
  klet (su σ 133 7 0) fun σ1 =>
  (fX7_laysPicture σ1).bind fun r2 =>
  klet (su r2 133 34 0) fun σ5 =>
  if kin 1 220 = true then
    fX7_write_L21 kFU (σ5 134 (Int32.toNatClampNeg 1)) σ5
  else none
def fX7_output (a1 : Int32) (σ : Sto) : Option (Int32 × Sto) :=
  klet (su σ 133 7 0) fun σ1 =>
  if (fX7_isIn a1 0 ((σ1 133 34) - 1)) = true then
    if kin a1 200 = true then
      some ((σ1 153 a1.toNatClampNeg), σ1)
    else none
  else
    some ((-1), σ1)
def fX7_undo (σ : Sto) : Option (Int32 × Sto) :=
  klet (su σ 133 7 0) fun σ1 =>
  if (σ1 133 6) = 0 then
    some ((-1), σ1)
  else
    klet (su σ1 133 6 ((σ1 133 6) - 1)) fun σ2 =>
    (fX7_copies 136 1760 (220 * (σ2 133 6)) 134 220 0 σ2).bind fun r3 =>
    some ((r3 133 6), r3)
def fX7_save (a1 : Int32) (σ : Sto) : Option Sto :=
  (fX7_goes (kb (fX7_isSlot a1)) σ).bind fun r1 =>
  if r1.1 = true then
    (fX7_copies 134 220 0 137 440 (220 * a1) r1.2).bind fun r4 =>
    if kin a1 2 = true then
      klet (su r4 139 a1.toNatClampNeg 1) fun σ7 =>
      some σ7
    else none
  else
    some r1.2
def fX7_restore (a1 : Int32) (σ : Sto) : Option Sto :=
  if (fX7_isSlot a1) = true then
    if kin a1 2 = true then
      if (σ 139 a1.toNatClampNeg) = 0 then
        (some (fX7_goesBoth (kb (fX7_isSlot a1)) 0 σ)).bind fun r8 =>
        if r8.1 = true then
          (fX7_copies 137 440 (220 * a1) 134 220 0 r8.2).bind fun r11 =>
          klet (su r11 133 6 0) fun σ14 =>
          some σ14
        else
          some r8.2
      else
        (some (fX7_goesBoth (kb (fX7_isSlot a1)) 1 σ)).bind fun r15 =>
        if r15.1 = true then
          (fX7_copies 137 440 (220 * a1) 134 220 0 r15.2).bind fun r18 =>
          klet (su r18 133 6 0) fun σ21 =>
          some σ21
        else
          some r15.2
    else none
  else
    (some (fX7_goesBoth (kb (fX7_isSlot a1)) 0 σ)).bind fun r1 =>
    if r1.1 = true then
      (fX7_copies 137 440 (220 * a1) 134 220 0 r1.2).bind fun r4 =>
      klet (su r4 133 6 0) fun σ7 =>
      some σ7
    else
      some r1.2
noncomputable def fX6_meanBrightness (σ : Sto) : Option (UInt64 × Sto) :=
  (fX3_look 7 25 σ).bind fun r1 =>
  (fX3_countSeen 7 r1).bind fun r4 =>
  if r4 = 0 then
    some (FP.dconst0, r1)
  else
    (fX3_sumOfBrightness 7 25 0 r1).bind fun r7 =>
    if r4 = 0 then none else
    some (FP.ddiv (FP.i2d r7) (FP.i2d r4), r1)
noncomputable def fX6_filled (σ : Sto) : Option UInt32 :=
  (fX1_boxCells 26 σ).bind fun r1 =>
  if r1 = 0 then
    some FP.fconst0
  else
    (fX5_chipsInBox 25 σ).bind fun r4 =>
    if r1 = 0 then none else
    some (FP.fdiv (FP.i2f r4) (FP.i2f r1))
noncomputable def fX7_meanBrightness_L14 : Nat → Int32 → Int32 → Int32 → Sto → Option (UInt64 × Sto)
  | 0, _, _, _, _ => none
  | fu + 1, v1, v2, v3, σ =>
    if 169 ≤ v3 then
      if v1 = 0 then none else
      some (FP.ddiv (FP.i2d v2) (FP.i2d v1), σ)
    else
      (fX7_brightnessOf v3 σ).bind fun r6 =>
      fX7_meanBrightness_L14 fu v1 (v2 + r6) (v3 + 1) σ
noncomputable def fX7_meanBrightness (σ : Sto) : Option (UInt64 × Sto) :=
  klet (su σ 133 7 0) fun σ1 =>
  (fX7_seenMany σ1).bind fun r2 =>
  fX7_meanBrightness_L14 kFU r2.1 0 0 r2.2
noncomputable def fX7_filled (σ : Sto) : Option (UInt32 × Sto) :=
  klet (su σ 133 7 0) fun σ1 =>
  (fX7_insideMany σ1).bind fun r2 =>
  (fX7_boxMany σ1).bind fun r5 =>
  if r5 = 0 then none else
  some (FP.fdiv (FP.i2f r2) (FP.i2f r5), σ1)
