theorem dX6_appendText_0 : decode cX6_appendText 0 = .ok (.aload_n 0, 1) := by decide +kernel
theorem dX6_appendText_1 : decode cX6_appendText 1 = .ok (.getfield 37, 3) := by decide +kernel
theorem dX6_appendText_4 : decode cX6_appendText 4 = .ok (.iconst 4, 1) := by decide +kernel
theorem dX6_appendText_5 : decode cX6_appendText 5 = .ok (.invokevirtual 65, 3) := by decide +kernel
theorem dX6_appendText_8 : decode cX6_appendText 8 = .ok (.ifCond .ne 11, 3) := by decide +kernel
theorem dX6_appendText_11 : decode cX6_appendText 11 = .ok (.new 69, 3) := by decide +kernel
theorem dX6_appendText_14 : decode cX6_appendText 14 = .ok (.dup, 1) := by decide +kernel
theorem dX6_appendText_15 : decode cX6_appendText 15 = .ok (.invokespecial 71, 3) := by decide +kernel
theorem dX6_appendText_18 : decode cX6_appendText 18 = .ok (.athrow, 1) := by decide +kernel
theorem dX6_appendText_19 : decode cX6_appendText 19 = .ok (.aload_n 0, 1) := by decide +kernel
theorem dX6_appendText_20 : decode cX6_appendText 20 = .ok (.getfield 37, 3) := by decide +kernel
theorem dX6_appendText_23 : decode cX6_appendText 23 = .ok (.iload_n 1, 1) := by decide +kernel
theorem dX6_appendText_24 : decode cX6_appendText 24 = .ok (.bipush 24, 2) := by decide +kernel
theorem dX6_appendText_26 : decode cX6_appendText 26 = .ok (.iushr, 1) := by decide +kernel
theorem dX6_appendText_27 : decode cX6_appendText 27 = .ok (.invokevirtual 72, 3) := by decide +kernel
theorem dX6_appendText_30 : decode cX6_appendText 30 = .ok (.aload_n 0, 1) := by decide +kernel
theorem dX6_appendText_31 : decode cX6_appendText 31 = .ok (.getfield 37, 3) := by decide +kernel
theorem dX6_appendText_34 : decode cX6_appendText 34 = .ok (.iload_n 1, 1) := by decide +kernel
theorem dX6_appendText_35 : decode cX6_appendText 35 = .ok (.bipush 16, 2) := by decide +kernel
theorem dX6_appendText_37 : decode cX6_appendText 37 = .ok (.iushr, 1) := by decide +kernel
theorem dX6_appendText_38 : decode cX6_appendText 38 = .ok (.invokevirtual 72, 3) := by decide +kernel
theorem dX6_appendText_41 : decode cX6_appendText 41 = .ok (.aload_n 0, 1) := by decide +kernel
theorem dX6_appendText_42 : decode cX6_appendText 42 = .ok (.getfield 37, 3) := by decide +kernel
theorem dX6_appendText_45 : decode cX6_appendText 45 = .ok (.iload_n 1, 1) := by decide +kernel
theorem dX6_appendText_46 : decode cX6_appendText 46 = .ok (.bipush 8, 2) := by decide +kernel
theorem dX6_appendText_48 : decode cX6_appendText 48 = .ok (.iushr, 1) := by decide +kernel
theorem dX6_appendText_49 : decode cX6_appendText 49 = .ok (.invokevirtual 72, 3) := by decide +kernel
theorem dX6_appendText_52 : decode cX6_appendText 52 = .ok (.aload_n 0, 1) := by decide +kernel
theorem dX6_appendText_53 : decode cX6_appendText 53 = .ok (.getfield 37, 3) := by decide +kernel
theorem dX6_appendText_56 : decode cX6_appendText 56 = .ok (.iload_n 1, 1) := by decide +kernel
theorem dX6_appendText_57 : decode cX6_appendText 57 = .ok (.invokevirtual 72, 3) := by decide +kernel
theorem dX6_appendText_60 : decode cX6_appendText 60 = .ok (.aload_n 0, 1) := by decide +kernel
theorem dX6_appendText_61 : decode cX6_appendText 61 = .ok (.getfield 37, 3) := by decide +kernel
theorem dX6_appendText_64 : decode cX6_appendText 64 = .ok (.getfield 76, 3) := by decide +kernel
theorem dX6_appendText_67 : decode cX6_appendText 67 = .ok (.ireturn, 1) := by decide +kernel
abbrev mX6_appendText : KM := (RX6, cX6_appendText, 2, (some .int), { frames := 6, cells := 0, slots := 0, locals := 89 }, 0, 0)
def fX6_appendText (a1 : Int32) (σ : Sto) : Option KP :=
  if (fX4_hasRoom 5 4 σ) = true then
    (fX4_addByte 5 (kushr a1 24) σ).bind fun r1 =>
    (fX4_addByte 5 (kushr a1 16) r1).bind fun r4 =>
    (fX4_addByte 5 (kushr a1 8) r4).bind fun r7 =>
    (fX4_addByte 5 a1 r7).bind fun r10 =>
    some (0, (r10 5 1), r10)
  else
    some (2, 0, σ)
set_option maxHeartbeats 4000000 in
set_option maxRecDepth 100000 in
theorem tX6_appendText (sh : KSh) (hk : KAG sh) (l : Launch) (hst : l.stackTraces = false) (a1 : Int32) (σ : Sto) (r : KP) (h : fX6_appendText a1 σ = some r) (hnt : r.1 = 0) : CT sh l mX6_appendText yX6_appendText [.ref 0, .int a1] σ (r.1, .int r.2.1, r.2.2) := by
  refine kct [(0, .ref 0), (1, .int a1)] hst (by decide +kernel) rfl rfl (Nat.le_of_ble_eq_true rfl) ?_
  rw [fX6_appendText] at h
  refine kv_aload_n (pc := 0) 0 dX6_appendText_0 rfl rfl ?_
  refine kv_getR (pc := 1) (q2 := 5) dX6_appendText_1 (ks_0 hk) rfl (i := 8) (by decide) rfl fl_X6_37 rfl rfl ?_
  refine kv_iconst (pc := 4) (v := 4) dX6_appendText_4 (by decide) ?_
  refine kv_tV (pc := 5) (v := .int (kb (fX4_hasRoom 5 4 σ))) [.int 4] (.int (kb (fX4_hasRoom 5 4 σ)) :: []) 8 0 0 (tX4_hasRoom sh (kwf_of hk) l hst 5 (ks_5 hk) 4 σ) dX6_appendText_5 rfl (ks_5 hk) rfl yw_X4_hasRoom lk_X6_65 (by decide) (Nat.le_of_ble_eq_true rfl) (by decide) rfl ⟨rfl, rfl, rfl⟩ ?_
  refine kv_ifb_ne (pc := 8) (tgt := 19) dX6_appendText_8 (by decide) h (fun h => ?_) (fun h => ?_)
  · refine kv_aload_n (pc := 19) 0 dX6_appendText_19 rfl rfl ?_
    refine kv_getR (pc := 20) (q2 := 5) dX6_appendText_20 (ks_0 hk) rfl (i := 8) (by decide) rfl fl_X6_37 rfl rfl ?_
    refine kv_iload_n (pc := 23) 1 dX6_appendText_23 rfl rfl ?_
    refine kv_bipush (pc := 24) (v := 24) dX6_appendText_24 (by decide) ?_
    refine kv_iushr (pc := 26) dX6_appendText_26 ?_
    refine kv_cV (pc := 27) [.int (kushr a1 24)] (fun r1 => (0, .int 0, r1)) (fun r1 => []) (fun r1 => r1) 30 0 0 h (fun r1 g2 => tX4_addByte sh (kwf_of hk) l hst 5 (ks_5 hk) (kushr a1 24) σ r1 g2) dX6_appendText_27 rfl (ks_5 hk) rfl yw_X4_addByte lk_X6_72 (by decide) (Nat.le_of_ble_eq_true rfl) (by decide) (fun _ => rfl) (fun _ => rfl) ⟨rfl, rfl, rfl⟩ (fun _ _ h0 => absurd rfl h0) (fun r1 g2 z3 h => ?_)
    refine kv_aload_n (pc := 30) 0 dX6_appendText_30 rfl rfl ?_
    refine kv_getR (pc := 31) (q2 := 5) dX6_appendText_31 (ks_0 hk) rfl (i := 8) (by decide) rfl fl_X6_37 rfl rfl ?_
    refine kv_iload_n (pc := 34) 1 dX6_appendText_34 rfl rfl ?_
    refine kv_bipush (pc := 35) (v := 16) dX6_appendText_35 (by decide) ?_
    refine kv_iushr (pc := 37) dX6_appendText_37 ?_
    refine kv_cV (pc := 38) [.int (kushr a1 16)] (fun r4 => (0, .int 0, r4)) (fun r4 => []) (fun r4 => r4) 41 0 0 h (fun r4 g5 => tX4_addByte sh (kwf_of hk) l hst 5 (ks_5 hk) (kushr a1 16) r1 r4 g5) dX6_appendText_38 rfl (ks_5 hk) rfl yw_X4_addByte lk_X6_72 (by decide) (Nat.le_of_ble_eq_true rfl) (by decide) (fun _ => rfl) (fun _ => rfl) ⟨rfl, rfl, rfl⟩ (fun _ _ h0 => absurd rfl h0) (fun r4 g5 z6 h => ?_)
    refine kv_aload_n (pc := 41) 0 dX6_appendText_41 rfl rfl ?_
    refine kv_getR (pc := 42) (q2 := 5) dX6_appendText_42 (ks_0 hk) rfl (i := 8) (by decide) rfl fl_X6_37 rfl rfl ?_
    refine kv_iload_n (pc := 45) 1 dX6_appendText_45 rfl rfl ?_
    refine kv_bipush (pc := 46) (v := 8) dX6_appendText_46 (by decide) ?_
    refine kv_iushr (pc := 48) dX6_appendText_48 ?_
    refine kv_cV (pc := 49) [.int (kushr a1 8)] (fun r7 => (0, .int 0, r7)) (fun r7 => []) (fun r7 => r7) 52 0 0 h (fun r7 g8 => tX4_addByte sh (kwf_of hk) l hst 5 (ks_5 hk) (kushr a1 8) r4 r7 g8) dX6_appendText_49 rfl (ks_5 hk) rfl yw_X4_addByte lk_X6_72 (by decide) (Nat.le_of_ble_eq_true rfl) (by decide) (fun _ => rfl) (fun _ => rfl) ⟨rfl, rfl, rfl⟩ (fun _ _ h0 => absurd rfl h0) (fun r7 g8 z9 h => ?_)
    refine kv_aload_n (pc := 52) 0 dX6_appendText_52 rfl rfl ?_
    refine kv_getR (pc := 53) (q2 := 5) dX6_appendText_53 (ks_0 hk) rfl (i := 8) (by decide) rfl fl_X6_37 rfl rfl ?_
    refine kv_iload_n (pc := 56) 1 dX6_appendText_56 rfl rfl ?_
    refine kv_cV (pc := 57) [.int a1] (fun r10 => (0, .int 0, r10)) (fun r10 => []) (fun r10 => r10) 60 0 0 h (fun r10 g11 => tX4_addByte sh (kwf_of hk) l hst 5 (ks_5 hk) a1 r7 r10 g11) dX6_appendText_57 rfl (ks_5 hk) rfl yw_X4_addByte lk_X6_72 (by decide) (Nat.le_of_ble_eq_true rfl) (by decide) (fun _ => rfl) (fun _ => rfl) ⟨rfl, rfl, rfl⟩ (fun _ _ h0 => absurd rfl h0) (fun r10 g11 z12 h => ?_)
    refine kv_aload_n (pc := 60) 0 dX6_appendText_60 rfl rfl ?_
    refine kv_getR (pc := 61) (q2 := 5) dX6_appendText_61 (ks_0 hk) rfl (i := 8) (by decide) rfl fl_X6_37 rfl rfl ?_
    refine kv_getI (pc := 64) dX6_appendText_64 (ks_5 hk) rfl (i := 1) (by decide) rfl fl_X6_76 rfl ?_
    exact kv_iret (pc := 67) dX6_appendText_67 rfl (by cases h; rfl) (by decide) (by decide)
  · cases h; exact absurd (show (2 : Nat) = 0 from hnt) (by decide)
theorem yw_X6_appendText : KMV yX6_appendText mX6_appendText RX6 1 := ⟨⟨rfl, by decide +kernel, by decide +kernel, by decide +kernel⟩, ⟨rfl, rfl⟩, kg_in 842 (by decide +kernel) (by decide +kernel), kg_in 843 (by decide +kernel) (by decide +kernel), kg_in 47 (by decide +kernel) (by decide +kernel), kg_in 844 (by decide +kernel) (by decide +kernel)⟩
theorem dX6_needRange_0 : decode cX6_needRange 0 = .ok (.iload_n 0, 1) := by decide +kernel
theorem dX6_needRange_1 : decode cX6_needRange 1 = .ok (.iload_n 1, 1) := by decide +kernel
theorem dX6_needRange_2 : decode cX6_needRange 2 = .ok (.if_icmp .lt 8, 3) := by decide +kernel
theorem dX6_needRange_5 : decode cX6_needRange 5 = .ok (.iload_n 0, 1) := by decide +kernel
theorem dX6_needRange_6 : decode cX6_needRange 6 = .ok (.iload_n 2, 1) := by decide +kernel
theorem dX6_needRange_7 : decode cX6_needRange 7 = .ok (.if_icmp .le 11, 3) := by decide +kernel
theorem dX6_needRange_10 : decode cX6_needRange 10 = .ok (.new 325, 3) := by decide +kernel
theorem dX6_needRange_13 : decode cX6_needRange 13 = .ok (.dup, 1) := by decide +kernel
theorem dX6_needRange_14 : decode cX6_needRange 14 = .ok (.invokespecial 327, 3) := by decide +kernel
theorem dX6_needRange_17 : decode cX6_needRange 17 = .ok (.athrow, 1) := by decide +kernel
theorem dX6_needRange_18 : decode cX6_needRange 18 = .ok (.return_, 1) := by decide +kernel
abbrev mX6_needRange : KM := (RX6, cX6_needRange, 3, none, { frames := 6, cells := 0, slots := 0, locals := 89 }, 0, 0)
def fX6_needRange_L10 (a0 : Int32) (a1 : Int32) (a2 : Int32) (σ : Sto) : Option Nat :=
  some 1
def fX6_needRange (a0 : Int32) (a1 : Int32) (a2 : Int32) (σ : Sto) : Option Nat :=
  if a0 < a1 then
    fX6_needRange_L10 a0 a1 a2 σ
  else
    if a0 ≤ a2 then
      some 0
    else
      fX6_needRange_L10 a0 a1 a2 σ
set_option maxHeartbeats 4000000 in
set_option maxRecDepth 100000 in
theorem wX6_needRange_L10 (sh : KSh) (hk : KAG sh) (l : Launch) (hst : l.stackTraces = false) (a0 : Int32) (a1 : Int32) (a2 : Int32) : ∀ (σ : Sto), ∀ (r : Nat), fX6_needRange_L10 a0 a1 a2 σ = some r → r = 0 → VV sh l mX6_needRange 0 0 10 [] [] σ (r, .int 0, σ) := by
  intro σ r h hnt
  rw [fX6_needRange_L10] at h
  cases h; exact absurd (show (1 : Nat) = 0 from hnt) (by decide)
set_option maxHeartbeats 4000000 in
set_option maxRecDepth 100000 in
theorem tX6_needRange (sh : KSh) (hk : KAG sh) (l : Launch) (hst : l.stackTraces = false) (a0 : Int32) (a1 : Int32) (a2 : Int32) (σ : Sto) (r : Nat) (h : fX6_needRange a0 a1 a2 σ = some r) (hnt : r = 0) : CT sh l mX6_needRange yX6_needRange [.int a0, .int a1, .int a2] σ (r, .int 0, σ) := by
  refine kct [(0, .int a0), (1, .int a1), (2, .int a2)] hst (by decide +kernel) rfl rfl (Nat.le_of_ble_eq_true rfl) ?_
  rw [fX6_needRange] at h
  refine kv_iload_n (pc := 0) 0 dX6_needRange_0 rfl rfl ?_
  refine kv_iload_n (pc := 1) 1 dX6_needRange_1 rfl rfl ?_
  refine kv_icmp_lt (pc := 2) (tgt := 10) dX6_needRange_2 (by decide) h (fun h => ?_) (fun h => ?_)
  · refine kv_sub (pc := 10) [] [] rfl ?_
    exact wX6_needRange_L10 sh hk l hst a0 a1 a2 σ r h hnt
  · refine kv_iload_n (pc := 5) 0 dX6_needRange_5 rfl rfl ?_
    refine kv_iload_n (pc := 6) 2 dX6_needRange_6 rfl rfl ?_
    refine kv_icmp_le (pc := 7) (tgt := 18) dX6_needRange_7 (by decide) h (fun h => ?_) (fun h => ?_)
    · exact kv_vret (pc := 18) (v := .int 0) dX6_needRange_18 rfl (by cases h; rfl) (by decide) (by decide)
    · refine kv_sub (pc := 10) [] [] rfl ?_
      exact wX6_needRange_L10 sh hk l hst a0 a1 a2 σ r h hnt
theorem yw_X6_needRange : KMS yX6_needRange mX6_needRange 3 := ⟨⟨by decide +kernel, by decide +kernel, by decide +kernel⟩, ⟨rfl, rfl⟩, kg_in 552 (by decide +kernel) (by decide +kernel), kg_in 47 (by decide +kernel) (by decide +kernel), kg_in 553 (by decide +kernel) (by decide +kernel)⟩
theorem dX6_truncateText_0 : decode cX6_truncateText 0 = .ok (.iload_n 1, 1) := by decide +kernel
theorem dX6_truncateText_1 : decode cX6_truncateText 1 = .ok (.iconst 0, 1) := by decide +kernel
theorem dX6_truncateText_2 : decode cX6_truncateText 2 = .ok (.aload_n 0, 1) := by decide +kernel
theorem dX6_truncateText_3 : decode cX6_truncateText 3 = .ok (.getfield 37, 3) := by decide +kernel
theorem dX6_truncateText_6 : decode cX6_truncateText 6 = .ok (.getfield 76, 3) := by decide +kernel
theorem dX6_truncateText_9 : decode cX6_truncateText 9 = .ok (.invokestatic 80, 3) := by decide +kernel
theorem dX6_truncateText_12 : decode cX6_truncateText 12 = .ok (.aload_n 0, 1) := by decide +kernel
theorem dX6_truncateText_13 : decode cX6_truncateText 13 = .ok (.getfield 37, 3) := by decide +kernel
theorem dX6_truncateText_16 : decode cX6_truncateText 16 = .ok (.iload_n 1, 1) := by decide +kernel
theorem dX6_truncateText_17 : decode cX6_truncateText 17 = .ok (.putfield 76, 3) := by decide +kernel
theorem dX6_truncateText_20 : decode cX6_truncateText 20 = .ok (.iload_n 1, 1) := by decide +kernel
theorem dX6_truncateText_21 : decode cX6_truncateText 21 = .ok (.ireturn, 1) := by decide +kernel
abbrev mX6_truncateText : KM := (RX6, cX6_truncateText, 2, (some .int), { frames := 7, cells := 0, slots := 0, locals := 111 }, 0, 0)
def fX6_truncateText (a1 : Int32) (σ : Sto) : Option KP :=
  (fX6_needRange a1 0 (σ 5 1) σ).bind fun r1 =>
  if r1 = 0 then
    klet (su σ 5 1 a1) fun σ4 =>
    some (0, a1, σ4)
  else some (r1, 0, σ)
set_option maxHeartbeats 4000000 in
set_option maxRecDepth 100000 in
theorem tX6_truncateText (sh : KSh) (hk : KAG sh) (l : Launch) (hst : l.stackTraces = false) (a1 : Int32) (σ : Sto) (r : KP) (h : fX6_truncateText a1 σ = some r) (hnt : r.1 = 0) : CT sh l mX6_truncateText yX6_truncateText [.ref 0, .int a1] σ (r.1, .int r.2.1, r.2.2) := by
  refine kct [(0, .ref 0), (1, .int a1)] hst (by decide +kernel) rfl rfl (Nat.le_of_ble_eq_true rfl) ?_
  rw [fX6_truncateText] at h
  refine kv_iload_n (pc := 0) 1 dX6_truncateText_0 rfl rfl ?_
  refine kv_iconst (pc := 1) (v := 0) dX6_truncateText_1 (by decide) ?_
  refine kv_aload_n (pc := 2) 0 dX6_truncateText_2 rfl rfl ?_
  refine kv_getR (pc := 3) (q2 := 5) dX6_truncateText_3 (ks_0 hk) rfl (i := 8) (by decide) rfl fl_X6_37 rfl rfl ?_
  refine kv_getI (pc := 6) dX6_truncateText_6 (ks_5 hk) rfl (i := 1) (by decide) rfl fl_X6_76 rfl ?_
  refine kv_cSn (pc := 9) [.int a1, .int 0, .int (σ 5 1)] (fun r1 => (r1, .int 0, σ)) (fun r1 => []) (fun r1 => σ) 12 0 0 h (fun r1 g2 hnt => tX6_needRange sh hk l hst a1 0 (σ 5 1) σ r1 g2 hnt) dX6_truncateText_9 rfl yw_X6_needRange lk_X6_80 (by decide) (Nat.le_of_ble_eq_true rfl) (by decide) (fun _ => rfl) (fun _ => rfl) ⟨rfl, rfl, rfl⟩ (fun r h => Decidable.byContradiction (fun h9 => by rw [if_neg h9] at h; cases h; exact h9 hnt)) (fun r1 g2 z3 h => ?_)
  rw [if_pos z3] at h
  refine kv_aload_n (pc := 12) 0 dX6_truncateText_12 rfl rfl ?_
  refine kv_getR (pc := 13) (q2 := 5) dX6_truncateText_13 (ks_0 hk) rfl (i := 8) (by decide) rfl fl_X6_37 rfl rfl ?_
  refine kv_iload_n (pc := 16) 1 dX6_truncateText_16 rfl rfl ?_
  refine kv_put (pc := 17) tyX4 tyX4_ok nmX4 dX6_truncateText_17 (ks_5 hk) rfl (i := 1) (by decide) rfl fl_X6_76 rfl rfl rfl rfl rfl ?_
  refine kv_let h (fun σ4 h => ?_)
  refine kv_iload_n (pc := 20) 1 dX6_truncateText_20 rfl rfl ?_
  exact kv_iret (pc := 21) dX6_truncateText_21 rfl (by cases h; rfl) (by decide) (by decide)
theorem yw_X6_truncateText : KMV yX6_truncateText mX6_truncateText RX6 1 := ⟨⟨rfl, by decide +kernel, by decide +kernel, by decide +kernel⟩, ⟨rfl, rfl⟩, kg_in 836 (by decide +kernel) (by decide +kernel), kg_in 837 (by decide +kernel) (by decide +kernel), kg_in 47 (by decide +kernel) (by decide +kernel), kg_in 838 (by decide +kernel) (by decide +kernel)⟩
theorem dX6_load_0 : decode cX6_load 0 = .ok (.aload_n 0, 1) := by decide +kernel
theorem dX6_load_1 : decode cX6_load 1 = .ok (.getfield 37, 3) := by decide +kernel
theorem dX6_load_4 : decode cX6_load 4 = .ok (.aload_n 0, 1) := by decide +kernel
theorem dX6_load_5 : decode cX6_load 5 = .ok (.getfield 16, 3) := by decide +kernel
theorem dX6_load_8 : decode cX6_load 8 = .ok (.invokevirtual 84, 3) := by decide +kernel
theorem dX6_load_11 : decode cX6_load 11 = .ok (.istore_n 1, 1) := by decide +kernel
theorem dX6_load_12 : decode cX6_load 12 = .ok (.aload_n 0, 1) := by decide +kernel
theorem dX6_load_13 : decode cX6_load 13 = .ok (.getfield 37, 3) := by decide +kernel
theorem dX6_load_16 : decode cX6_load 16 = .ok (.iconst 0, 1) := by decide +kernel
theorem dX6_load_17 : decode cX6_load 17 = .ok (.putfield 76, 3) := by decide +kernel
theorem dX6_load_20 : decode cX6_load 20 = .ok (.iload_n 1, 1) := by decide +kernel
theorem dX6_load_21 : decode cX6_load 21 = .ok (.ifCond .ne 5, 3) := by decide +kernel
theorem dX6_load_24 : decode cX6_load 24 = .ok (.iconst (-1), 1) := by decide +kernel
theorem dX6_load_25 : decode cX6_load 25 = .ok (.ireturn, 1) := by decide +kernel
theorem dX6_load_26 : decode cX6_load 26 = .ok (.aload_n 0, 1) := by decide +kernel
theorem dX6_load_27 : decode cX6_load 27 = .ok (.getfield 12, 3) := by decide +kernel
theorem dX6_load_30 : decode cX6_load 30 = .ok (.aload_n 0, 1) := by decide +kernel
theorem dX6_load_31 : decode cX6_load 31 = .ok (.getfield 16, 3) := by decide +kernel
theorem dX6_load_34 : decode cX6_load 34 = .ok (.invokevirtual 88, 3) := by decide +kernel
theorem dX6_load_37 : decode cX6_load 37 = .ok (.aload_n 0, 1) := by decide +kernel
theorem dX6_load_38 : decode cX6_load 38 = .ok (.iconst 0, 1) := by decide +kernel
theorem dX6_load_39 : decode cX6_load 39 = .ok (.putfield 92, 3) := by decide +kernel
theorem dX6_load_42 : decode cX6_load 42 = .ok (.aload_n 0, 1) := by decide +kernel
theorem dX6_load_43 : decode cX6_load 43 = .ok (.getfield 12, 3) := by decide +kernel
theorem dX6_load_46 : decode cX6_load 46 = .ok (.getfield 95, 3) := by decide +kernel
theorem dX6_load_49 : decode cX6_load 49 = .ok (.ireturn, 1) := by decide +kernel
abbrev mX6_load : KM := (RX6, cX6_load, 2, (some .int), { frames := 8, cells := 0, slots := 0, locals := 172 }, 0, 0)
def fX6_load (σ : Sto) : Option (Int32 × Sto) :=
  (fX4_read 5 34 σ).bind fun r1 =>
  klet (su r1.2 5 1 0) fun σ4 =>
  if r1.1 = true then
    (fX5_copyFrom 25 34 σ4).bind fun r5 =>
    klet (su r5 0 4 0) fun σ8 =>
    some ((σ8 25 8), σ8)
  else
    some ((-1), σ4)
set_option maxHeartbeats 4000000 in
set_option maxRecDepth 100000 in
theorem tX6_load (sh : KSh) (hk : KAG sh) (l : Launch) (hst : l.stackTraces = false) (σ : Sto) (r : (Int32 × Sto)) (h : fX6_load σ = some r) : CT sh l mX6_load yX6_load [.ref 0] σ (0, .int r.1, r.2) := by
  refine kct [(0, .ref 0)] hst (by decide +kernel) rfl rfl (Nat.le_of_ble_eq_true rfl) ?_
  rw [fX6_load] at h
  refine kv_aload_n (pc := 0) 0 dX6_load_0 rfl rfl ?_
  refine kv_getR (pc := 1) (q2 := 5) dX6_load_1 (ks_0 hk) rfl (i := 8) (by decide) rfl fl_X6_37 rfl rfl ?_
  refine kv_aload_n (pc := 4) 0 dX6_load_4 rfl rfl ?_
  refine kv_getR (pc := 5) (q2 := 34) dX6_load_5 (ks_0 hk) rfl (i := 1) (by decide) rfl fl_X6_16 rfl rfl ?_
  refine kv_cV (pc := 8) [.ref 34] (fun r1 => (0, .int (kb r1.1), r1.2)) (fun r1 => (.int (kb r1.1) :: [])) (fun r1 => r1.2) 11 0 0 h (fun r1 g2 => tX4_read sh (kwf_of hk) l hst 5 (ks_5 hk) 34 (ks_34 hk) σ r1 g2) dX6_load_8 rfl (ks_5 hk) rfl yw_X4_read lk_X6_84 (by decide) (Nat.le_of_ble_eq_true rfl) (by decide) (fun _ => rfl) (fun _ => rfl) ⟨rfl, rfl, rfl⟩ (fun _ _ h0 => absurd rfl h0) (fun r1 g2 z3 h => ?_)
  refine kv_istore_n (pc := 11) [(1, .int (kb r1.1)), (0, .ref 0)] dX6_load_11 rfl (by decide) rfl ?_
  refine kv_aload_n (pc := 12) 1 dX6_load_12 rfl rfl ?_
  refine kv_getR (pc := 13) (q2 := 5) dX6_load_13 (ks_0 hk) rfl (i := 8) (by decide) rfl fl_X6_37 rfl rfl ?_
  refine kv_iconst (pc := 16) (v := 0) dX6_load_16 (by decide) ?_
  refine kv_put (pc := 17) tyX4 tyX4_ok nmX4 dX6_load_17 (ks_5 hk) rfl (i := 1) (by decide) rfl fl_X6_76 rfl rfl rfl rfl rfl ?_
  refine kv_let h (fun σ4 h => ?_)
  refine kv_iload_n (pc := 20) 0 dX6_load_20 rfl rfl ?_
  refine kv_ifb_ne (pc := 21) (tgt := 26) dX6_load_21 (by decide) h (fun h => ?_) (fun h => ?_)
  · refine kv_aload_n (pc := 26) 1 dX6_load_26 rfl rfl ?_
    refine kv_getR (pc := 27) (q2 := 25) dX6_load_27 (ks_0 hk) rfl (i := 0) (by decide) rfl fl_X6_12 rfl rfl ?_
    refine kv_aload_n (pc := 30) 1 dX6_load_30 rfl rfl ?_
    refine kv_getR (pc := 31) (q2 := 34) dX6_load_31 (ks_0 hk) rfl (i := 1) (by decide) rfl fl_X6_16 rfl rfl ?_
    refine kv_cV (pc := 34) [.ref 34] (fun r5 => (0, .int 0, r5)) (fun r5 => []) (fun r5 => r5) 37 0 0 h (fun r5 g6 => tX5_copyFrom sh (kwf_of hk) l hst 25 (ks_25 hk) 34 (ks_34 hk) σ4 r5 g6) dX6_load_34 rfl (ks_25 hk) rfl yw_X5_copyFrom lk_X6_88 (by decide) (Nat.le_of_ble_eq_true rfl) (by decide) (fun _ => rfl) (fun _ => rfl) ⟨rfl, rfl, rfl⟩ (fun _ _ h0 => absurd rfl h0) (fun r5 g6 z7 h => ?_)
    refine kv_aload_n (pc := 37) 1 dX6_load_37 rfl rfl ?_
    refine kv_iconst (pc := 38) (v := 0) dX6_load_38 (by decide) ?_
    refine kv_put (pc := 39) tyX6 tyX6_ok nmX6 dX6_load_39 (ks_0 hk) rfl (i := 4) (by decide) rfl fl_X6_92 rfl rfl rfl rfl rfl ?_
    refine kv_let h (fun σ8 h => ?_)
    refine kv_aload_n (pc := 42) 1 dX6_load_42 rfl rfl ?_
    refine kv_getR (pc := 43) (q2 := 25) dX6_load_43 (ks_0 hk) rfl (i := 0) (by decide) rfl fl_X6_12 rfl rfl ?_
    refine kv_getI (pc := 46) dX6_load_46 (ks_25 hk) rfl (i := 8) (by decide) rfl fl_X6_95 rfl ?_
    exact kv_iret (pc := 49) dX6_load_49 rfl (by cases h; rfl) (by decide) (by decide)
  · refine kv_iconst (pc := 24) (v := (-1)) dX6_load_24 (by decide) ?_
    exact kv_iret (pc := 25) dX6_load_25 rfl (by cases h; rfl) (by decide) (by decide)
theorem dX6_seenNow_0 : decode cX6_seenNow 0 = .ok (.aload_n 0, 1) := by decide +kernel
theorem dX6_seenNow_1 : decode cX6_seenNow 1 = .ok (.getfield 44, 3) := by decide +kernel
theorem dX6_seenNow_4 : decode cX6_seenNow 4 = .ok (.aload_n 0, 1) := by decide +kernel
theorem dX6_seenNow_5 : decode cX6_seenNow 5 = .ok (.getfield 12, 3) := by decide +kernel
theorem dX6_seenNow_8 : decode cX6_seenNow 8 = .ok (.invokevirtual 206, 3) := by decide +kernel
theorem dX6_seenNow_11 : decode cX6_seenNow 11 = .ok (.aload_n 0, 1) := by decide +kernel
theorem dX6_seenNow_12 : decode cX6_seenNow 12 = .ok (.getfield 44, 3) := by decide +kernel
theorem dX6_seenNow_15 : decode cX6_seenNow 15 = .ok (.invokevirtual 311, 3) := by decide +kernel
theorem dX6_seenNow_18 : decode cX6_seenNow 18 = .ok (.ireturn, 1) := by decide +kernel
abbrev mX6_seenNow : KM := (RX6, cX6_seenNow, 1, (some .int), { frames := 5, cells := 0, slots := 0, locals := 115 }, 0, 0)
def fX6_seenNow (σ : Sto) : Option (Int32 × Sto) :=
  (fX3_look 7 25 σ).bind fun r1 =>
  (fX3_countSeen 7 r1).bind fun r4 =>
  some (r4, r1)
set_option maxHeartbeats 4000000 in
set_option maxRecDepth 100000 in
theorem tX6_seenNow (sh : KSh) (hk : KAG sh) (l : Launch) (hst : l.stackTraces = false) (σ : Sto) (r : (Int32 × Sto)) (h : fX6_seenNow σ = some r) : CT sh l mX6_seenNow yX6_seenNow [.ref 0] σ (0, .int r.1, r.2) := by
  refine kct [(0, .ref 0)] hst (by decide +kernel) rfl rfl (Nat.le_of_ble_eq_true rfl) ?_
  rw [fX6_seenNow] at h
  refine kv_aload_n (pc := 0) 0 dX6_seenNow_0 rfl rfl ?_
  refine kv_getR (pc := 1) (q2 := 7) dX6_seenNow_1 (ks_0 hk) rfl (i := 9) (by decide) rfl fl_X6_44 rfl rfl ?_
  refine kv_aload_n (pc := 4) 0 dX6_seenNow_4 rfl rfl ?_
  refine kv_getR (pc := 5) (q2 := 25) dX6_seenNow_5 (ks_0 hk) rfl (i := 0) (by decide) rfl fl_X6_12 rfl rfl ?_
  refine kv_cV (pc := 8) [.ref 25] (fun r1 => (0, .int 0, r1)) (fun r1 => []) (fun r1 => r1) 11 0 0 h (fun r1 g2 => tX3_look sh (kwf_of hk) l hst 7 (ks_7 hk) 25 (ks_25 hk) σ r1 g2) dX6_seenNow_8 rfl (ks_7 hk) rfl yw_X3_look lk_X6_206 (by decide) (Nat.le_of_ble_eq_true rfl) (by decide) (fun _ => rfl) (fun _ => rfl) ⟨rfl, rfl, rfl⟩ (fun _ _ h0 => absurd rfl h0) (fun r1 g2 z3 h => ?_)
  refine kv_aload_n (pc := 11) 0 dX6_seenNow_11 rfl rfl ?_
  refine kv_getR (pc := 12) (q2 := 7) dX6_seenNow_12 (ks_0 hk) rfl (i := 9) (by decide) rfl fl_X6_44 rfl rfl ?_
  refine kv_cV (pc := 15) [] (fun r4 => (0, .int r4, r1)) (fun r4 => (.int r4 :: [])) (fun r4 => r1) 18 0 0 h (fun r4 g5 => tX3_countSeen sh (kwf_of hk) l hst 7 (ks_7 hk) r1 r4 g5) dX6_seenNow_15 rfl (ks_7 hk) rfl yw_X3_countSeen lk_X6_311 (by decide) (Nat.le_of_ble_eq_true rfl) (by decide) (fun _ => rfl) (fun _ => rfl) ⟨rfl, rfl, rfl⟩ (fun _ _ h0 => absurd rfl h0) (fun r4 g5 z6 h => ?_)
  exact kv_iret (pc := 18) dX6_seenNow_18 rfl (by cases h; rfl) (by decide) (by decide)
theorem yw_X6_seenNow : KMV yX6_seenNow mX6_seenNow RX6 0 := ⟨⟨rfl, by decide +kernel, by decide +kernel, by decide +kernel⟩, ⟨rfl, rfl⟩, kg_in 635 (by decide +kernel) (by decide +kernel), kg_in 22 (by decide +kernel) (by decide +kernel), kg_in 47 (by decide +kernel) (by decide +kernel), kg_in 636 (by decide +kernel) (by decide +kernel)⟩
theorem dX6_count_0 : decode cX6_count 0 = .ok (.iload_n 1, 1) := by decide +kernel
theorem dX6_count_1 : decode cX6_count 1 = .ok (.iconst 0, 1) := by decide +kernel
theorem dX6_count_2 : decode cX6_count 2 = .ok (.bipush 15, 2) := by decide +kernel
theorem dX6_count_4 : decode cX6_count 4 = .ok (.invokestatic 80, 3) := by decide +kernel
theorem dX6_count_7 : decode cX6_count 7 = .ok (.iload_n 1, 1) := by decide +kernel
theorem dX6_count_8 : decode cX6_count 8 = .ok (.tableswitch 208 0 14 #[76, 87, 98, 106, 114, 122, 130, 138, 149, 160, 165, 173, 181, 189, 197], 76) := by decide +kernel
theorem dX6_count_84 : decode cX6_count 84 = .ok (.aload_n 0, 1) := by decide +kernel
theorem dX6_count_85 : decode cX6_count 85 = .ok (.getfield 12, 3) := by decide +kernel
theorem dX6_count_88 : decode cX6_count 88 = .ok (.getfield 104, 3) := by decide +kernel
theorem dX6_count_91 : decode cX6_count 91 = .ok (.getfield 108, 3) := by decide +kernel
theorem dX6_count_94 : decode cX6_count 94 = .ok (.ireturn, 1) := by decide +kernel
theorem dX6_count_95 : decode cX6_count 95 = .ok (.aload_n 0, 1) := by decide +kernel
theorem dX6_count_96 : decode cX6_count 96 = .ok (.getfield 12, 3) := by decide +kernel
theorem dX6_count_99 : decode cX6_count 99 = .ok (.getfield 104, 3) := by decide +kernel
theorem dX6_count_102 : decode cX6_count 102 = .ok (.getfield 113, 3) := by decide +kernel
theorem dX6_count_105 : decode cX6_count 105 = .ok (.ireturn, 1) := by decide +kernel
theorem dX6_count_106 : decode cX6_count 106 = .ok (.aload_n 0, 1) := by decide +kernel
theorem dX6_count_107 : decode cX6_count 107 = .ok (.getfield 12, 3) := by decide +kernel
theorem dX6_count_110 : decode cX6_count 110 = .ok (.getfield 116, 3) := by decide +kernel
theorem dX6_count_113 : decode cX6_count 113 = .ok (.ireturn, 1) := by decide +kernel
theorem dX6_count_114 : decode cX6_count 114 = .ok (.aload_n 0, 1) := by decide +kernel
theorem dX6_count_115 : decode cX6_count 115 = .ok (.getfield 12, 3) := by decide +kernel
theorem dX6_count_118 : decode cX6_count 118 = .ok (.getfield 119, 3) := by decide +kernel
theorem dX6_count_121 : decode cX6_count 121 = .ok (.ireturn, 1) := by decide +kernel
theorem dX6_count_122 : decode cX6_count 122 = .ok (.aload_n 0, 1) := by decide +kernel
theorem dX6_count_123 : decode cX6_count 123 = .ok (.getfield 12, 3) := by decide +kernel
theorem dX6_count_126 : decode cX6_count 126 = .ok (.getfield 122, 3) := by decide +kernel
theorem dX6_count_129 : decode cX6_count 129 = .ok (.ireturn, 1) := by decide +kernel
theorem dX6_count_130 : decode cX6_count 130 = .ok (.aload_n 0, 1) := by decide +kernel
theorem dX6_count_131 : decode cX6_count 131 = .ok (.getfield 12, 3) := by decide +kernel
theorem dX6_count_134 : decode cX6_count 134 = .ok (.getfield 95, 3) := by decide +kernel
theorem dX6_count_137 : decode cX6_count 137 = .ok (.ireturn, 1) := by decide +kernel
theorem dX6_count_138 : decode cX6_count 138 = .ok (.aload_n 0, 1) := by decide +kernel
theorem dX6_count_139 : decode cX6_count 139 = .ok (.getfield 12, 3) := by decide +kernel
theorem dX6_count_142 : decode cX6_count 142 = .ok (.invokevirtual 125, 3) := by decide +kernel
theorem dX6_count_145 : decode cX6_count 145 = .ok (.ireturn, 1) := by decide +kernel
theorem dX6_count_146 : decode cX6_count 146 = .ok (.aload_n 0, 1) := by decide +kernel
theorem dX6_count_147 : decode cX6_count 147 = .ok (.getfield 12, 3) := by decide +kernel
theorem dX6_count_150 : decode cX6_count 150 = .ok (.getfield 104, 3) := by decide +kernel
theorem dX6_count_153 : decode cX6_count 153 = .ok (.invokevirtual 129, 3) := by decide +kernel
theorem dX6_count_156 : decode cX6_count 156 = .ok (.ireturn, 1) := by decide +kernel
theorem dX6_count_157 : decode cX6_count 157 = .ok (.aload_n 0, 1) := by decide +kernel
theorem dX6_count_158 : decode cX6_count 158 = .ok (.getfield 12, 3) := by decide +kernel
theorem dX6_count_161 : decode cX6_count 161 = .ok (.getfield 104, 3) := by decide +kernel
theorem dX6_count_164 : decode cX6_count 164 = .ok (.invokevirtual 132, 3) := by decide +kernel
theorem dX6_count_167 : decode cX6_count 167 = .ok (.ireturn, 1) := by decide +kernel
theorem dX6_count_168 : decode cX6_count 168 = .ok (.aload_n 0, 1) := by decide +kernel
theorem dX6_count_169 : decode cX6_count 169 = .ok (.invokevirtual 135, 3) := by decide +kernel
theorem dX6_count_172 : decode cX6_count 172 = .ok (.ireturn, 1) := by decide +kernel
theorem dX6_count_173 : decode cX6_count 173 = .ok (.aload_n 0, 1) := by decide +kernel
theorem dX6_count_174 : decode cX6_count 174 = .ok (.getfield 12, 3) := by decide +kernel
theorem dX6_count_177 : decode cX6_count 177 = .ok (.getfield 138, 3) := by decide +kernel
theorem dX6_count_180 : decode cX6_count 180 = .ok (.ireturn, 1) := by decide +kernel
theorem dX6_count_181 : decode cX6_count 181 = .ok (.aload_n 0, 1) := by decide +kernel
theorem dX6_count_182 : decode cX6_count 182 = .ok (.getfield 12, 3) := by decide +kernel
theorem dX6_count_185 : decode cX6_count 185 = .ok (.getfield 141, 3) := by decide +kernel
theorem dX6_count_188 : decode cX6_count 188 = .ok (.ireturn, 1) := by decide +kernel
theorem dX6_count_189 : decode cX6_count 189 = .ok (.aload_n 0, 1) := by decide +kernel
theorem dX6_count_190 : decode cX6_count 190 = .ok (.getfield 12, 3) := by decide +kernel
theorem dX6_count_193 : decode cX6_count 193 = .ok (.getfield 144, 3) := by decide +kernel
theorem dX6_count_196 : decode cX6_count 196 = .ok (.ireturn, 1) := by decide +kernel
theorem dX6_count_197 : decode cX6_count 197 = .ok (.aload_n 0, 1) := by decide +kernel
theorem dX6_count_198 : decode cX6_count 198 = .ok (.getfield 12, 3) := by decide +kernel
theorem dX6_count_201 : decode cX6_count 201 = .ok (.getfield 147, 3) := by decide +kernel
theorem dX6_count_204 : decode cX6_count 204 = .ok (.ireturn, 1) := by decide +kernel
theorem dX6_count_205 : decode cX6_count 205 = .ok (.aload_n 0, 1) := by decide +kernel
theorem dX6_count_206 : decode cX6_count 206 = .ok (.getfield 12, 3) := by decide +kernel
theorem dX6_count_209 : decode cX6_count 209 = .ok (.getfield 104, 3) := by decide +kernel
theorem dX6_count_212 : decode cX6_count 212 = .ok (.invokevirtual 150, 3) := by decide +kernel
theorem dX6_count_215 : decode cX6_count 215 = .ok (.ireturn, 1) := by decide +kernel
theorem dX6_count_216 : decode cX6_count 216 = .ok (.aload_n 0, 1) := by decide +kernel
theorem dX6_count_217 : decode cX6_count 217 = .ok (.getfield 92, 3) := by decide +kernel
theorem dX6_count_220 : decode cX6_count 220 = .ok (.ireturn, 1) := by decide +kernel
abbrev mX6_count : KM := (RX6, cX6_count, 2, (some .int), { frames := 7, cells := 0, slots := 0, locals := 135 }, 0, 0)
def fX6_count (a1 : Int32) (σ : Sto) : Option KP :=
  (fX6_needRange a1 0 15 σ).bind fun r1 =>
  if r1 = 0 then
    if a1 = 0 then
      some (0, (σ 26 0), σ)
    else
      if a1 = 1 then
        some (0, (σ 26 1), σ)
      else
        if a1 = 2 then
          some (0, (σ 25 1), σ)
        else
          if a1 = 3 then
            some (0, (σ 25 2), σ)
          else
            if a1 = 4 then
              some (0, (σ 25 3), σ)
            else
              if a1 = 5 then
                some (0, (σ 25 8), σ)
              else
                if a1 = 6 then
                  (fX5_chipsInBox 25 σ).bind fun r11 =>
                  some (0, r11, σ)
                else
                  if a1 = 7 then
                    (fX1_boxCells 26 σ).bind fun r15 =>
                    some (0, r15, σ)
                  else
                    if a1 = 8 then
                      (fX1_pictureCells 26 σ).bind fun r19 =>
                      some (0, r19, σ)
                    else
                      if a1 = 9 then
                        (fX6_seenNow σ).bind fun r23 =>
                        some (0, r23.1, r23.2)
                      else
                        if a1 = 10 then
                          some (0, (σ 25 4), σ)
                        else
                          if a1 = 11 then
                            some (0, (σ 25 5), σ)
                          else
                            if a1 = 12 then
                              some (0, (σ 25 6), σ)
                            else
                              if a1 = 13 then
                                some (0, (σ 25 7), σ)
                              else
                                if a1 = 14 then
                                  some (0, (fX1_directions 26 σ), σ)
                                else
                                  some (0, (σ 0 4), σ)
  else some (r1, 0, σ)
set_option maxHeartbeats 4000000 in
set_option maxRecDepth 100000 in
theorem tX6_count (sh : KSh) (hk : KAG sh) (l : Launch) (hst : l.stackTraces = false) (a1 : Int32) (σ : Sto) (r : KP) (h : fX6_count a1 σ = some r) (hnt : r.1 = 0) : CT sh l mX6_count yX6_count [.ref 0, .int a1] σ (r.1, .int r.2.1, r.2.2) := by
  refine kct [(0, .ref 0), (1, .int a1)] hst (by decide +kernel) rfl rfl (Nat.le_of_ble_eq_true rfl) ?_
  rw [fX6_count] at h
  refine kv_iload_n (pc := 0) 1 dX6_count_0 rfl rfl ?_
  refine kv_iconst (pc := 1) (v := 0) dX6_count_1 (by decide) ?_
  refine kv_bipush (pc := 2) (v := 15) dX6_count_2 (by decide) ?_
  refine kv_cSn (pc := 4) [.int a1, .int 0, .int 15] (fun r1 => (r1, .int 0, σ)) (fun r1 => []) (fun r1 => σ) 7 0 0 h (fun r1 g2 hnt => tX6_needRange sh hk l hst a1 0 15 σ r1 g2 hnt) dX6_count_4 rfl yw_X6_needRange lk_X6_80 (by decide) (Nat.le_of_ble_eq_true rfl) (by decide) (fun _ => rfl) (fun _ => rfl) ⟨rfl, rfl, rfl⟩ (fun r h => Decidable.byContradiction (fun h9 => by rw [if_neg h9] at h; cases h; exact h9 hnt)) (fun r1 g2 z3 h => ?_)
  rw [if_pos z3] at h
  refine kv_iload_n (pc := 7) 1 dX6_count_7 rfl rfl ?_
  by_cases e4 : a1 = 0
  · rw [if_pos e4] at h
    refine kv_tableIn (pc := 8) (off := 76) (tgt := 84) dX6_count_8 (by rw [e4]; decide) (by rw [e4]; decide) (by rw [e4]; rfl) (by decide) ?_
    refine kv_aload_n (pc := 84) 0 dX6_count_84 rfl rfl ?_
    refine kv_getR (pc := 85) (q2 := 25) dX6_count_85 (ks_0 hk) rfl (i := 0) (by decide) rfl fl_X6_12 rfl rfl ?_
    refine kv_getR (pc := 88) (q2 := 26) dX6_count_88 (ks_25 hk) rfl (i := 0) (by decide) rfl fl_X6_104 rfl rfl ?_
    refine kv_getI (pc := 91) dX6_count_91 (ks_26 hk) rfl (i := 0) (by decide) rfl fl_X6_108 rfl ?_
    exact kv_iret (pc := 94) dX6_count_94 rfl (by cases h; rfl) (by decide) (by decide)
  · rw [if_neg e4] at h
    by_cases e5 : a1 = 1
    · rw [if_pos e5] at h
      refine kv_tableIn (pc := 8) (off := 87) (tgt := 95) dX6_count_8 (by rw [e5]; decide) (by rw [e5]; decide) (by rw [e5]; rfl) (by decide) ?_
      refine kv_aload_n (pc := 95) 0 dX6_count_95 rfl rfl ?_
      refine kv_getR (pc := 96) (q2 := 25) dX6_count_96 (ks_0 hk) rfl (i := 0) (by decide) rfl fl_X6_12 rfl rfl ?_
      refine kv_getR (pc := 99) (q2 := 26) dX6_count_99 (ks_25 hk) rfl (i := 0) (by decide) rfl fl_X6_104 rfl rfl ?_
      refine kv_getI (pc := 102) dX6_count_102 (ks_26 hk) rfl (i := 1) (by decide) rfl fl_X6_113 rfl ?_
      exact kv_iret (pc := 105) dX6_count_105 rfl (by cases h; rfl) (by decide) (by decide)
    · rw [if_neg e5] at h
      by_cases e6 : a1 = 2
      · rw [if_pos e6] at h
        refine kv_tableIn (pc := 8) (off := 98) (tgt := 106) dX6_count_8 (by rw [e6]; decide) (by rw [e6]; decide) (by rw [e6]; rfl) (by decide) ?_
        refine kv_aload_n (pc := 106) 0 dX6_count_106 rfl rfl ?_
        refine kv_getR (pc := 107) (q2 := 25) dX6_count_107 (ks_0 hk) rfl (i := 0) (by decide) rfl fl_X6_12 rfl rfl ?_
        refine kv_getI (pc := 110) dX6_count_110 (ks_25 hk) rfl (i := 1) (by decide) rfl fl_X6_116 rfl ?_
        exact kv_iret (pc := 113) dX6_count_113 rfl (by cases h; rfl) (by decide) (by decide)
      · rw [if_neg e6] at h
        by_cases e7 : a1 = 3
        · rw [if_pos e7] at h
          refine kv_tableIn (pc := 8) (off := 106) (tgt := 114) dX6_count_8 (by rw [e7]; decide) (by rw [e7]; decide) (by rw [e7]; rfl) (by decide) ?_
          refine kv_aload_n (pc := 114) 0 dX6_count_114 rfl rfl ?_
          refine kv_getR (pc := 115) (q2 := 25) dX6_count_115 (ks_0 hk) rfl (i := 0) (by decide) rfl fl_X6_12 rfl rfl ?_
          refine kv_getI (pc := 118) dX6_count_118 (ks_25 hk) rfl (i := 2) (by decide) rfl fl_X6_119 rfl ?_
          exact kv_iret (pc := 121) dX6_count_121 rfl (by cases h; rfl) (by decide) (by decide)
        · rw [if_neg e7] at h
          by_cases e8 : a1 = 4
          · rw [if_pos e8] at h
            refine kv_tableIn (pc := 8) (off := 114) (tgt := 122) dX6_count_8 (by rw [e8]; decide) (by rw [e8]; decide) (by rw [e8]; rfl) (by decide) ?_
            refine kv_aload_n (pc := 122) 0 dX6_count_122 rfl rfl ?_
            refine kv_getR (pc := 123) (q2 := 25) dX6_count_123 (ks_0 hk) rfl (i := 0) (by decide) rfl fl_X6_12 rfl rfl ?_
            refine kv_getI (pc := 126) dX6_count_126 (ks_25 hk) rfl (i := 3) (by decide) rfl fl_X6_122 rfl ?_
            exact kv_iret (pc := 129) dX6_count_129 rfl (by cases h; rfl) (by decide) (by decide)
          · rw [if_neg e8] at h
            by_cases e9 : a1 = 5
            · rw [if_pos e9] at h
              refine kv_tableIn (pc := 8) (off := 122) (tgt := 130) dX6_count_8 (by rw [e9]; decide) (by rw [e9]; decide) (by rw [e9]; rfl) (by decide) ?_
              refine kv_aload_n (pc := 130) 0 dX6_count_130 rfl rfl ?_
              refine kv_getR (pc := 131) (q2 := 25) dX6_count_131 (ks_0 hk) rfl (i := 0) (by decide) rfl fl_X6_12 rfl rfl ?_
              refine kv_getI (pc := 134) dX6_count_134 (ks_25 hk) rfl (i := 8) (by decide) rfl fl_X6_95 rfl ?_
              exact kv_iret (pc := 137) dX6_count_137 rfl (by cases h; rfl) (by decide) (by decide)
            · rw [if_neg e9] at h
              by_cases e10 : a1 = 6
              · rw [if_pos e10] at h
                refine kv_tableIn (pc := 8) (off := 130) (tgt := 138) dX6_count_8 (by rw [e10]; decide) (by rw [e10]; decide) (by rw [e10]; rfl) (by decide) ?_
                refine kv_aload_n (pc := 138) 0 dX6_count_138 rfl rfl ?_
                refine kv_getR (pc := 139) (q2 := 25) dX6_count_139 (ks_0 hk) rfl (i := 0) (by decide) rfl fl_X6_12 rfl rfl ?_
                refine kv_cV (pc := 142) [] (fun r11 => (0, .int r11, σ)) (fun r11 => (.int r11 :: [])) (fun r11 => σ) 145 0 0 h (fun r11 g12 => tX5_chipsInBox sh (kwf_of hk) l hst 25 (ks_25 hk) σ r11 g12) dX6_count_142 rfl (ks_25 hk) rfl yw_X5_chipsInBox lk_X6_125 (by decide) (Nat.le_of_ble_eq_true rfl) (by decide) (fun _ => rfl) (fun _ => rfl) ⟨rfl, rfl, rfl⟩ (fun _ _ h0 => absurd rfl h0) (fun r11 g12 z13 h => ?_)
                exact kv_iret (pc := 145) dX6_count_145 rfl (by cases h; rfl) (by decide) (by decide)
              · rw [if_neg e10] at h
                by_cases e14 : a1 = 7
                · rw [if_pos e14] at h
                  refine kv_tableIn (pc := 8) (off := 138) (tgt := 146) dX6_count_8 (by rw [e14]; decide) (by rw [e14]; decide) (by rw [e14]; rfl) (by decide) ?_
                  refine kv_aload_n (pc := 146) 0 dX6_count_146 rfl rfl ?_
                  refine kv_getR (pc := 147) (q2 := 25) dX6_count_147 (ks_0 hk) rfl (i := 0) (by decide) rfl fl_X6_12 rfl rfl ?_
                  refine kv_getR (pc := 150) (q2 := 26) dX6_count_150 (ks_25 hk) rfl (i := 0) (by decide) rfl fl_X6_104 rfl rfl ?_
                  refine kv_cV (pc := 153) [] (fun r15 => (0, .int r15, σ)) (fun r15 => (.int r15 :: [])) (fun r15 => σ) 156 0 0 h (fun r15 g16 => tX1_boxCells sh (kwf_of hk) l hst 26 (ks_26 hk) σ r15 g16) dX6_count_153 rfl (ks_26 hk) rfl yw_X1_boxCells lk_X6_129 (by decide) (Nat.le_of_ble_eq_true rfl) (by decide) (fun _ => rfl) (fun _ => rfl) ⟨rfl, rfl, rfl⟩ (fun _ _ h0 => absurd rfl h0) (fun r15 g16 z17 h => ?_)
                  exact kv_iret (pc := 156) dX6_count_156 rfl (by cases h; rfl) (by decide) (by decide)
                · rw [if_neg e14] at h
                  by_cases e18 : a1 = 8
                  · rw [if_pos e18] at h
                    refine kv_tableIn (pc := 8) (off := 149) (tgt := 157) dX6_count_8 (by rw [e18]; decide) (by rw [e18]; decide) (by rw [e18]; rfl) (by decide) ?_
                    refine kv_aload_n (pc := 157) 0 dX6_count_157 rfl rfl ?_
                    refine kv_getR (pc := 158) (q2 := 25) dX6_count_158 (ks_0 hk) rfl (i := 0) (by decide) rfl fl_X6_12 rfl rfl ?_
                    refine kv_getR (pc := 161) (q2 := 26) dX6_count_161 (ks_25 hk) rfl (i := 0) (by decide) rfl fl_X6_104 rfl rfl ?_
                    refine kv_cV (pc := 164) [] (fun r19 => (0, .int r19, σ)) (fun r19 => (.int r19 :: [])) (fun r19 => σ) 167 0 0 h (fun r19 g20 => tX1_pictureCells sh (kwf_of hk) l hst 26 (ks_26 hk) σ r19 g20) dX6_count_164 rfl (ks_26 hk) rfl yw_X1_pictureCells lk_X6_132 (by decide) (Nat.le_of_ble_eq_true rfl) (by decide) (fun _ => rfl) (fun _ => rfl) ⟨rfl, rfl, rfl⟩ (fun _ _ h0 => absurd rfl h0) (fun r19 g20 z21 h => ?_)
                    exact kv_iret (pc := 167) dX6_count_167 rfl (by cases h; rfl) (by decide) (by decide)
                  · rw [if_neg e18] at h
                    by_cases e22 : a1 = 9
                    · rw [if_pos e22] at h
                      refine kv_tableIn (pc := 8) (off := 160) (tgt := 168) dX6_count_8 (by rw [e22]; decide) (by rw [e22]; decide) (by rw [e22]; rfl) (by decide) ?_
                      refine kv_aload_n (pc := 168) 0 dX6_count_168 rfl rfl ?_
                      refine kv_cV (pc := 169) [] (fun r23 => (0, .int r23.1, r23.2)) (fun r23 => (.int r23.1 :: [])) (fun r23 => r23.2) 172 0 0 h (fun r23 g24 => tX6_seenNow sh hk l hst  σ r23 g24) dX6_count_169 rfl (ks_0 hk) rfl yw_X6_seenNow lk_X6_135 (by decide) (Nat.le_of_ble_eq_true rfl) (by decide) (fun _ => rfl) (fun _ => rfl) ⟨rfl, rfl, rfl⟩ (fun _ _ h0 => absurd rfl h0) (fun r23 g24 z25 h => ?_)
                      exact kv_iret (pc := 172) dX6_count_172 rfl (by cases h; rfl) (by decide) (by decide)
                    · rw [if_neg e22] at h
                      by_cases e26 : a1 = 10
                      · rw [if_pos e26] at h
                        refine kv_tableIn (pc := 8) (off := 165) (tgt := 173) dX6_count_8 (by rw [e26]; decide) (by rw [e26]; decide) (by rw [e26]; rfl) (by decide) ?_
                        refine kv_aload_n (pc := 173) 0 dX6_count_173 rfl rfl ?_
                        refine kv_getR (pc := 174) (q2 := 25) dX6_count_174 (ks_0 hk) rfl (i := 0) (by decide) rfl fl_X6_12 rfl rfl ?_
                        refine kv_getI (pc := 177) dX6_count_177 (ks_25 hk) rfl (i := 4) (by decide) rfl fl_X6_138 rfl ?_
                        exact kv_iret (pc := 180) dX6_count_180 rfl (by cases h; rfl) (by decide) (by decide)
                      · rw [if_neg e26] at h
                        by_cases e27 : a1 = 11
                        · rw [if_pos e27] at h
                          refine kv_tableIn (pc := 8) (off := 173) (tgt := 181) dX6_count_8 (by rw [e27]; decide) (by rw [e27]; decide) (by rw [e27]; rfl) (by decide) ?_
                          refine kv_aload_n (pc := 181) 0 dX6_count_181 rfl rfl ?_
                          refine kv_getR (pc := 182) (q2 := 25) dX6_count_182 (ks_0 hk) rfl (i := 0) (by decide) rfl fl_X6_12 rfl rfl ?_
                          refine kv_getI (pc := 185) dX6_count_185 (ks_25 hk) rfl (i := 5) (by decide) rfl fl_X6_141 rfl ?_
                          exact kv_iret (pc := 188) dX6_count_188 rfl (by cases h; rfl) (by decide) (by decide)
                        · rw [if_neg e27] at h
                          by_cases e28 : a1 = 12
                          · rw [if_pos e28] at h
                            refine kv_tableIn (pc := 8) (off := 181) (tgt := 189) dX6_count_8 (by rw [e28]; decide) (by rw [e28]; decide) (by rw [e28]; rfl) (by decide) ?_
                            refine kv_aload_n (pc := 189) 0 dX6_count_189 rfl rfl ?_
                            refine kv_getR (pc := 190) (q2 := 25) dX6_count_190 (ks_0 hk) rfl (i := 0) (by decide) rfl fl_X6_12 rfl rfl ?_
                            refine kv_getI (pc := 193) dX6_count_193 (ks_25 hk) rfl (i := 6) (by decide) rfl fl_X6_144 rfl ?_
                            exact kv_iret (pc := 196) dX6_count_196 rfl (by cases h; rfl) (by decide) (by decide)
                          · rw [if_neg e28] at h
                            by_cases e29 : a1 = 13
                            · rw [if_pos e29] at h
                              refine kv_tableIn (pc := 8) (off := 189) (tgt := 197) dX6_count_8 (by rw [e29]; decide) (by rw [e29]; decide) (by rw [e29]; rfl) (by decide) ?_
                              refine kv_aload_n (pc := 197) 0 dX6_count_197 rfl rfl ?_
                              refine kv_getR (pc := 198) (q2 := 25) dX6_count_198 (ks_0 hk) rfl (i := 0) (by decide) rfl fl_X6_12 rfl rfl ?_
                              refine kv_getI (pc := 201) dX6_count_201 (ks_25 hk) rfl (i := 7) (by decide) rfl fl_X6_147 rfl ?_
                              exact kv_iret (pc := 204) dX6_count_204 rfl (by cases h; rfl) (by decide) (by decide)
                            · rw [if_neg e29] at h
                              by_cases e30 : a1 = 14
                              · rw [if_pos e30] at h
                                refine kv_tableIn (pc := 8) (off := 197) (tgt := 205) dX6_count_8 (by rw [e30]; decide) (by rw [e30]; decide) (by rw [e30]; rfl) (by decide) ?_
                                refine kv_aload_n (pc := 205) 0 dX6_count_205 rfl rfl ?_
                                refine kv_getR (pc := 206) (q2 := 25) dX6_count_206 (ks_0 hk) rfl (i := 0) (by decide) rfl fl_X6_12 rfl rfl ?_
                                refine kv_getR (pc := 209) (q2 := 26) dX6_count_209 (ks_25 hk) rfl (i := 0) (by decide) rfl fl_X6_104 rfl rfl ?_
                                refine kv_tV (pc := 212) (v := .int (fX1_directions 26 σ)) [] (.int (fX1_directions 26 σ) :: []) 215 0 0 (tX1_directions sh (kwf_of hk) l hst 26 (ks_26 hk) σ) dX6_count_212 rfl (ks_26 hk) rfl yw_X1_directions lk_X6_150 (by decide) (Nat.le_of_ble_eq_true rfl) (by decide) rfl ⟨rfl, rfl, rfl⟩ ?_
                                exact kv_iret (pc := 215) dX6_count_215 rfl (by cases h; rfl) (by decide) (by decide)
                              · rw [if_neg e30] at h
                                have ne4 : ¬ a1.toInt = 0 := lv_neT e4 (by decide)
                                have ne5 : ¬ a1.toInt = 1 := lv_neT e5 (by decide)
                                have ne6 : ¬ a1.toInt = 2 := lv_neT e6 (by decide)
                                have ne7 : ¬ a1.toInt = 3 := lv_neT e7 (by decide)
                                have ne8 : ¬ a1.toInt = 4 := lv_neT e8 (by decide)
                                have ne9 : ¬ a1.toInt = 5 := lv_neT e9 (by decide)
                                have ne10 : ¬ a1.toInt = 6 := lv_neT e10 (by decide)
                                have ne14 : ¬ a1.toInt = 7 := lv_neT e14 (by decide)
                                have ne18 : ¬ a1.toInt = 8 := lv_neT e18 (by decide)
                                have ne22 : ¬ a1.toInt = 9 := lv_neT e22 (by decide)
                                have ne26 : ¬ a1.toInt = 10 := lv_neT e26 (by decide)
                                have ne27 : ¬ a1.toInt = 11 := lv_neT e27 (by decide)
                                have ne28 : ¬ a1.toInt = 12 := lv_neT e28 (by decide)
                                have ne29 : ¬ a1.toInt = 13 := lv_neT e29 (by decide)
                                have ne30 : ¬ a1.toInt = 14 := lv_neT e30 (by decide)
                                refine kv_tableOut (pc := 8) (tgt := 216) dX6_count_8 (by omega) (by decide) ?_
                                refine kv_aload_n (pc := 216) 0 dX6_count_216 rfl rfl ?_
                                refine kv_getI (pc := 217) dX6_count_217 (ks_0 hk) rfl (i := 4) (by decide) rfl fl_X6_92 rfl ?_
                                exact kv_iret (pc := 220) dX6_count_220 rfl (by cases h; rfl) (by decide) (by decide)
theorem yw_X6_count : KMV yX6_count mX6_count RX6 1 := ⟨⟨rfl, by decide +kernel, by decide +kernel, by decide +kernel⟩, ⟨rfl, rfl⟩, kg_in 548 (by decide +kernel) (by decide +kernel), kg_in 549 (by decide +kernel) (by decide +kernel), kg_in 47 (by decide +kernel) (by decide +kernel), kg_in 550 (by decide +kernel) (by decide +kernel)⟩
theorem dX6_needChip_0 : decode cX6_needChip 0 = .ok (.iload_n 1, 1) := by decide +kernel
theorem dX6_needChip_1 : decode cX6_needChip 1 = .ok (.ifCond .lt 14, 3) := by decide +kernel
theorem dX6_needChip_4 : decode cX6_needChip 4 = .ok (.iload_n 1, 1) := by decide +kernel
theorem dX6_needChip_5 : decode cX6_needChip 5 = .ok (.aload_n 0, 1) := by decide +kernel
theorem dX6_needChip_6 : decode cX6_needChip 6 = .ok (.getfield 12, 3) := by decide +kernel
theorem dX6_needChip_9 : decode cX6_needChip 9 = .ok (.getfield 95, 3) := by decide +kernel
theorem dX6_needChip_12 : decode cX6_needChip 12 = .ok (.if_icmp .lt 11, 3) := by decide +kernel
theorem dX6_needChip_15 : decode cX6_needChip 15 = .ok (.new 243, 3) := by decide +kernel
theorem dX6_needChip_18 : decode cX6_needChip 18 = .ok (.dup, 1) := by decide +kernel
theorem dX6_needChip_19 : decode cX6_needChip 19 = .ok (.invokespecial 245, 3) := by decide +kernel
theorem dX6_needChip_22 : decode cX6_needChip 22 = .ok (.athrow, 1) := by decide +kernel
theorem dX6_needChip_23 : decode cX6_needChip 23 = .ok (.return_, 1) := by decide +kernel
abbrev mX6_needChip : KM := (RX6, cX6_needChip, 2, none, { frames := 6, cells := 0, slots := 0, locals := 89 }, 0, 0)
def fX6_needChip_L15 (a1 : Int32) (σ : Sto) : Option Nat :=
  some 3
def fX6_needChip (a1 : Int32) (σ : Sto) : Option Nat :=
  if a1 < 0 then
    fX6_needChip_L15 a1 σ
  else
    if a1 < (σ 25 8) then
      some 0
    else
      fX6_needChip_L15 a1 σ
set_option maxHeartbeats 4000000 in
set_option maxRecDepth 100000 in
theorem wX6_needChip_L15 (sh : KSh) (hk : KAG sh) (l : Launch) (hst : l.stackTraces = false) (a1 : Int32) : ∀ (σ : Sto), ∀ (r : Nat), fX6_needChip_L15 a1 σ = some r → r = 0 → VV sh l mX6_needChip 0 0 15 [] [] σ (r, .int 0, σ) := by
  intro σ r h hnt
  rw [fX6_needChip_L15] at h
  cases h; exact absurd (show (3 : Nat) = 0 from hnt) (by decide)
set_option maxHeartbeats 4000000 in
set_option maxRecDepth 100000 in
theorem tX6_needChip (sh : KSh) (hk : KAG sh) (l : Launch) (hst : l.stackTraces = false) (a1 : Int32) (σ : Sto) (r : Nat) (h : fX6_needChip a1 σ = some r) (hnt : r = 0) : CT sh l mX6_needChip yX6_needChip [.ref 0, .int a1] σ (r, .int 0, σ) := by
  refine kct [(0, .ref 0), (1, .int a1)] hst (by decide +kernel) rfl rfl (Nat.le_of_ble_eq_true rfl) ?_
  rw [fX6_needChip] at h
  refine kv_iload_n (pc := 0) 1 dX6_needChip_0 rfl rfl ?_
  refine kv_if_lt (pc := 1) (tgt := 15) dX6_needChip_1 (by decide) h (fun h => ?_) (fun h => ?_)
  · refine kv_sub (pc := 15) [] [] rfl ?_
    exact wX6_needChip_L15 sh hk l hst a1 σ r h hnt
  · refine kv_iload_n (pc := 4) 1 dX6_needChip_4 rfl rfl ?_
    refine kv_aload_n (pc := 5) 0 dX6_needChip_5 rfl rfl ?_
    refine kv_getR (pc := 6) (q2 := 25) dX6_needChip_6 (ks_0 hk) rfl (i := 0) (by decide) rfl fl_X6_12 rfl rfl ?_
    refine kv_getI (pc := 9) dX6_needChip_9 (ks_25 hk) rfl (i := 8) (by decide) rfl fl_X6_95 rfl ?_
    refine kv_icmp_lt (pc := 12) (tgt := 23) dX6_needChip_12 (by decide) h (fun h => ?_) (fun h => ?_)
    · exact kv_vret (pc := 23) (v := .int 0) dX6_needChip_23 rfl (by cases h; rfl) (by decide) (by decide)
    · refine kv_sub (pc := 15) [] [] rfl ?_
      exact wX6_needChip_L15 sh hk l hst a1 σ r h hnt
theorem yw_X6_needChip : KMV yX6_needChip mX6_needChip RX6 1 := ⟨⟨rfl, by decide +kernel, by decide +kernel, by decide +kernel⟩, ⟨rfl, rfl⟩, kg_in 958 (by decide +kernel) (by decide +kernel), kg_in 35 (by decide +kernel) (by decide +kernel), kg_in 47 (by decide +kernel) (by decide +kernel), kg_in 959 (by decide +kernel) (by decide +kernel)⟩
theorem dX6_told_0 : decode cX6_told 0 = .ok (.iload_n 0, 1) := by decide +kernel
theorem dX6_told_1 : decode cX6_told 1 = .ok (.iconst (-1), 1) := by decide +kernel
theorem dX6_told_2 : decode cX6_told 2 = .ok (.if_icmp .ne 6, 3) := by decide +kernel
theorem dX6_told_5 : decode cX6_told 5 = .ok (.bipush (-100), 2) := by decide +kernel
theorem dX6_told_7 : decode cX6_told 7 = .ok (.ireturn, 1) := by decide +kernel
theorem dX6_told_8 : decode cX6_told 8 = .ok (.iload_n 1, 1) := by decide +kernel
theorem dX6_told_9 : decode cX6_told 9 = .ok (.ifCond .eq 10, 3) := by decide +kernel
theorem dX6_told_12 : decode cX6_told 12 = .ok (.iload_n 0, 1) := by decide +kernel
theorem dX6_told_13 : decode cX6_told 13 = .ok (.invokestatic 334, 3) := by decide +kernel
theorem dX6_told_16 : decode cX6_told 16 = .ok (.goto 7, 3) := by decide +kernel
theorem dX6_told_19 : decode cX6_told 19 = .ok (.iload_n 0, 1) := by decide +kernel
theorem dX6_told_20 : decode cX6_told 20 = .ok (.invokestatic 337, 3) := by decide +kernel
theorem dX6_told_23 : decode cX6_told 23 = .ok (.ireturn, 1) := by decide +kernel
abbrev mX6_told : KM := (RX6, cX6_told, 2, (some .int), { frames := 1, cells := 0, slots := 0, locals := 20 }, 0, 0)
def fX6_told (a0 : Int32) (a1 : Int32) : Int32 :=
  if a0 = (-1) then
    (-100)
  else
    if a1 = 0 then
      (fX1_xOf a0)
    else
      (fX1_yOf a0)
set_option maxHeartbeats 4000000 in
set_option maxRecDepth 100000 in
theorem tX6_told (sh : KSh) (hk : KAG sh) (l : Launch) (hst : l.stackTraces = false) (a0 : Int32) (a1 : Int32) (σ : Sto) : CT sh l mX6_told yX6_told [.int a0, .int a1] σ (0, .int (fX6_told a0 a1), σ) := by
  refine kct [(0, .int a0), (1, .int a1)] hst (by decide +kernel) rfl rfl (Nat.le_of_ble_eq_true rfl) ?_
  generalize h : fX6_told a0 a1 = r
  rw [fX6_told] at h
  refine kv_iload_n (pc := 0) 0 dX6_told_0 rfl rfl ?_
  refine kv_iconst (pc := 1) (v := (-1)) dX6_told_1 (by decide) ?_
  refine kv_icmp_ne (pc := 2) (tgt := 8) dX6_told_2 (by decide) h (fun h => ?_) (fun h => ?_)
  · refine kv_iload_n (pc := 8) 1 dX6_told_8 rfl rfl ?_
    refine kv_if_eq (pc := 9) (tgt := 19) dX6_told_9 (by decide) h (fun h => ?_) (fun h => ?_)
    · refine kv_iload_n (pc := 19) 0 dX6_told_19 rfl rfl ?_
      refine kv_tS (pc := 20) (v := .int (fX1_xOf a0)) [.int a0] (.int (fX1_xOf a0) :: []) 23 0 0 (tX1_xOf sh (kwf_of hk) l hst a0 σ) dX6_told_20 rfl yw_X1_xOf lk_X6_337 (by decide) (Nat.le_of_ble_eq_true rfl) (by decide) rfl ⟨rfl, rfl, rfl⟩ ?_
      exact kv_iret (pc := 23) dX6_told_23 rfl (by subst h; rfl) (by decide) (by decide)
    · refine kv_iload_n (pc := 12) 0 dX6_told_12 rfl rfl ?_
      refine kv_tS (pc := 13) (v := .int (fX1_yOf a0)) [.int a0] (.int (fX1_yOf a0) :: []) 16 0 0 (tX1_yOf sh (kwf_of hk) l hst a0 σ) dX6_told_13 rfl yw_X1_yOf lk_X6_334 (by decide) (Nat.le_of_ble_eq_true rfl) (by decide) rfl ⟨rfl, rfl, rfl⟩ ?_
      refine kv_goto (pc := 16) (tgt := 23) dX6_told_16 (by decide) ?_
      exact kv_iret (pc := 23) dX6_told_23 rfl (by subst h; rfl) (by decide) (by decide)
  · refine kv_bipush (pc := 5) (v := (-100)) dX6_told_5 (by decide) ?_
    exact kv_iret (pc := 7) dX6_told_7 rfl (by subst h; rfl) (by decide) (by decide)
theorem yw_X6_told : KMS yX6_told mX6_told 2 := ⟨⟨by decide +kernel, by decide +kernel, by decide +kernel⟩, ⟨rfl, rfl⟩, kg_in 926 (by decide +kernel) (by decide +kernel), kg_in 47 (by decide +kernel) (by decide +kernel), kg_in 927 (by decide +kernel) (by decide +kernel)⟩
theorem dX6_chip_0 : decode cX6_chip 0 = .ok (.aload_n 0, 1) := by decide +kernel
theorem dX6_chip_1 : decode cX6_chip 1 = .ok (.iload_n 1, 1) := by decide +kernel
theorem dX6_chip_2 : decode cX6_chip 2 = .ok (.invokevirtual 153, 3) := by decide +kernel
theorem dX6_chip_5 : decode cX6_chip 5 = .ok (.iload_n 2, 1) := by decide +kernel
theorem dX6_chip_6 : decode cX6_chip 6 = .ok (.iconst 0, 1) := by decide +kernel
theorem dX6_chip_7 : decode cX6_chip 7 = .ok (.iconst 5, 1) := by decide +kernel
theorem dX6_chip_8 : decode cX6_chip 8 = .ok (.invokestatic 80, 3) := by decide +kernel
theorem dX6_chip_11 : decode cX6_chip 11 = .ok (.iload_n 2, 1) := by decide +kernel
theorem dX6_chip_12 : decode cX6_chip 12 = .ok (.tableswitch 89 0 4 #[36, 45, 54, 63, 76], 36) := by decide +kernel
theorem dX6_chip_48 : decode cX6_chip 48 = .ok (.aload_n 0, 1) := by decide +kernel
theorem dX6_chip_49 : decode cX6_chip 49 = .ok (.getfield 12, 3) := by decide +kernel
theorem dX6_chip_52 : decode cX6_chip 52 = .ok (.iload_n 1, 1) := by decide +kernel
theorem dX6_chip_53 : decode cX6_chip 53 = .ok (.invokevirtual 156, 3) := by decide +kernel
theorem dX6_chip_56 : decode cX6_chip 56 = .ok (.ireturn, 1) := by decide +kernel
theorem dX6_chip_57 : decode cX6_chip 57 = .ok (.aload_n 0, 1) := by decide +kernel
theorem dX6_chip_58 : decode cX6_chip 58 = .ok (.getfield 12, 3) := by decide +kernel
theorem dX6_chip_61 : decode cX6_chip 61 = .ok (.iload_n 1, 1) := by decide +kernel
theorem dX6_chip_62 : decode cX6_chip 62 = .ok (.invokevirtual 160, 3) := by decide +kernel
theorem dX6_chip_65 : decode cX6_chip 65 = .ok (.ireturn, 1) := by decide +kernel
theorem dX6_chip_66 : decode cX6_chip 66 = .ok (.aload_n 0, 1) := by decide +kernel
theorem dX6_chip_67 : decode cX6_chip 67 = .ok (.getfield 12, 3) := by decide +kernel
theorem dX6_chip_70 : decode cX6_chip 70 = .ok (.iload_n 1, 1) := by decide +kernel
theorem dX6_chip_71 : decode cX6_chip 71 = .ok (.invokevirtual 163, 3) := by decide +kernel
theorem dX6_chip_74 : decode cX6_chip 74 = .ok (.ireturn, 1) := by decide +kernel
theorem dX6_chip_75 : decode cX6_chip 75 = .ok (.aload_n 0, 1) := by decide +kernel
theorem dX6_chip_76 : decode cX6_chip 76 = .ok (.getfield 12, 3) := by decide +kernel
theorem dX6_chip_79 : decode cX6_chip 79 = .ok (.iload_n 1, 1) := by decide +kernel
theorem dX6_chip_80 : decode cX6_chip 80 = .ok (.invokevirtual 166, 3) := by decide +kernel
theorem dX6_chip_83 : decode cX6_chip 83 = .ok (.iconst 0, 1) := by decide +kernel
theorem dX6_chip_84 : decode cX6_chip 84 = .ok (.invokestatic 169, 3) := by decide +kernel
theorem dX6_chip_87 : decode cX6_chip 87 = .ok (.ireturn, 1) := by decide +kernel
theorem dX6_chip_88 : decode cX6_chip 88 = .ok (.aload_n 0, 1) := by decide +kernel
theorem dX6_chip_89 : decode cX6_chip 89 = .ok (.getfield 12, 3) := by decide +kernel
theorem dX6_chip_92 : decode cX6_chip 92 = .ok (.iload_n 1, 1) := by decide +kernel
theorem dX6_chip_93 : decode cX6_chip 93 = .ok (.invokevirtual 166, 3) := by decide +kernel
theorem dX6_chip_96 : decode cX6_chip 96 = .ok (.iconst 1, 1) := by decide +kernel
theorem dX6_chip_97 : decode cX6_chip 97 = .ok (.invokestatic 169, 3) := by decide +kernel
theorem dX6_chip_100 : decode cX6_chip 100 = .ok (.ireturn, 1) := by decide +kernel
theorem dX6_chip_101 : decode cX6_chip 101 = .ok (.aload_n 0, 1) := by decide +kernel
theorem dX6_chip_102 : decode cX6_chip 102 = .ok (.getfield 12, 3) := by decide +kernel
theorem dX6_chip_105 : decode cX6_chip 105 = .ok (.iload_n 1, 1) := by decide +kernel
theorem dX6_chip_106 : decode cX6_chip 106 = .ok (.invokevirtual 173, 3) := by decide +kernel
theorem dX6_chip_109 : decode cX6_chip 109 = .ok (.ireturn, 1) := by decide +kernel
abbrev mX6_chip : KM := (RX6, cX6_chip, 3, (some .int), { frames := 7, cells := 0, slots := 0, locals := 111 }, 0, 0)
def fX6_chip (a1 : Int32) (a2 : Int32) (σ : Sto) : Option (Nat × Int32) :=
  (fX6_needChip a1 σ).bind fun r1 =>
  if r1 = 0 then
    (fX6_needRange a2 0 5 σ).bind fun r4 =>
    if r4 = 0 then
      if a2 = 0 then
        (fX5_kindOf 25 a1 σ).bind fun r8 =>
        some (0, r8)
      else
        if a2 = 1 then
          (fX5_colourOf 25 a1 σ).bind fun r12 =>
          some (0, r12)
        else
          if a2 = 2 then
            (fX5_weightOf 25 a1 σ).bind fun r16 =>
            some (0, r16)
          else
            if a2 = 3 then
              (fX5_cellOf 25 a1 σ).bind fun r20 =>
              some (0, (fX6_told r20 0))
            else
              if a2 = 4 then
                (fX5_cellOf 25 a1 σ).bind fun r24 =>
                some (0, (fX6_told r24 1))
              else
                (fX5_ownMovesOf 25 a1 σ).bind fun r27 =>
                some (0, r27)
    else some (r4, 0)
  else some (r1, 0)
set_option maxHeartbeats 4000000 in
set_option maxRecDepth 100000 in
theorem tX6_chip (sh : KSh) (hk : KAG sh) (l : Launch) (hst : l.stackTraces = false) (a1 : Int32) (a2 : Int32) (σ : Sto) (r : (Nat × Int32)) (h : fX6_chip a1 a2 σ = some r) (hnt : r.1 = 0) : CT sh l mX6_chip yX6_chip [.ref 0, .int a1, .int a2] σ (r.1, .int r.2, σ) := by
  refine kct [(0, .ref 0), (1, .int a1), (2, .int a2)] hst (by decide +kernel) rfl rfl (Nat.le_of_ble_eq_true rfl) ?_
  rw [fX6_chip] at h
  refine kv_aload_n (pc := 0) 0 dX6_chip_0 rfl rfl ?_
  refine kv_iload_n (pc := 1) 1 dX6_chip_1 rfl rfl ?_
  refine kv_cVn (pc := 2) [.int a1] (fun r1 => (r1, .int 0, σ)) (fun r1 => []) (fun r1 => σ) 5 0 0 h (fun r1 g2 hnt => tX6_needChip sh hk l hst a1 σ r1 g2 hnt) dX6_chip_2 rfl (ks_0 hk) rfl yw_X6_needChip lk_X6_153 (by decide) (Nat.le_of_ble_eq_true rfl) (by decide) (fun _ => rfl) (fun _ => rfl) ⟨rfl, rfl, rfl⟩ (fun r h => Decidable.byContradiction (fun h9 => by rw [if_neg h9] at h; cases h; exact h9 hnt)) (fun r1 g2 z3 h => ?_)
  rw [if_pos z3] at h
  refine kv_iload_n (pc := 5) 2 dX6_chip_5 rfl rfl ?_
  refine kv_iconst (pc := 6) (v := 0) dX6_chip_6 (by decide) ?_
  refine kv_iconst (pc := 7) (v := 5) dX6_chip_7 (by decide) ?_
  refine kv_cSn (pc := 8) [.int a2, .int 0, .int 5] (fun r4 => (r4, .int 0, σ)) (fun r4 => []) (fun r4 => σ) 11 0 0 h (fun r4 g5 hnt => tX6_needRange sh hk l hst a2 0 5 σ r4 g5 hnt) dX6_chip_8 rfl yw_X6_needRange lk_X6_80 (by decide) (Nat.le_of_ble_eq_true rfl) (by decide) (fun _ => rfl) (fun _ => rfl) ⟨rfl, rfl, rfl⟩ (fun r h => Decidable.byContradiction (fun h9 => by rw [if_neg h9] at h; cases h; exact h9 hnt)) (fun r4 g5 z6 h => ?_)
  rw [if_pos z6] at h
  refine kv_iload_n (pc := 11) 2 dX6_chip_11 rfl rfl ?_
  by_cases e7 : a2 = 0
  · rw [if_pos e7] at h
    refine kv_tableIn (pc := 12) (off := 36) (tgt := 48) dX6_chip_12 (by rw [e7]; decide) (by rw [e7]; decide) (by rw [e7]; rfl) (by decide) ?_
    refine kv_aload_n (pc := 48) 0 dX6_chip_48 rfl rfl ?_
    refine kv_getR (pc := 49) (q2 := 25) dX6_chip_49 (ks_0 hk) rfl (i := 0) (by decide) rfl fl_X6_12 rfl rfl ?_
    refine kv_iload_n (pc := 52) 1 dX6_chip_52 rfl rfl ?_
    refine kv_cV (pc := 53) [.int a1] (fun r8 => (0, .int r8, σ)) (fun r8 => (.int r8 :: [])) (fun r8 => σ) 56 0 0 h (fun r8 g9 => tX5_kindOf sh (kwf_of hk) l hst 25 (ks_25 hk) a1 σ r8 g9) dX6_chip_53 rfl (ks_25 hk) rfl yw_X5_kindOf lk_X6_156 (by decide) (Nat.le_of_ble_eq_true rfl) (by decide) (fun _ => rfl) (fun _ => rfl) ⟨rfl, rfl, rfl⟩ (fun _ _ h0 => absurd rfl h0) (fun r8 g9 z10 h => ?_)
    exact kv_iret (pc := 56) dX6_chip_56 rfl (by cases h; rfl) (by decide) (by decide)
  · rw [if_neg e7] at h
    by_cases e11 : a2 = 1
    · rw [if_pos e11] at h
      refine kv_tableIn (pc := 12) (off := 45) (tgt := 57) dX6_chip_12 (by rw [e11]; decide) (by rw [e11]; decide) (by rw [e11]; rfl) (by decide) ?_
      refine kv_aload_n (pc := 57) 0 dX6_chip_57 rfl rfl ?_
      refine kv_getR (pc := 58) (q2 := 25) dX6_chip_58 (ks_0 hk) rfl (i := 0) (by decide) rfl fl_X6_12 rfl rfl ?_
      refine kv_iload_n (pc := 61) 1 dX6_chip_61 rfl rfl ?_
      refine kv_cV (pc := 62) [.int a1] (fun r12 => (0, .int r12, σ)) (fun r12 => (.int r12 :: [])) (fun r12 => σ) 65 0 0 h (fun r12 g13 => tX5_colourOf sh (kwf_of hk) l hst 25 (ks_25 hk) a1 σ r12 g13) dX6_chip_62 rfl (ks_25 hk) rfl yw_X5_colourOf lk_X6_160 (by decide) (Nat.le_of_ble_eq_true rfl) (by decide) (fun _ => rfl) (fun _ => rfl) ⟨rfl, rfl, rfl⟩ (fun _ _ h0 => absurd rfl h0) (fun r12 g13 z14 h => ?_)
      exact kv_iret (pc := 65) dX6_chip_65 rfl (by cases h; rfl) (by decide) (by decide)
    · rw [if_neg e11] at h
      by_cases e15 : a2 = 2
      · rw [if_pos e15] at h
        refine kv_tableIn (pc := 12) (off := 54) (tgt := 66) dX6_chip_12 (by rw [e15]; decide) (by rw [e15]; decide) (by rw [e15]; rfl) (by decide) ?_
        refine kv_aload_n (pc := 66) 0 dX6_chip_66 rfl rfl ?_
        refine kv_getR (pc := 67) (q2 := 25) dX6_chip_67 (ks_0 hk) rfl (i := 0) (by decide) rfl fl_X6_12 rfl rfl ?_
        refine kv_iload_n (pc := 70) 1 dX6_chip_70 rfl rfl ?_
        refine kv_cV (pc := 71) [.int a1] (fun r16 => (0, .int r16, σ)) (fun r16 => (.int r16 :: [])) (fun r16 => σ) 74 0 0 h (fun r16 g17 => tX5_weightOf sh (kwf_of hk) l hst 25 (ks_25 hk) a1 σ r16 g17) dX6_chip_71 rfl (ks_25 hk) rfl yw_X5_weightOf lk_X6_163 (by decide) (Nat.le_of_ble_eq_true rfl) (by decide) (fun _ => rfl) (fun _ => rfl) ⟨rfl, rfl, rfl⟩ (fun _ _ h0 => absurd rfl h0) (fun r16 g17 z18 h => ?_)
        exact kv_iret (pc := 74) dX6_chip_74 rfl (by cases h; rfl) (by decide) (by decide)
      · rw [if_neg e15] at h
        by_cases e19 : a2 = 3
        · rw [if_pos e19] at h
          refine kv_tableIn (pc := 12) (off := 63) (tgt := 75) dX6_chip_12 (by rw [e19]; decide) (by rw [e19]; decide) (by rw [e19]; rfl) (by decide) ?_
          refine kv_aload_n (pc := 75) 0 dX6_chip_75 rfl rfl ?_
          refine kv_getR (pc := 76) (q2 := 25) dX6_chip_76 (ks_0 hk) rfl (i := 0) (by decide) rfl fl_X6_12 rfl rfl ?_
          refine kv_iload_n (pc := 79) 1 dX6_chip_79 rfl rfl ?_
          refine kv_cV (pc := 80) [.int a1] (fun r20 => (0, .int r20, σ)) (fun r20 => (.int r20 :: [])) (fun r20 => σ) 83 0 0 h (fun r20 g21 => tX5_cellOf sh (kwf_of hk) l hst 25 (ks_25 hk) a1 σ r20 g21) dX6_chip_80 rfl (ks_25 hk) rfl yw_X5_cellOf lk_X6_166 (by decide) (Nat.le_of_ble_eq_true rfl) (by decide) (fun _ => rfl) (fun _ => rfl) ⟨rfl, rfl, rfl⟩ (fun _ _ h0 => absurd rfl h0) (fun r20 g21 z22 h => ?_)
          refine kv_iconst (pc := 83) (v := 0) dX6_chip_83 (by decide) ?_
          refine kv_tS (pc := 84) (v := .int (fX6_told r20 0)) [.int r20, .int 0] (.int (fX6_told r20 0) :: []) 87 0 0 (tX6_told sh hk l hst r20 0 σ) dX6_chip_84 rfl yw_X6_told lk_X6_169 (by decide) (Nat.le_of_ble_eq_true rfl) (by decide) rfl ⟨rfl, rfl, rfl⟩ ?_
          exact kv_iret (pc := 87) dX6_chip_87 rfl (by cases h; rfl) (by decide) (by decide)
        · rw [if_neg e19] at h
          by_cases e23 : a2 = 4
          · rw [if_pos e23] at h
            refine kv_tableIn (pc := 12) (off := 76) (tgt := 88) dX6_chip_12 (by rw [e23]; decide) (by rw [e23]; decide) (by rw [e23]; rfl) (by decide) ?_
            refine kv_aload_n (pc := 88) 0 dX6_chip_88 rfl rfl ?_
            refine kv_getR (pc := 89) (q2 := 25) dX6_chip_89 (ks_0 hk) rfl (i := 0) (by decide) rfl fl_X6_12 rfl rfl ?_
            refine kv_iload_n (pc := 92) 1 dX6_chip_92 rfl rfl ?_
            refine kv_cV (pc := 93) [.int a1] (fun r24 => (0, .int r24, σ)) (fun r24 => (.int r24 :: [])) (fun r24 => σ) 96 0 0 h (fun r24 g25 => tX5_cellOf sh (kwf_of hk) l hst 25 (ks_25 hk) a1 σ r24 g25) dX6_chip_93 rfl (ks_25 hk) rfl yw_X5_cellOf lk_X6_166 (by decide) (Nat.le_of_ble_eq_true rfl) (by decide) (fun _ => rfl) (fun _ => rfl) ⟨rfl, rfl, rfl⟩ (fun _ _ h0 => absurd rfl h0) (fun r24 g25 z26 h => ?_)
            refine kv_iconst (pc := 96) (v := 1) dX6_chip_96 (by decide) ?_
            refine kv_tS (pc := 97) (v := .int (fX6_told r24 1)) [.int r24, .int 1] (.int (fX6_told r24 1) :: []) 100 0 0 (tX6_told sh hk l hst r24 1 σ) dX6_chip_97 rfl yw_X6_told lk_X6_169 (by decide) (Nat.le_of_ble_eq_true rfl) (by decide) rfl ⟨rfl, rfl, rfl⟩ ?_
            exact kv_iret (pc := 100) dX6_chip_100 rfl (by cases h; rfl) (by decide) (by decide)
          · rw [if_neg e23] at h
            have ne7 : ¬ a2.toInt = 0 := lv_neT e7 (by decide)
            have ne11 : ¬ a2.toInt = 1 := lv_neT e11 (by decide)
            have ne15 : ¬ a2.toInt = 2 := lv_neT e15 (by decide)
            have ne19 : ¬ a2.toInt = 3 := lv_neT e19 (by decide)
            have ne23 : ¬ a2.toInt = 4 := lv_neT e23 (by decide)
            refine kv_tableOut (pc := 12) (tgt := 101) dX6_chip_12 (by omega) (by decide) ?_
            refine kv_aload_n (pc := 101) 0 dX6_chip_101 rfl rfl ?_
            refine kv_getR (pc := 102) (q2 := 25) dX6_chip_102 (ks_0 hk) rfl (i := 0) (by decide) rfl fl_X6_12 rfl rfl ?_
            refine kv_iload_n (pc := 105) 1 dX6_chip_105 rfl rfl ?_
            refine kv_cV (pc := 106) [.int a1] (fun r27 => (0, .int r27, σ)) (fun r27 => (.int r27 :: [])) (fun r27 => σ) 109 0 0 h (fun r27 g28 => tX5_ownMovesOf sh (kwf_of hk) l hst 25 (ks_25 hk) a1 σ r27 g28) dX6_chip_106 rfl (ks_25 hk) rfl yw_X5_ownMovesOf lk_X6_173 (by decide) (Nat.le_of_ble_eq_true rfl) (by decide) (fun _ => rfl) (fun _ => rfl) ⟨rfl, rfl, rfl⟩ (fun _ _ h0 => absurd rfl h0) (fun r27 g28 z29 h => ?_)
            exact kv_iret (pc := 109) dX6_chip_109 rfl (by cases h; rfl) (by decide) (by decide)
theorem yw_X6_chip : KMV yX6_chip mX6_chip RX6 2 := ⟨⟨rfl, by decide +kernel, by decide +kernel, by decide +kernel⟩, ⟨rfl, rfl⟩, kg_in 953 (by decide +kernel) (by decide +kernel), kg_in 954 (by decide +kernel) (by decide +kernel), kg_in 47 (by decide +kernel) (by decide +kernel), kg_in 955 (by decide +kernel) (by decide +kernel)⟩
theorem dX6_neededBoxCell_0 : decode cX6_neededBoxCell 0 = .ok (.aload_n 0, 1) := by decide +kernel
theorem dX6_neededBoxCell_1 : decode cX6_neededBoxCell 1 = .ok (.getfield 12, 3) := by decide +kernel
theorem dX6_neededBoxCell_4 : decode cX6_neededBoxCell 4 = .ok (.getfield 104, 3) := by decide +kernel
theorem dX6_neededBoxCell_7 : decode cX6_neededBoxCell 7 = .ok (.iload_n 1, 1) := by decide +kernel
theorem dX6_neededBoxCell_8 : decode cX6_neededBoxCell 8 = .ok (.iload_n 2, 1) := by decide +kernel
theorem dX6_neededBoxCell_9 : decode cX6_neededBoxCell 9 = .ok (.invokevirtual 331, 3) := by decide +kernel
theorem dX6_neededBoxCell_12 : decode cX6_neededBoxCell 12 = .ok (.istore_n 3, 1) := by decide +kernel
theorem dX6_neededBoxCell_13 : decode cX6_neededBoxCell 13 = .ok (.iload_n 3, 1) := by decide +kernel
theorem dX6_neededBoxCell_14 : decode cX6_neededBoxCell 14 = .ok (.iconst (-1), 1) := by decide +kernel
theorem dX6_neededBoxCell_15 : decode cX6_neededBoxCell 15 = .ok (.if_icmp .ne 11, 3) := by decide +kernel
theorem dX6_neededBoxCell_18 : decode cX6_neededBoxCell 18 = .ok (.new 243, 3) := by decide +kernel
theorem dX6_neededBoxCell_21 : decode cX6_neededBoxCell 21 = .ok (.dup, 1) := by decide +kernel
theorem dX6_neededBoxCell_22 : decode cX6_neededBoxCell 22 = .ok (.invokespecial 245, 3) := by decide +kernel
theorem dX6_neededBoxCell_25 : decode cX6_neededBoxCell 25 = .ok (.athrow, 1) := by decide +kernel
theorem dX6_neededBoxCell_26 : decode cX6_neededBoxCell 26 = .ok (.iload_n 3, 1) := by decide +kernel
theorem dX6_neededBoxCell_27 : decode cX6_neededBoxCell 27 = .ok (.ireturn, 1) := by decide +kernel
abbrev mX6_neededBoxCell : KM := (RX6, cX6_neededBoxCell, 4, (some .int), { frames := 6, cells := 0, slots := 0, locals := 89 }, 0, 0)
def fX6_neededBoxCell (a1 : Int32) (a2 : Int32) (σ : Sto) : Option (Nat × Int32) :=
  (fX1_boxCell 26 a1 a2 σ).bind fun r1 =>
  if r1 = (-1) then
    some (3, 0)
  else
    some (0, r1)
set_option maxHeartbeats 4000000 in
set_option maxRecDepth 100000 in
theorem tX6_neededBoxCell (sh : KSh) (hk : KAG sh) (l : Launch) (hst : l.stackTraces = false) (a1 : Int32) (a2 : Int32) (σ : Sto) (r : (Nat × Int32)) (h : fX6_neededBoxCell a1 a2 σ = some r) (hnt : r.1 = 0) : CT sh l mX6_neededBoxCell yX6_neededBoxCell [.ref 0, .int a1, .int a2] σ (r.1, .int r.2, σ) := by
  refine kct [(0, .ref 0), (1, .int a1), (2, .int a2)] hst (by decide +kernel) rfl rfl (Nat.le_of_ble_eq_true rfl) ?_
  rw [fX6_neededBoxCell] at h
  refine kv_aload_n (pc := 0) 0 dX6_neededBoxCell_0 rfl rfl ?_
  refine kv_getR (pc := 1) (q2 := 25) dX6_neededBoxCell_1 (ks_0 hk) rfl (i := 0) (by decide) rfl fl_X6_12 rfl rfl ?_
  refine kv_getR (pc := 4) (q2 := 26) dX6_neededBoxCell_4 (ks_25 hk) rfl (i := 0) (by decide) rfl fl_X6_104 rfl rfl ?_
  refine kv_iload_n (pc := 7) 1 dX6_neededBoxCell_7 rfl rfl ?_
  refine kv_iload_n (pc := 8) 2 dX6_neededBoxCell_8 rfl rfl ?_
  refine kv_cV (pc := 9) [.int a1, .int a2] (fun r1 => (0, .int r1, σ)) (fun r1 => (.int r1 :: [])) (fun r1 => σ) 12 0 0 h (fun r1 g2 => tX1_boxCell sh (kwf_of hk) l hst 26 (ks_26 hk) a1 a2 σ r1 g2) dX6_neededBoxCell_9 rfl (ks_26 hk) rfl yw_X1_boxCell lk_X6_331 (by decide) (Nat.le_of_ble_eq_true rfl) (by decide) (fun _ => rfl) (fun _ => rfl) ⟨rfl, rfl, rfl⟩ (fun _ _ h0 => absurd rfl h0) (fun r1 g2 z3 h => ?_)
  refine kv_istore_n (pc := 12) [(3, .int r1), (0, .ref 0), (1, .int a1), (2, .int a2)] dX6_neededBoxCell_12 rfl (by decide) rfl ?_
  refine kv_iload_n (pc := 13) 0 dX6_neededBoxCell_13 rfl rfl ?_
  refine kv_iconst (pc := 14) (v := (-1)) dX6_neededBoxCell_14 (by decide) ?_
  refine kv_icmp_ne (pc := 15) (tgt := 26) dX6_neededBoxCell_15 (by decide) h (fun h => ?_) (fun h => ?_)
  · refine kv_iload_n (pc := 26) 0 dX6_neededBoxCell_26 rfl rfl ?_
    exact kv_iret (pc := 27) dX6_neededBoxCell_27 rfl (by cases h; rfl) (by decide) (by decide)
  · cases h; exact absurd (show (3 : Nat) = 0 from hnt) (by decide)
theorem yw_X6_neededBoxCell : KMV yX6_neededBoxCell mX6_neededBoxCell RX6 2 := ⟨⟨rfl, by decide +kernel, by decide +kernel, by decide +kernel⟩, ⟨rfl, rfl⟩, kg_in 948 (by decide +kernel) (by decide +kernel), kg_in 34 (by decide +kernel) (by decide +kernel), kg_in 47 (by decide +kernel) (by decide +kernel), kg_in 949 (by decide +kernel) (by decide +kernel)⟩
theorem dX6_chipAt_0 : decode cX6_chipAt 0 = .ok (.aload_n 0, 1) := by decide +kernel
theorem dX6_chipAt_1 : decode cX6_chipAt 1 = .ok (.getfield 12, 3) := by decide +kernel
theorem dX6_chipAt_4 : decode cX6_chipAt 4 = .ok (.aload_n 0, 1) := by decide +kernel
theorem dX6_chipAt_5 : decode cX6_chipAt 5 = .ok (.iload_n 1, 1) := by decide +kernel
theorem dX6_chipAt_6 : decode cX6_chipAt 6 = .ok (.iload_n 2, 1) := by decide +kernel
theorem dX6_chipAt_7 : decode cX6_chipAt 7 = .ok (.invokevirtual 176, 3) := by decide +kernel
theorem dX6_chipAt_10 : decode cX6_chipAt 10 = .ok (.invokevirtual 180, 3) := by decide +kernel
theorem dX6_chipAt_13 : decode cX6_chipAt 13 = .ok (.ireturn, 1) := by decide +kernel
abbrev mX6_chipAt : KM := (RX6, cX6_chipAt, 3, (some .int), { frames := 7, cells := 0, slots := 0, locals := 112 }, 0, 0)
def fX6_chipAt (a1 : Int32) (a2 : Int32) (σ : Sto) : Option (Nat × Int32) :=
  (fX6_neededBoxCell a1 a2 σ).bind fun r1 =>
  if r1.1 = 0 then
    (fX5_chipOn 25 r1.2 σ).bind fun r4 =>
    some (0, r4)
  else some (r1.1, 0)
set_option maxHeartbeats 4000000 in
set_option maxRecDepth 100000 in
theorem tX6_chipAt (sh : KSh) (hk : KAG sh) (l : Launch) (hst : l.stackTraces = false) (a1 : Int32) (a2 : Int32) (σ : Sto) (r : (Nat × Int32)) (h : fX6_chipAt a1 a2 σ = some r) (hnt : r.1 = 0) : CT sh l mX6_chipAt yX6_chipAt [.ref 0, .int a1, .int a2] σ (r.1, .int r.2, σ) := by
  refine kct [(0, .ref 0), (1, .int a1), (2, .int a2)] hst (by decide +kernel) rfl rfl (Nat.le_of_ble_eq_true rfl) ?_
  rw [fX6_chipAt] at h
  refine kv_aload_n (pc := 0) 0 dX6_chipAt_0 rfl rfl ?_
  refine kv_getR (pc := 1) (q2 := 25) dX6_chipAt_1 (ks_0 hk) rfl (i := 0) (by decide) rfl fl_X6_12 rfl rfl ?_
  refine kv_aload_n (pc := 4) 0 dX6_chipAt_4 rfl rfl ?_
  refine kv_iload_n (pc := 5) 1 dX6_chipAt_5 rfl rfl ?_
  refine kv_iload_n (pc := 6) 2 dX6_chipAt_6 rfl rfl ?_
  refine kv_cVn (pc := 7) [.int a1, .int a2] (fun r1 => (r1.1, .int r1.2, σ)) (fun r1 => (.int r1.2 :: [.ref 25])) (fun r1 => σ) 10 0 0 h (fun r1 g2 hnt => tX6_neededBoxCell sh hk l hst a1 a2 σ r1 g2 hnt) dX6_chipAt_7 rfl (ks_0 hk) rfl yw_X6_neededBoxCell lk_X6_176 (by decide) (Nat.le_of_ble_eq_true rfl) (by decide) (fun _ => rfl) (fun _ => rfl) ⟨rfl, rfl, rfl⟩ (fun r h => Decidable.byContradiction (fun h9 => by rw [if_neg h9] at h; cases h; exact h9 hnt)) (fun r1 g2 z3 h => ?_)
  rw [if_pos z3] at h
  refine kv_cV (pc := 10) [.int r1.2] (fun r4 => (0, .int r4, σ)) (fun r4 => (.int r4 :: [])) (fun r4 => σ) 13 0 0 h (fun r4 g5 => tX5_chipOn sh (kwf_of hk) l hst 25 (ks_25 hk) r1.2 σ r4 g5) dX6_chipAt_10 rfl (ks_25 hk) rfl yw_X5_chipOn lk_X6_180 (by decide) (Nat.le_of_ble_eq_true rfl) (by decide) (fun _ => rfl) (fun _ => rfl) ⟨rfl, rfl, rfl⟩ (fun _ _ h0 => absurd rfl h0) (fun r4 g5 z6 h => ?_)
  exact kv_iret (pc := 13) dX6_chipAt_13 rfl (by cases h; rfl) (by decide) (by decide)
theorem yw_X6_chipAt : KMV yX6_chipAt mX6_chipAt RX6 2 := ⟨⟨rfl, by decide +kernel, by decide +kernel, by decide +kernel⟩, ⟨rfl, rfl⟩, kg_in 943 (by decide +kernel) (by decide +kernel), kg_in 944 (by decide +kernel) (by decide +kernel), kg_in 47 (by decide +kernel) (by decide +kernel), kg_in 945 (by decide +kernel) (by decide +kernel)⟩
theorem dX6_neededPictureCell_0 : decode cX6_neededPictureCell 0 = .ok (.aload_n 0, 1) := by decide +kernel
theorem dX6_neededPictureCell_1 : decode cX6_neededPictureCell 1 = .ok (.getfield 12, 3) := by decide +kernel
theorem dX6_neededPictureCell_4 : decode cX6_neededPictureCell 4 = .ok (.getfield 104, 3) := by decide +kernel
theorem dX6_neededPictureCell_7 : decode cX6_neededPictureCell 7 = .ok (.iload_n 1, 1) := by decide +kernel
theorem dX6_neededPictureCell_8 : decode cX6_neededPictureCell 8 = .ok (.iload_n 2, 1) := by decide +kernel
theorem dX6_neededPictureCell_9 : decode cX6_neededPictureCell 9 = .ok (.invokevirtual 328, 3) := by decide +kernel
theorem dX6_neededPictureCell_12 : decode cX6_neededPictureCell 12 = .ok (.istore_n 3, 1) := by decide +kernel
theorem dX6_neededPictureCell_13 : decode cX6_neededPictureCell 13 = .ok (.iload_n 3, 1) := by decide +kernel
theorem dX6_neededPictureCell_14 : decode cX6_neededPictureCell 14 = .ok (.iconst (-1), 1) := by decide +kernel
theorem dX6_neededPictureCell_15 : decode cX6_neededPictureCell 15 = .ok (.if_icmp .ne 11, 3) := by decide +kernel
theorem dX6_neededPictureCell_18 : decode cX6_neededPictureCell 18 = .ok (.new 243, 3) := by decide +kernel
theorem dX6_neededPictureCell_21 : decode cX6_neededPictureCell 21 = .ok (.dup, 1) := by decide +kernel
theorem dX6_neededPictureCell_22 : decode cX6_neededPictureCell 22 = .ok (.invokespecial 245, 3) := by decide +kernel
theorem dX6_neededPictureCell_25 : decode cX6_neededPictureCell 25 = .ok (.athrow, 1) := by decide +kernel
theorem dX6_neededPictureCell_26 : decode cX6_neededPictureCell 26 = .ok (.iload_n 3, 1) := by decide +kernel
theorem dX6_neededPictureCell_27 : decode cX6_neededPictureCell 27 = .ok (.ireturn, 1) := by decide +kernel
abbrev mX6_neededPictureCell : KM := (RX6, cX6_neededPictureCell, 4, (some .int), { frames := 6, cells := 0, slots := 0, locals := 89 }, 0, 0)
def fX6_neededPictureCell (a1 : Int32) (a2 : Int32) (σ : Sto) : Option (Nat × Int32) :=
  (fX1_pictureCell 26 a1 a2 σ).bind fun r1 =>
  if r1 = (-1) then
    some (3, 0)
  else
    some (0, r1)
set_option maxHeartbeats 4000000 in
set_option maxRecDepth 100000 in
theorem tX6_neededPictureCell (sh : KSh) (hk : KAG sh) (l : Launch) (hst : l.stackTraces = false) (a1 : Int32) (a2 : Int32) (σ : Sto) (r : (Nat × Int32)) (h : fX6_neededPictureCell a1 a2 σ = some r) (hnt : r.1 = 0) : CT sh l mX6_neededPictureCell yX6_neededPictureCell [.ref 0, .int a1, .int a2] σ (r.1, .int r.2, σ) := by
  refine kct [(0, .ref 0), (1, .int a1), (2, .int a2)] hst (by decide +kernel) rfl rfl (Nat.le_of_ble_eq_true rfl) ?_
  rw [fX6_neededPictureCell] at h
  refine kv_aload_n (pc := 0) 0 dX6_neededPictureCell_0 rfl rfl ?_
  refine kv_getR (pc := 1) (q2 := 25) dX6_neededPictureCell_1 (ks_0 hk) rfl (i := 0) (by decide) rfl fl_X6_12 rfl rfl ?_
  refine kv_getR (pc := 4) (q2 := 26) dX6_neededPictureCell_4 (ks_25 hk) rfl (i := 0) (by decide) rfl fl_X6_104 rfl rfl ?_
  refine kv_iload_n (pc := 7) 1 dX6_neededPictureCell_7 rfl rfl ?_
  refine kv_iload_n (pc := 8) 2 dX6_neededPictureCell_8 rfl rfl ?_
  refine kv_cV (pc := 9) [.int a1, .int a2] (fun r1 => (0, .int r1, σ)) (fun r1 => (.int r1 :: [])) (fun r1 => σ) 12 0 0 h (fun r1 g2 => tX1_pictureCell sh (kwf_of hk) l hst 26 (ks_26 hk) a1 a2 σ r1 g2) dX6_neededPictureCell_9 rfl (ks_26 hk) rfl yw_X1_pictureCell lk_X6_328 (by decide) (Nat.le_of_ble_eq_true rfl) (by decide) (fun _ => rfl) (fun _ => rfl) ⟨rfl, rfl, rfl⟩ (fun _ _ h0 => absurd rfl h0) (fun r1 g2 z3 h => ?_)
  refine kv_istore_n (pc := 12) [(3, .int r1), (0, .ref 0), (1, .int a1), (2, .int a2)] dX6_neededPictureCell_12 rfl (by decide) rfl ?_
  refine kv_iload_n (pc := 13) 0 dX6_neededPictureCell_13 rfl rfl ?_
  refine kv_iconst (pc := 14) (v := (-1)) dX6_neededPictureCell_14 (by decide) ?_
  refine kv_icmp_ne (pc := 15) (tgt := 26) dX6_neededPictureCell_15 (by decide) h (fun h => ?_) (fun h => ?_)
  · refine kv_iload_n (pc := 26) 0 dX6_neededPictureCell_26 rfl rfl ?_
    exact kv_iret (pc := 27) dX6_neededPictureCell_27 rfl (by cases h; rfl) (by decide) (by decide)
  · cases h; exact absurd (show (3 : Nat) = 0 from hnt) (by decide)
theorem yw_X6_neededPictureCell : KMV yX6_neededPictureCell mX6_neededPictureCell RX6 2 := ⟨⟨rfl, by decide +kernel, by decide +kernel, by decide +kernel⟩, ⟨rfl, rfl⟩, kg_in 889 (by decide +kernel) (by decide +kernel), kg_in 33 (by decide +kernel) (by decide +kernel), kg_in 47 (by decide +kernel) (by decide +kernel), kg_in 890 (by decide +kernel) (by decide +kernel)⟩
theorem dX6_colour_0 : decode cX6_colour 0 = .ok (.aload_n 0, 1) := by decide +kernel
theorem dX6_colour_1 : decode cX6_colour 1 = .ok (.iload_n 1, 1) := by decide +kernel
theorem dX6_colour_2 : decode cX6_colour 2 = .ok (.iload_n 2, 1) := by decide +kernel
theorem dX6_colour_3 : decode cX6_colour 3 = .ok (.invokevirtual 183, 3) := by decide +kernel
theorem dX6_colour_6 : decode cX6_colour 6 = .ok (.istore_n 3, 1) := by decide +kernel
theorem dX6_colour_7 : decode cX6_colour 7 = .ok (.aload_n 0, 1) := by decide +kernel
theorem dX6_colour_8 : decode cX6_colour 8 = .ok (.getfield 44, 3) := by decide +kernel
theorem dX6_colour_11 : decode cX6_colour 11 = .ok (.aload_n 0, 1) := by decide +kernel
theorem dX6_colour_12 : decode cX6_colour 12 = .ok (.getfield 12, 3) := by decide +kernel
theorem dX6_colour_15 : decode cX6_colour 15 = .ok (.iload_n 3, 1) := by decide +kernel
theorem dX6_colour_16 : decode cX6_colour 16 = .ok (.invokevirtual 189, 3) := by decide +kernel
theorem dX6_colour_19 : decode cX6_colour 19 = .ok (.aload_n 0, 1) := by decide +kernel
theorem dX6_colour_20 : decode cX6_colour 20 = .ok (.getfield 12, 3) := by decide +kernel
theorem dX6_colour_23 : decode cX6_colour 23 = .ok (.aload_n 0, 1) := by decide +kernel
theorem dX6_colour_24 : decode cX6_colour 24 = .ok (.getfield 44, 3) := by decide +kernel
theorem dX6_colour_27 : decode cX6_colour 27 = .ok (.iload_n 3, 1) := by decide +kernel
theorem dX6_colour_28 : decode cX6_colour 28 = .ok (.invokevirtual 193, 3) := by decide +kernel
theorem dX6_colour_31 : decode cX6_colour 31 = .ok (.invokevirtual 196, 3) := by decide +kernel
theorem dX6_colour_34 : decode cX6_colour 34 = .ok (.ireturn, 1) := by decide +kernel
abbrev mX6_colour : KM := (RX6, cX6_colour, 4, (some .int), { frames := 7, cells := 0, slots := 0, locals := 112 }, 0, 0)
def fX6_colour (a1 : Int32) (a2 : Int32) (σ : Sto) : Option KP :=
  (fX6_neededPictureCell a1 a2 σ).bind fun r1 =>
  if r1.1 = 0 then
    (fX3_trace 7 25 r1.2 σ).bind fun r4 =>
    (fX3_sourceOf 7 r1.2 r4).bind fun r7 =>
    (fX5_colourOn 25 r7 r4).bind fun r10 =>
    some (0, r10, r4)
  else some (r1.1, 0, σ)
set_option maxHeartbeats 4000000 in
set_option maxRecDepth 100000 in
theorem tX6_colour (sh : KSh) (hk : KAG sh) (l : Launch) (hst : l.stackTraces = false) (a1 : Int32) (a2 : Int32) (σ : Sto) (r : KP) (h : fX6_colour a1 a2 σ = some r) (hnt : r.1 = 0) : CT sh l mX6_colour yX6_colour [.ref 0, .int a1, .int a2] σ (r.1, .int r.2.1, r.2.2) := by
  refine kct [(0, .ref 0), (1, .int a1), (2, .int a2)] hst (by decide +kernel) rfl rfl (Nat.le_of_ble_eq_true rfl) ?_
  rw [fX6_colour] at h
  refine kv_aload_n (pc := 0) 0 dX6_colour_0 rfl rfl ?_
  refine kv_iload_n (pc := 1) 1 dX6_colour_1 rfl rfl ?_
  refine kv_iload_n (pc := 2) 2 dX6_colour_2 rfl rfl ?_
  refine kv_cVn (pc := 3) [.int a1, .int a2] (fun r1 => (r1.1, .int r1.2, σ)) (fun r1 => (.int r1.2 :: [])) (fun r1 => σ) 6 0 0 h (fun r1 g2 hnt => tX6_neededPictureCell sh hk l hst a1 a2 σ r1 g2 hnt) dX6_colour_3 rfl (ks_0 hk) rfl yw_X6_neededPictureCell lk_X6_183 (by decide) (Nat.le_of_ble_eq_true rfl) (by decide) (fun _ => rfl) (fun _ => rfl) ⟨rfl, rfl, rfl⟩ (fun r h => Decidable.byContradiction (fun h9 => by rw [if_neg h9] at h; cases h; exact h9 hnt)) (fun r1 g2 z3 h => ?_)
  rw [if_pos z3] at h
  refine kv_istore_n (pc := 6) [(3, .int r1.2), (0, .ref 0), (1, .int a1), (2, .int a2)] dX6_colour_6 rfl (by decide) rfl ?_
  refine kv_aload_n (pc := 7) 1 dX6_colour_7 rfl rfl ?_
  refine kv_getR (pc := 8) (q2 := 7) dX6_colour_8 (ks_0 hk) rfl (i := 9) (by decide) rfl fl_X6_44 rfl rfl ?_
  refine kv_aload_n (pc := 11) 1 dX6_colour_11 rfl rfl ?_
  refine kv_getR (pc := 12) (q2 := 25) dX6_colour_12 (ks_0 hk) rfl (i := 0) (by decide) rfl fl_X6_12 rfl rfl ?_
  refine kv_iload_n (pc := 15) 0 dX6_colour_15 rfl rfl ?_
  refine kv_cV (pc := 16) [.ref 25, .int r1.2] (fun r4 => (0, .int 0, r4)) (fun r4 => []) (fun r4 => r4) 19 0 0 h (fun r4 g5 => tX3_trace sh (kwf_of hk) l hst 7 (ks_7 hk) 25 (ks_25 hk) r1.2 σ r4 g5) dX6_colour_16 rfl (ks_7 hk) rfl yw_X3_trace lk_X6_189 (by decide) (Nat.le_of_ble_eq_true rfl) (by decide) (fun _ => rfl) (fun _ => rfl) ⟨rfl, rfl, rfl⟩ (fun _ _ h0 => absurd rfl h0) (fun r4 g5 z6 h => ?_)
  refine kv_aload_n (pc := 19) 1 dX6_colour_19 rfl rfl ?_
  refine kv_getR (pc := 20) (q2 := 25) dX6_colour_20 (ks_0 hk) rfl (i := 0) (by decide) rfl fl_X6_12 rfl rfl ?_
  refine kv_aload_n (pc := 23) 1 dX6_colour_23 rfl rfl ?_
  refine kv_getR (pc := 24) (q2 := 7) dX6_colour_24 (ks_0 hk) rfl (i := 9) (by decide) rfl fl_X6_44 rfl rfl ?_
  refine kv_iload_n (pc := 27) 0 dX6_colour_27 rfl rfl ?_
  refine kv_cV (pc := 28) [.int r1.2] (fun r7 => (0, .int r7, r4)) (fun r7 => (.int r7 :: [.ref 25])) (fun r7 => r4) 31 0 0 h (fun r7 g8 => tX3_sourceOf sh (kwf_of hk) l hst 7 (ks_7 hk) r1.2 r4 r7 g8) dX6_colour_28 rfl (ks_7 hk) rfl yw_X3_sourceOf lk_X6_193 (by decide) (Nat.le_of_ble_eq_true rfl) (by decide) (fun _ => rfl) (fun _ => rfl) ⟨rfl, rfl, rfl⟩ (fun _ _ h0 => absurd rfl h0) (fun r7 g8 z9 h => ?_)
  refine kv_cV (pc := 31) [.int r7] (fun r10 => (0, .int r10, r4)) (fun r10 => (.int r10 :: [])) (fun r10 => r4) 34 0 0 h (fun r10 g11 => tX5_colourOn sh (kwf_of hk) l hst 25 (ks_25 hk) r7 r4 r10 g11) dX6_colour_31 rfl (ks_25 hk) rfl yw_X5_colourOn lk_X6_196 (by decide) (Nat.le_of_ble_eq_true rfl) (by decide) (fun _ => rfl) (fun _ => rfl) ⟨rfl, rfl, rfl⟩ (fun _ _ h0 => absurd rfl h0) (fun r10 g11 z12 h => ?_)
  exact kv_iret (pc := 34) dX6_colour_34 rfl (by cases h; rfl) (by decide) (by decide)
theorem yw_X6_colour : KMV yX6_colour mX6_colour RX6 2 := ⟨⟨rfl, by decide +kernel, by decide +kernel, by decide +kernel⟩, ⟨rfl, rfl⟩, kg_in 884 (by decide +kernel) (by decide +kernel), kg_in 885 (by decide +kernel) (by decide +kernel), kg_in 47 (by decide +kernel) (by decide +kernel), kg_in 886 (by decide +kernel) (by decide +kernel)⟩
theorem dX6_brightness_0 : decode cX6_brightness 0 = .ok (.aload_n 0, 1) := by decide +kernel
theorem dX6_brightness_1 : decode cX6_brightness 1 = .ok (.iload_n 1, 1) := by decide +kernel
theorem dX6_brightness_2 : decode cX6_brightness 2 = .ok (.iload_n 2, 1) := by decide +kernel
theorem dX6_brightness_3 : decode cX6_brightness 3 = .ok (.invokevirtual 183, 3) := by decide +kernel
theorem dX6_brightness_6 : decode cX6_brightness 6 = .ok (.istore_n 3, 1) := by decide +kernel
theorem dX6_brightness_7 : decode cX6_brightness 7 = .ok (.aload_n 0, 1) := by decide +kernel
theorem dX6_brightness_8 : decode cX6_brightness 8 = .ok (.getfield 44, 3) := by decide +kernel
theorem dX6_brightness_11 : decode cX6_brightness 11 = .ok (.aload_n 0, 1) := by decide +kernel
theorem dX6_brightness_12 : decode cX6_brightness 12 = .ok (.getfield 12, 3) := by decide +kernel
theorem dX6_brightness_15 : decode cX6_brightness 15 = .ok (.iload_n 3, 1) := by decide +kernel
theorem dX6_brightness_16 : decode cX6_brightness 16 = .ok (.invokevirtual 189, 3) := by decide +kernel
theorem dX6_brightness_19 : decode cX6_brightness 19 = .ok (.aload_n 0, 1) := by decide +kernel
theorem dX6_brightness_20 : decode cX6_brightness 20 = .ok (.getfield 44, 3) := by decide +kernel
theorem dX6_brightness_23 : decode cX6_brightness 23 = .ok (.aload_n 0, 1) := by decide +kernel
theorem dX6_brightness_24 : decode cX6_brightness 24 = .ok (.getfield 12, 3) := by decide +kernel
theorem dX6_brightness_27 : decode cX6_brightness 27 = .ok (.iload_n 3, 1) := by decide +kernel
theorem dX6_brightness_28 : decode cX6_brightness 28 = .ok (.invokevirtual 199, 3) := by decide +kernel
theorem dX6_brightness_31 : decode cX6_brightness 31 = .ok (.ireturn, 1) := by decide +kernel
abbrev mX6_brightness : KM := (RX6, cX6_brightness, 4, (some .int), { frames := 7, cells := 0, slots := 0, locals := 112 }, 0, 0)
def fX6_brightness (a1 : Int32) (a2 : Int32) (σ : Sto) : Option KP :=
  (fX6_neededPictureCell a1 a2 σ).bind fun r1 =>
  if r1.1 = 0 then
    (fX3_trace 7 25 r1.2 σ).bind fun r4 =>
    (fX3_brightnessOf 7 25 r1.2 r4).bind fun r7 =>
    some (0, r7, r4)
  else some (r1.1, 0, σ)
set_option maxHeartbeats 4000000 in
set_option maxRecDepth 100000 in
theorem tX6_brightness (sh : KSh) (hk : KAG sh) (l : Launch) (hst : l.stackTraces = false) (a1 : Int32) (a2 : Int32) (σ : Sto) (r : KP) (h : fX6_brightness a1 a2 σ = some r) (hnt : r.1 = 0) : CT sh l mX6_brightness yX6_brightness [.ref 0, .int a1, .int a2] σ (r.1, .int r.2.1, r.2.2) := by
  refine kct [(0, .ref 0), (1, .int a1), (2, .int a2)] hst (by decide +kernel) rfl rfl (Nat.le_of_ble_eq_true rfl) ?_
  rw [fX6_brightness] at h
  refine kv_aload_n (pc := 0) 0 dX6_brightness_0 rfl rfl ?_
  refine kv_iload_n (pc := 1) 1 dX6_brightness_1 rfl rfl ?_
  refine kv_iload_n (pc := 2) 2 dX6_brightness_2 rfl rfl ?_
  refine kv_cVn (pc := 3) [.int a1, .int a2] (fun r1 => (r1.1, .int r1.2, σ)) (fun r1 => (.int r1.2 :: [])) (fun r1 => σ) 6 0 0 h (fun r1 g2 hnt => tX6_neededPictureCell sh hk l hst a1 a2 σ r1 g2 hnt) dX6_brightness_3 rfl (ks_0 hk) rfl yw_X6_neededPictureCell lk_X6_183 (by decide) (Nat.le_of_ble_eq_true rfl) (by decide) (fun _ => rfl) (fun _ => rfl) ⟨rfl, rfl, rfl⟩ (fun r h => Decidable.byContradiction (fun h9 => by rw [if_neg h9] at h; cases h; exact h9 hnt)) (fun r1 g2 z3 h => ?_)
  rw [if_pos z3] at h
  refine kv_istore_n (pc := 6) [(3, .int r1.2), (0, .ref 0), (1, .int a1), (2, .int a2)] dX6_brightness_6 rfl (by decide) rfl ?_
  refine kv_aload_n (pc := 7) 1 dX6_brightness_7 rfl rfl ?_
  refine kv_getR (pc := 8) (q2 := 7) dX6_brightness_8 (ks_0 hk) rfl (i := 9) (by decide) rfl fl_X6_44 rfl rfl ?_
  refine kv_aload_n (pc := 11) 1 dX6_brightness_11 rfl rfl ?_
  refine kv_getR (pc := 12) (q2 := 25) dX6_brightness_12 (ks_0 hk) rfl (i := 0) (by decide) rfl fl_X6_12 rfl rfl ?_
  refine kv_iload_n (pc := 15) 0 dX6_brightness_15 rfl rfl ?_
  refine kv_cV (pc := 16) [.ref 25, .int r1.2] (fun r4 => (0, .int 0, r4)) (fun r4 => []) (fun r4 => r4) 19 0 0 h (fun r4 g5 => tX3_trace sh (kwf_of hk) l hst 7 (ks_7 hk) 25 (ks_25 hk) r1.2 σ r4 g5) dX6_brightness_16 rfl (ks_7 hk) rfl yw_X3_trace lk_X6_189 (by decide) (Nat.le_of_ble_eq_true rfl) (by decide) (fun _ => rfl) (fun _ => rfl) ⟨rfl, rfl, rfl⟩ (fun _ _ h0 => absurd rfl h0) (fun r4 g5 z6 h => ?_)
  refine kv_aload_n (pc := 19) 1 dX6_brightness_19 rfl rfl ?_
  refine kv_getR (pc := 20) (q2 := 7) dX6_brightness_20 (ks_0 hk) rfl (i := 9) (by decide) rfl fl_X6_44 rfl rfl ?_
  refine kv_aload_n (pc := 23) 1 dX6_brightness_23 rfl rfl ?_
  refine kv_getR (pc := 24) (q2 := 25) dX6_brightness_24 (ks_0 hk) rfl (i := 0) (by decide) rfl fl_X6_12 rfl rfl ?_
  refine kv_iload_n (pc := 27) 0 dX6_brightness_27 rfl rfl ?_
  refine kv_cV (pc := 28) [.ref 25, .int r1.2] (fun r7 => (0, .int r7, r4)) (fun r7 => (.int r7 :: [])) (fun r7 => r4) 31 0 0 h (fun r7 g8 => tX3_brightnessOf sh (kwf_of hk) l hst 7 (ks_7 hk) 25 (ks_25 hk) r1.2 r4 r7 g8) dX6_brightness_28 rfl (ks_7 hk) rfl yw_X3_brightnessOf lk_X6_199 (by decide) (Nat.le_of_ble_eq_true rfl) (by decide) (fun _ => rfl) (fun _ => rfl) ⟨rfl, rfl, rfl⟩ (fun _ _ h0 => absurd rfl h0) (fun r7 g8 z9 h => ?_)
  exact kv_iret (pc := 31) dX6_brightness_31 rfl (by cases h; rfl) (by decide) (by decide)
theorem yw_X6_brightness : KMV yX6_brightness mX6_brightness RX6 2 := ⟨⟨rfl, by decide +kernel, by decide +kernel, by decide +kernel⟩, ⟨rfl, rfl⟩, kg_in 934 (by decide +kernel) (by decide +kernel), kg_in 935 (by decide +kernel) (by decide +kernel), kg_in 47 (by decide +kernel) (by decide +kernel), kg_in 936 (by decide +kernel) (by decide +kernel)⟩
theorem dX6_reflections_0 : decode cX6_reflections 0 = .ok (.aload_n 0, 1) := by decide +kernel
theorem dX6_reflections_1 : decode cX6_reflections 1 = .ok (.iload_n 1, 1) := by decide +kernel
theorem dX6_reflections_2 : decode cX6_reflections 2 = .ok (.iload_n 2, 1) := by decide +kernel
theorem dX6_reflections_3 : decode cX6_reflections 3 = .ok (.invokevirtual 183, 3) := by decide +kernel
theorem dX6_reflections_6 : decode cX6_reflections 6 = .ok (.istore_n 3, 1) := by decide +kernel
theorem dX6_reflections_7 : decode cX6_reflections 7 = .ok (.aload_n 0, 1) := by decide +kernel
theorem dX6_reflections_8 : decode cX6_reflections 8 = .ok (.getfield 44, 3) := by decide +kernel
theorem dX6_reflections_11 : decode cX6_reflections 11 = .ok (.aload_n 0, 1) := by decide +kernel
theorem dX6_reflections_12 : decode cX6_reflections 12 = .ok (.getfield 12, 3) := by decide +kernel
theorem dX6_reflections_15 : decode cX6_reflections 15 = .ok (.iload_n 3, 1) := by decide +kernel
theorem dX6_reflections_16 : decode cX6_reflections 16 = .ok (.invokevirtual 189, 3) := by decide +kernel
theorem dX6_reflections_19 : decode cX6_reflections 19 = .ok (.aload_n 0, 1) := by decide +kernel
theorem dX6_reflections_20 : decode cX6_reflections 20 = .ok (.getfield 44, 3) := by decide +kernel
theorem dX6_reflections_23 : decode cX6_reflections 23 = .ok (.iload_n 3, 1) := by decide +kernel
theorem dX6_reflections_24 : decode cX6_reflections 24 = .ok (.invokevirtual 203, 3) := by decide +kernel
theorem dX6_reflections_27 : decode cX6_reflections 27 = .ok (.ireturn, 1) := by decide +kernel
abbrev mX6_reflections : KM := (RX6, cX6_reflections, 4, (some .int), { frames := 7, cells := 0, slots := 0, locals := 112 }, 0, 0)
def fX6_reflections (a1 : Int32) (a2 : Int32) (σ : Sto) : Option KP :=
  (fX6_neededPictureCell a1 a2 σ).bind fun r1 =>
  if r1.1 = 0 then
    (fX3_trace 7 25 r1.2 σ).bind fun r4 =>
    (fX3_reflectionsOf 7 r1.2 r4).bind fun r7 =>
    some (0, r7, r4)
  else some (r1.1, 0, σ)
set_option maxHeartbeats 4000000 in
set_option maxRecDepth 100000 in
theorem tX6_reflections (sh : KSh) (hk : KAG sh) (l : Launch) (hst : l.stackTraces = false) (a1 : Int32) (a2 : Int32) (σ : Sto) (r : KP) (h : fX6_reflections a1 a2 σ = some r) (hnt : r.1 = 0) : CT sh l mX6_reflections yX6_reflections [.ref 0, .int a1, .int a2] σ (r.1, .int r.2.1, r.2.2) := by
  refine kct [(0, .ref 0), (1, .int a1), (2, .int a2)] hst (by decide +kernel) rfl rfl (Nat.le_of_ble_eq_true rfl) ?_
  rw [fX6_reflections] at h
  refine kv_aload_n (pc := 0) 0 dX6_reflections_0 rfl rfl ?_
  refine kv_iload_n (pc := 1) 1 dX6_reflections_1 rfl rfl ?_
  refine kv_iload_n (pc := 2) 2 dX6_reflections_2 rfl rfl ?_
  refine kv_cVn (pc := 3) [.int a1, .int a2] (fun r1 => (r1.1, .int r1.2, σ)) (fun r1 => (.int r1.2 :: [])) (fun r1 => σ) 6 0 0 h (fun r1 g2 hnt => tX6_neededPictureCell sh hk l hst a1 a2 σ r1 g2 hnt) dX6_reflections_3 rfl (ks_0 hk) rfl yw_X6_neededPictureCell lk_X6_183 (by decide) (Nat.le_of_ble_eq_true rfl) (by decide) (fun _ => rfl) (fun _ => rfl) ⟨rfl, rfl, rfl⟩ (fun r h => Decidable.byContradiction (fun h9 => by rw [if_neg h9] at h; cases h; exact h9 hnt)) (fun r1 g2 z3 h => ?_)
  rw [if_pos z3] at h
  refine kv_istore_n (pc := 6) [(3, .int r1.2), (0, .ref 0), (1, .int a1), (2, .int a2)] dX6_reflections_6 rfl (by decide) rfl ?_
  refine kv_aload_n (pc := 7) 1 dX6_reflections_7 rfl rfl ?_
  refine kv_getR (pc := 8) (q2 := 7) dX6_reflections_8 (ks_0 hk) rfl (i := 9) (by decide) rfl fl_X6_44 rfl rfl ?_
  refine kv_aload_n (pc := 11) 1 dX6_reflections_11 rfl rfl ?_
  refine kv_getR (pc := 12) (q2 := 25) dX6_reflections_12 (ks_0 hk) rfl (i := 0) (by decide) rfl fl_X6_12 rfl rfl ?_
  refine kv_iload_n (pc := 15) 0 dX6_reflections_15 rfl rfl ?_
  refine kv_cV (pc := 16) [.ref 25, .int r1.2] (fun r4 => (0, .int 0, r4)) (fun r4 => []) (fun r4 => r4) 19 0 0 h (fun r4 g5 => tX3_trace sh (kwf_of hk) l hst 7 (ks_7 hk) 25 (ks_25 hk) r1.2 σ r4 g5) dX6_reflections_16 rfl (ks_7 hk) rfl yw_X3_trace lk_X6_189 (by decide) (Nat.le_of_ble_eq_true rfl) (by decide) (fun _ => rfl) (fun _ => rfl) ⟨rfl, rfl, rfl⟩ (fun _ _ h0 => absurd rfl h0) (fun r4 g5 z6 h => ?_)
  refine kv_aload_n (pc := 19) 1 dX6_reflections_19 rfl rfl ?_
  refine kv_getR (pc := 20) (q2 := 7) dX6_reflections_20 (ks_0 hk) rfl (i := 9) (by decide) rfl fl_X6_44 rfl rfl ?_
  refine kv_iload_n (pc := 23) 0 dX6_reflections_23 rfl rfl ?_
  refine kv_cV (pc := 24) [.int r1.2] (fun r7 => (0, .int r7, r4)) (fun r7 => (.int r7 :: [])) (fun r7 => r4) 27 0 0 h (fun r7 g8 => tX3_reflectionsOf sh (kwf_of hk) l hst 7 (ks_7 hk) r1.2 r4 r7 g8) dX6_reflections_24 rfl (ks_7 hk) rfl yw_X3_reflectionsOf lk_X6_203 (by decide) (Nat.le_of_ble_eq_true rfl) (by decide) (fun _ => rfl) (fun _ => rfl) ⟨rfl, rfl, rfl⟩ (fun _ _ h0 => absurd rfl h0) (fun r7 g8 z9 h => ?_)
  exact kv_iret (pc := 27) dX6_reflections_27 rfl (by cases h; rfl) (by decide) (by decide)
theorem yw_X6_reflections : KMV yX6_reflections mX6_reflections RX6 2 := ⟨⟨rfl, by decide +kernel, by decide +kernel, by decide +kernel⟩, ⟨rfl, rfl⟩, kg_in 914 (by decide +kernel) (by decide +kernel), kg_in 915 (by decide +kernel) (by decide +kernel), kg_in 47 (by decide +kernel) (by decide +kernel), kg_in 916 (by decide +kernel) (by decide +kernel)⟩
theorem dX6_source_0 : decode cX6_source 0 = .ok (.aload_n 0, 1) := by decide +kernel
theorem dX6_source_1 : decode cX6_source 1 = .ok (.iload_n 1, 1) := by decide +kernel
theorem dX6_source_2 : decode cX6_source 2 = .ok (.iload_n 2, 1) := by decide +kernel
theorem dX6_source_3 : decode cX6_source 3 = .ok (.invokevirtual 183, 3) := by decide +kernel
theorem dX6_source_6 : decode cX6_source 6 = .ok (.istore 4, 2) := by decide +kernel
theorem dX6_source_8 : decode cX6_source 8 = .ok (.aload_n 0, 1) := by decide +kernel
theorem dX6_source_9 : decode cX6_source 9 = .ok (.getfield 44, 3) := by decide +kernel
theorem dX6_source_12 : decode cX6_source 12 = .ok (.aload_n 0, 1) := by decide +kernel
theorem dX6_source_13 : decode cX6_source 13 = .ok (.getfield 12, 3) := by decide +kernel
theorem dX6_source_16 : decode cX6_source 16 = .ok (.iload 4, 2) := by decide +kernel
theorem dX6_source_18 : decode cX6_source 18 = .ok (.invokevirtual 189, 3) := by decide +kernel
theorem dX6_source_21 : decode cX6_source 21 = .ok (.aload_n 0, 1) := by decide +kernel
theorem dX6_source_22 : decode cX6_source 22 = .ok (.getfield 44, 3) := by decide +kernel
theorem dX6_source_25 : decode cX6_source 25 = .ok (.iload 4, 2) := by decide +kernel
theorem dX6_source_27 : decode cX6_source 27 = .ok (.invokevirtual 193, 3) := by decide +kernel
theorem dX6_source_30 : decode cX6_source 30 = .ok (.iload_n 3, 1) := by decide +kernel
theorem dX6_source_31 : decode cX6_source 31 = .ok (.invokestatic 169, 3) := by decide +kernel
theorem dX6_source_34 : decode cX6_source 34 = .ok (.ireturn, 1) := by decide +kernel
abbrev mX6_source : KM := (RX6, cX6_source, 5, (some .int), { frames := 7, cells := 0, slots := 0, locals := 112 }, 0, 0)
def fX6_source (a1 : Int32) (a2 : Int32) (a3 : Int32) (σ : Sto) : Option KP :=
  (fX6_neededPictureCell a1 a2 σ).bind fun r1 =>
  if r1.1 = 0 then
    (fX3_trace 7 25 r1.2 σ).bind fun r4 =>
    (fX3_sourceOf 7 r1.2 r4).bind fun r7 =>
    some (0, (fX6_told r7 a3), r4)
  else some (r1.1, 0, σ)
set_option maxHeartbeats 4000000 in
set_option maxRecDepth 100000 in
theorem tX6_source (sh : KSh) (hk : KAG sh) (l : Launch) (hst : l.stackTraces = false) (a1 : Int32) (a2 : Int32) (a3 : Int32) (σ : Sto) (r : KP) (h : fX6_source a1 a2 a3 σ = some r) (hnt : r.1 = 0) : CT sh l mX6_source yX6_source [.ref 0, .int a1, .int a2, .int a3] σ (r.1, .int r.2.1, r.2.2) := by
  refine kct [(0, .ref 0), (1, .int a1), (2, .int a2), (3, .int a3)] hst (by decide +kernel) rfl rfl (Nat.le_of_ble_eq_true rfl) ?_
  rw [fX6_source] at h
  refine kv_aload_n (pc := 0) 0 dX6_source_0 rfl rfl ?_
  refine kv_iload_n (pc := 1) 1 dX6_source_1 rfl rfl ?_
  refine kv_iload_n (pc := 2) 2 dX6_source_2 rfl rfl ?_
  refine kv_cVn (pc := 3) [.int a1, .int a2] (fun r1 => (r1.1, .int r1.2, σ)) (fun r1 => (.int r1.2 :: [])) (fun r1 => σ) 6 0 0 h (fun r1 g2 hnt => tX6_neededPictureCell sh hk l hst a1 a2 σ r1 g2 hnt) dX6_source_3 rfl (ks_0 hk) rfl yw_X6_neededPictureCell lk_X6_183 (by decide) (Nat.le_of_ble_eq_true rfl) (by decide) (fun _ => rfl) (fun _ => rfl) ⟨rfl, rfl, rfl⟩ (fun r h => Decidable.byContradiction (fun h9 => by rw [if_neg h9] at h; cases h; exact h9 hnt)) (fun r1 g2 z3 h => ?_)
  rw [if_pos z3] at h
  refine kv_istore (pc := 6) [(4, .int r1.2), (0, .ref 0), (1, .int a1), (2, .int a2), (3, .int a3)] dX6_source_6 (by decide) rfl ?_
  refine kv_aload_n (pc := 8) 1 dX6_source_8 rfl rfl ?_
  refine kv_getR (pc := 9) (q2 := 7) dX6_source_9 (ks_0 hk) rfl (i := 9) (by decide) rfl fl_X6_44 rfl rfl ?_
  refine kv_aload_n (pc := 12) 1 dX6_source_12 rfl rfl ?_
  refine kv_getR (pc := 13) (q2 := 25) dX6_source_13 (ks_0 hk) rfl (i := 0) (by decide) rfl fl_X6_12 rfl rfl ?_
  refine kv_iload (pc := 16) 0 dX6_source_16 rfl ?_
  refine kv_cV (pc := 18) [.ref 25, .int r1.2] (fun r4 => (0, .int 0, r4)) (fun r4 => []) (fun r4 => r4) 21 0 0 h (fun r4 g5 => tX3_trace sh (kwf_of hk) l hst 7 (ks_7 hk) 25 (ks_25 hk) r1.2 σ r4 g5) dX6_source_18 rfl (ks_7 hk) rfl yw_X3_trace lk_X6_189 (by decide) (Nat.le_of_ble_eq_true rfl) (by decide) (fun _ => rfl) (fun _ => rfl) ⟨rfl, rfl, rfl⟩ (fun _ _ h0 => absurd rfl h0) (fun r4 g5 z6 h => ?_)
  refine kv_aload_n (pc := 21) 1 dX6_source_21 rfl rfl ?_
  refine kv_getR (pc := 22) (q2 := 7) dX6_source_22 (ks_0 hk) rfl (i := 9) (by decide) rfl fl_X6_44 rfl rfl ?_
  refine kv_iload (pc := 25) 0 dX6_source_25 rfl ?_
  refine kv_cV (pc := 27) [.int r1.2] (fun r7 => (0, .int r7, r4)) (fun r7 => (.int r7 :: [])) (fun r7 => r4) 30 0 0 h (fun r7 g8 => tX3_sourceOf sh (kwf_of hk) l hst 7 (ks_7 hk) r1.2 r4 r7 g8) dX6_source_27 rfl (ks_7 hk) rfl yw_X3_sourceOf lk_X6_193 (by decide) (Nat.le_of_ble_eq_true rfl) (by decide) (fun _ => rfl) (fun _ => rfl) ⟨rfl, rfl, rfl⟩ (fun _ _ h0 => absurd rfl h0) (fun r7 g8 z9 h => ?_)
  refine kv_iload_n (pc := 30) 4 dX6_source_30 rfl rfl ?_
  refine kv_tS (pc := 31) (v := .int (fX6_told r7 a3)) [.int r7, .int a3] (.int (fX6_told r7 a3) :: []) 34 0 0 (tX6_told sh hk l hst r7 a3 r4) dX6_source_31 rfl yw_X6_told lk_X6_169 (by decide) (Nat.le_of_ble_eq_true rfl) (by decide) rfl ⟨rfl, rfl, rfl⟩ ?_
  exact kv_iret (pc := 34) dX6_source_34 rfl (by cases h; rfl) (by decide) (by decide)
theorem yw_X6_source : KMV yX6_source mX6_source RX6 3 := ⟨⟨rfl, by decide +kernel, by decide +kernel, by decide +kernel⟩, ⟨rfl, rfl⟩, kg_in 922 (by decide +kernel) (by decide +kernel), kg_in 923 (by decide +kernel) (by decide +kernel), kg_in 47 (by decide +kernel) (by decide +kernel), kg_in 924 (by decide +kernel) (by decide +kernel)⟩
theorem dX6_images_0 : decode cX6_images 0 = .ok (.aload_n 0, 1) := by decide +kernel
theorem dX6_images_1 : decode cX6_images 1 = .ok (.iload_n 1, 1) := by decide +kernel
theorem dX6_images_2 : decode cX6_images 2 = .ok (.iload_n 2, 1) := by decide +kernel
theorem dX6_images_3 : decode cX6_images 3 = .ok (.invokevirtual 176, 3) := by decide +kernel
theorem dX6_images_6 : decode cX6_images 6 = .ok (.istore_n 3, 1) := by decide +kernel
theorem dX6_images_7 : decode cX6_images 7 = .ok (.aload_n 0, 1) := by decide +kernel
theorem dX6_images_8 : decode cX6_images 8 = .ok (.getfield 44, 3) := by decide +kernel
theorem dX6_images_11 : decode cX6_images 11 = .ok (.aload_n 0, 1) := by decide +kernel
theorem dX6_images_12 : decode cX6_images 12 = .ok (.getfield 12, 3) := by decide +kernel
theorem dX6_images_15 : decode cX6_images 15 = .ok (.invokevirtual 206, 3) := by decide +kernel
theorem dX6_images_18 : decode cX6_images 18 = .ok (.aload_n 0, 1) := by decide +kernel
theorem dX6_images_19 : decode cX6_images 19 = .ok (.getfield 44, 3) := by decide +kernel
theorem dX6_images_22 : decode cX6_images 22 = .ok (.iload_n 3, 1) := by decide +kernel
theorem dX6_images_23 : decode cX6_images 23 = .ok (.invokevirtual 209, 3) := by decide +kernel
theorem dX6_images_26 : decode cX6_images 26 = .ok (.ireturn, 1) := by decide +kernel
abbrev mX6_images : KM := (RX6, cX6_images, 4, (some .int), { frames := 7, cells := 0, slots := 0, locals := 115 }, 0, 0)
def fX6_images (a1 : Int32) (a2 : Int32) (σ : Sto) : Option KP :=
  (fX6_neededBoxCell a1 a2 σ).bind fun r1 =>
  if r1.1 = 0 then
    (fX3_look 7 25 σ).bind fun r4 =>
    (fX3_imagesOf 7 r1.2 r4).bind fun r7 =>
    some (0, r7, r4)
  else some (r1.1, 0, σ)
set_option maxHeartbeats 4000000 in
set_option maxRecDepth 100000 in
theorem tX6_images (sh : KSh) (hk : KAG sh) (l : Launch) (hst : l.stackTraces = false) (a1 : Int32) (a2 : Int32) (σ : Sto) (r : KP) (h : fX6_images a1 a2 σ = some r) (hnt : r.1 = 0) : CT sh l mX6_images yX6_images [.ref 0, .int a1, .int a2] σ (r.1, .int r.2.1, r.2.2) := by
  refine kct [(0, .ref 0), (1, .int a1), (2, .int a2)] hst (by decide +kernel) rfl rfl (Nat.le_of_ble_eq_true rfl) ?_
  rw [fX6_images] at h
  refine kv_aload_n (pc := 0) 0 dX6_images_0 rfl rfl ?_
  refine kv_iload_n (pc := 1) 1 dX6_images_1 rfl rfl ?_
  refine kv_iload_n (pc := 2) 2 dX6_images_2 rfl rfl ?_
  refine kv_cVn (pc := 3) [.int a1, .int a2] (fun r1 => (r1.1, .int r1.2, σ)) (fun r1 => (.int r1.2 :: [])) (fun r1 => σ) 6 0 0 h (fun r1 g2 hnt => tX6_neededBoxCell sh hk l hst a1 a2 σ r1 g2 hnt) dX6_images_3 rfl (ks_0 hk) rfl yw_X6_neededBoxCell lk_X6_176 (by decide) (Nat.le_of_ble_eq_true rfl) (by decide) (fun _ => rfl) (fun _ => rfl) ⟨rfl, rfl, rfl⟩ (fun r h => Decidable.byContradiction (fun h9 => by rw [if_neg h9] at h; cases h; exact h9 hnt)) (fun r1 g2 z3 h => ?_)
  rw [if_pos z3] at h
  refine kv_istore_n (pc := 6) [(3, .int r1.2), (0, .ref 0), (1, .int a1), (2, .int a2)] dX6_images_6 rfl (by decide) rfl ?_
  refine kv_aload_n (pc := 7) 1 dX6_images_7 rfl rfl ?_
  refine kv_getR (pc := 8) (q2 := 7) dX6_images_8 (ks_0 hk) rfl (i := 9) (by decide) rfl fl_X6_44 rfl rfl ?_
  refine kv_aload_n (pc := 11) 1 dX6_images_11 rfl rfl ?_
  refine kv_getR (pc := 12) (q2 := 25) dX6_images_12 (ks_0 hk) rfl (i := 0) (by decide) rfl fl_X6_12 rfl rfl ?_
  refine kv_cV (pc := 15) [.ref 25] (fun r4 => (0, .int 0, r4)) (fun r4 => []) (fun r4 => r4) 18 0 0 h (fun r4 g5 => tX3_look sh (kwf_of hk) l hst 7 (ks_7 hk) 25 (ks_25 hk) σ r4 g5) dX6_images_15 rfl (ks_7 hk) rfl yw_X3_look lk_X6_206 (by decide) (Nat.le_of_ble_eq_true rfl) (by decide) (fun _ => rfl) (fun _ => rfl) ⟨rfl, rfl, rfl⟩ (fun _ _ h0 => absurd rfl h0) (fun r4 g5 z6 h => ?_)
  refine kv_aload_n (pc := 18) 1 dX6_images_18 rfl rfl ?_
  refine kv_getR (pc := 19) (q2 := 7) dX6_images_19 (ks_0 hk) rfl (i := 9) (by decide) rfl fl_X6_44 rfl rfl ?_
  refine kv_iload_n (pc := 22) 0 dX6_images_22 rfl rfl ?_
  refine kv_cV (pc := 23) [.int r1.2] (fun r7 => (0, .int r7, r4)) (fun r7 => (.int r7 :: [])) (fun r7 => r4) 26 0 0 h (fun r7 g8 => tX3_imagesOf sh (kwf_of hk) l hst 7 (ks_7 hk) r1.2 r4 r7 g8) dX6_images_23 rfl (ks_7 hk) rfl yw_X3_imagesOf lk_X6_209 (by decide) (Nat.le_of_ble_eq_true rfl) (by decide) (fun _ => rfl) (fun _ => rfl) ⟨rfl, rfl, rfl⟩ (fun _ _ h0 => absurd rfl h0) (fun r7 g8 z9 h => ?_)
  exact kv_iret (pc := 26) dX6_images_26 rfl (by cases h; rfl) (by decide) (by decide)
theorem yw_X6_images : KMV yX6_images mX6_images RX6 2 := ⟨⟨rfl, by decide +kernel, by decide +kernel, by decide +kernel⟩, ⟨rfl, rfl⟩, kg_in 969 (by decide +kernel) (by decide +kernel), kg_in 970 (by decide +kernel) (by decide +kernel), kg_in 47 (by decide +kernel) (by decide +kernel), kg_in 971 (by decide +kernel) (by decide +kernel)⟩
theorem dX6_cellsNow_0 : decode cX6_cellsNow 0 = .ok (.aload_n 0, 1) := by decide +kernel
theorem dX6_cellsNow_1 : decode cX6_cellsNow 1 = .ok (.getfield 44, 3) := by decide +kernel
theorem dX6_cellsNow_4 : decode cX6_cellsNow 4 = .ok (.aload_n 0, 1) := by decide +kernel
theorem dX6_cellsNow_5 : decode cX6_cellsNow 5 = .ok (.getfield 12, 3) := by decide +kernel
theorem dX6_cellsNow_8 : decode cX6_cellsNow 8 = .ok (.invokevirtual 206, 3) := by decide +kernel
theorem dX6_cellsNow_11 : decode cX6_cellsNow 11 = .ok (.aload_n 0, 1) := by decide +kernel
theorem dX6_cellsNow_12 : decode cX6_cellsNow 12 = .ok (.getfield 44, 3) := by decide +kernel
theorem dX6_cellsNow_15 : decode cX6_cellsNow 15 = .ok (.iload_n 1, 1) := by decide +kernel
theorem dX6_cellsNow_16 : decode cX6_cellsNow 16 = .ok (.invokevirtual 305, 3) := by decide +kernel
theorem dX6_cellsNow_19 : decode cX6_cellsNow 19 = .ok (.ireturn, 1) := by decide +kernel
abbrev mX6_cellsNow : KM := (RX6, cX6_cellsNow, 2, (some .int), { frames := 5, cells := 0, slots := 0, locals := 115 }, 0, 0)
def fX6_cellsNow (a1 : Int32) (σ : Sto) : Option (Int32 × Sto) :=
  (fX3_look 7 25 σ).bind fun r1 =>
  (fX3_countColour 7 a1 r1).bind fun r4 =>
  some (r4, r1)
set_option maxHeartbeats 4000000 in
set_option maxRecDepth 100000 in
theorem tX6_cellsNow (sh : KSh) (hk : KAG sh) (l : Launch) (hst : l.stackTraces = false) (a1 : Int32) (σ : Sto) (r : (Int32 × Sto)) (h : fX6_cellsNow a1 σ = some r) : CT sh l mX6_cellsNow yX6_cellsNow [.ref 0, .int a1] σ (0, .int r.1, r.2) := by
  refine kct [(0, .ref 0), (1, .int a1)] hst (by decide +kernel) rfl rfl (Nat.le_of_ble_eq_true rfl) ?_
  rw [fX6_cellsNow] at h
  refine kv_aload_n (pc := 0) 0 dX6_cellsNow_0 rfl rfl ?_
  refine kv_getR (pc := 1) (q2 := 7) dX6_cellsNow_1 (ks_0 hk) rfl (i := 9) (by decide) rfl fl_X6_44 rfl rfl ?_
  refine kv_aload_n (pc := 4) 0 dX6_cellsNow_4 rfl rfl ?_
  refine kv_getR (pc := 5) (q2 := 25) dX6_cellsNow_5 (ks_0 hk) rfl (i := 0) (by decide) rfl fl_X6_12 rfl rfl ?_
  refine kv_cV (pc := 8) [.ref 25] (fun r1 => (0, .int 0, r1)) (fun r1 => []) (fun r1 => r1) 11 0 0 h (fun r1 g2 => tX3_look sh (kwf_of hk) l hst 7 (ks_7 hk) 25 (ks_25 hk) σ r1 g2) dX6_cellsNow_8 rfl (ks_7 hk) rfl yw_X3_look lk_X6_206 (by decide) (Nat.le_of_ble_eq_true rfl) (by decide) (fun _ => rfl) (fun _ => rfl) ⟨rfl, rfl, rfl⟩ (fun _ _ h0 => absurd rfl h0) (fun r1 g2 z3 h => ?_)
  refine kv_aload_n (pc := 11) 0 dX6_cellsNow_11 rfl rfl ?_
  refine kv_getR (pc := 12) (q2 := 7) dX6_cellsNow_12 (ks_0 hk) rfl (i := 9) (by decide) rfl fl_X6_44 rfl rfl ?_
  refine kv_iload_n (pc := 15) 1 dX6_cellsNow_15 rfl rfl ?_
  refine kv_cV (pc := 16) [.int a1] (fun r4 => (0, .int r4, r1)) (fun r4 => (.int r4 :: [])) (fun r4 => r1) 19 0 0 h (fun r4 g5 => tX3_countColour sh (kwf_of hk) l hst 7 (ks_7 hk) a1 r1 r4 g5) dX6_cellsNow_16 rfl (ks_7 hk) rfl yw_X3_countColour lk_X6_305 (by decide) (Nat.le_of_ble_eq_true rfl) (by decide) (fun _ => rfl) (fun _ => rfl) ⟨rfl, rfl, rfl⟩ (fun _ _ h0 => absurd rfl h0) (fun r4 g5 z6 h => ?_)
  exact kv_iret (pc := 19) dX6_cellsNow_19 rfl (by cases h; rfl) (by decide) (by decide)
theorem yw_X6_cellsNow : KMV yX6_cellsNow mX6_cellsNow RX6 1 := ⟨⟨rfl, by decide +kernel, by decide +kernel, by decide +kernel⟩, ⟨rfl, rfl⟩, kg_in 991 (by decide +kernel) (by decide +kernel), kg_in 36 (by decide +kernel) (by decide +kernel), kg_in 47 (by decide +kernel) (by decide +kernel), kg_in 992 (by decide +kernel) (by decide +kernel)⟩
theorem dX6_cellsOf_0 : decode cX6_cellsOf 0 = .ok (.iload_n 1, 1) := by decide +kernel
theorem dX6_cellsOf_1 : decode cX6_cellsOf 1 = .ok (.iconst 0, 1) := by decide +kernel
theorem dX6_cellsOf_2 : decode cX6_cellsOf 2 = .ok (.bipush 9, 2) := by decide +kernel
theorem dX6_cellsOf_4 : decode cX6_cellsOf 4 = .ok (.invokestatic 80, 3) := by decide +kernel
theorem dX6_cellsOf_7 : decode cX6_cellsOf 7 = .ok (.aload_n 0, 1) := by decide +kernel
theorem dX6_cellsOf_8 : decode cX6_cellsOf 8 = .ok (.iload_n 1, 1) := by decide +kernel
theorem dX6_cellsOf_9 : decode cX6_cellsOf 9 = .ok (.invokevirtual 212, 3) := by decide +kernel
theorem dX6_cellsOf_12 : decode cX6_cellsOf 12 = .ok (.ireturn, 1) := by decide +kernel
abbrev mX6_cellsOf : KM := (RX6, cX6_cellsOf, 2, (some .int), { frames := 7, cells := 0, slots := 0, locals := 136 }, 0, 0)
def fX6_cellsOf (a1 : Int32) (σ : Sto) : Option KP :=
  (fX6_needRange a1 0 9 σ).bind fun r1 =>
  if r1 = 0 then
    (fX6_cellsNow a1 σ).bind fun r4 =>
    some (0, r4.1, r4.2)
  else some (r1, 0, σ)
set_option maxHeartbeats 4000000 in
set_option maxRecDepth 100000 in
theorem tX6_cellsOf (sh : KSh) (hk : KAG sh) (l : Launch) (hst : l.stackTraces = false) (a1 : Int32) (σ : Sto) (r : KP) (h : fX6_cellsOf a1 σ = some r) (hnt : r.1 = 0) : CT sh l mX6_cellsOf yX6_cellsOf [.ref 0, .int a1] σ (r.1, .int r.2.1, r.2.2) := by
  refine kct [(0, .ref 0), (1, .int a1)] hst (by decide +kernel) rfl rfl (Nat.le_of_ble_eq_true rfl) ?_
  rw [fX6_cellsOf] at h
  refine kv_iload_n (pc := 0) 1 dX6_cellsOf_0 rfl rfl ?_
  refine kv_iconst (pc := 1) (v := 0) dX6_cellsOf_1 (by decide) ?_
  refine kv_bipush (pc := 2) (v := 9) dX6_cellsOf_2 (by decide) ?_
  refine kv_cSn (pc := 4) [.int a1, .int 0, .int 9] (fun r1 => (r1, .int 0, σ)) (fun r1 => []) (fun r1 => σ) 7 0 0 h (fun r1 g2 hnt => tX6_needRange sh hk l hst a1 0 9 σ r1 g2 hnt) dX6_cellsOf_4 rfl yw_X6_needRange lk_X6_80 (by decide) (Nat.le_of_ble_eq_true rfl) (by decide) (fun _ => rfl) (fun _ => rfl) ⟨rfl, rfl, rfl⟩ (fun r h => Decidable.byContradiction (fun h9 => by rw [if_neg h9] at h; cases h; exact h9 hnt)) (fun r1 g2 z3 h => ?_)
  rw [if_pos z3] at h
  refine kv_aload_n (pc := 7) 0 dX6_cellsOf_7 rfl rfl ?_
  refine kv_iload_n (pc := 8) 1 dX6_cellsOf_8 rfl rfl ?_
  refine kv_cV (pc := 9) [.int a1] (fun r4 => (0, .int r4.1, r4.2)) (fun r4 => (.int r4.1 :: [])) (fun r4 => r4.2) 12 0 0 h (fun r4 g5 => tX6_cellsNow sh hk l hst a1 σ r4 g5) dX6_cellsOf_9 rfl (ks_0 hk) rfl yw_X6_cellsNow lk_X6_212 (by decide) (Nat.le_of_ble_eq_true rfl) (by decide) (fun _ => rfl) (fun _ => rfl) ⟨rfl, rfl, rfl⟩ (fun _ _ h0 => absurd rfl h0) (fun r4 g5 z6 h => ?_)
  exact kv_iret (pc := 12) dX6_cellsOf_12 rfl (by cases h; rfl) (by decide) (by decide)
theorem yw_X6_cellsOf : KMV yX6_cellsOf mX6_cellsOf RX6 1 := ⟨⟨rfl, by decide +kernel, by decide +kernel, by decide +kernel⟩, ⟨rfl, rfl⟩, kg_in 986 (by decide +kernel) (by decide +kernel), kg_in 987 (by decide +kernel) (by decide +kernel), kg_in 47 (by decide +kernel) (by decide +kernel), kg_in 988 (by decide +kernel) (by decide +kernel)⟩
theorem dX6_commonest_0 : decode cX6_commonest 0 = .ok (.iload_n 1, 1) := by decide +kernel
theorem dX6_commonest_1 : decode cX6_commonest 1 = .ok (.iconst 0, 1) := by decide +kernel
theorem dX6_commonest_2 : decode cX6_commonest 2 = .ok (.bipush 8, 2) := by decide +kernel
theorem dX6_commonest_4 : decode cX6_commonest 4 = .ok (.invokestatic 80, 3) := by decide +kernel
theorem dX6_commonest_7 : decode cX6_commonest 7 = .ok (.aload_n 0, 1) := by decide +kernel
theorem dX6_commonest_8 : decode cX6_commonest 8 = .ok (.getfield 44, 3) := by decide +kernel
theorem dX6_commonest_11 : decode cX6_commonest 11 = .ok (.aload_n 0, 1) := by decide +kernel
theorem dX6_commonest_12 : decode cX6_commonest 12 = .ok (.getfield 12, 3) := by decide +kernel
theorem dX6_commonest_15 : decode cX6_commonest 15 = .ok (.invokevirtual 206, 3) := by decide +kernel
theorem dX6_commonest_18 : decode cX6_commonest 18 = .ok (.aload_n 0, 1) := by decide +kernel
theorem dX6_commonest_19 : decode cX6_commonest 19 = .ok (.getfield 44, 3) := by decide +kernel
theorem dX6_commonest_22 : decode cX6_commonest 22 = .ok (.iload_n 1, 1) := by decide +kernel
theorem dX6_commonest_23 : decode cX6_commonest 23 = .ok (.invokevirtual 215, 3) := by decide +kernel
theorem dX6_commonest_26 : decode cX6_commonest 26 = .ok (.ireturn, 1) := by decide +kernel
abbrev mX6_commonest : KM := (RX6, cX6_commonest, 2, (some .int), { frames := 7, cells := 0, slots := 0, locals := 115 }, 0, 0)
def fX6_commonest (a1 : Int32) (σ : Sto) : Option KP :=
  (fX6_needRange a1 0 8 σ).bind fun r1 =>
  if r1 = 0 then
    (fX3_look 7 25 σ).bind fun r4 =>
    (fX3_commonestColour 7 a1 r4).bind fun r7 =>
    some (0, r7, r4)
  else some (r1, 0, σ)
set_option maxHeartbeats 4000000 in
set_option maxRecDepth 100000 in
theorem tX6_commonest (sh : KSh) (hk : KAG sh) (l : Launch) (hst : l.stackTraces = false) (a1 : Int32) (σ : Sto) (r : KP) (h : fX6_commonest a1 σ = some r) (hnt : r.1 = 0) : CT sh l mX6_commonest yX6_commonest [.ref 0, .int a1] σ (r.1, .int r.2.1, r.2.2) := by
  refine kct [(0, .ref 0), (1, .int a1)] hst (by decide +kernel) rfl rfl (Nat.le_of_ble_eq_true rfl) ?_
  rw [fX6_commonest] at h
  refine kv_iload_n (pc := 0) 1 dX6_commonest_0 rfl rfl ?_
  refine kv_iconst (pc := 1) (v := 0) dX6_commonest_1 (by decide) ?_
  refine kv_bipush (pc := 2) (v := 8) dX6_commonest_2 (by decide) ?_
  refine kv_cSn (pc := 4) [.int a1, .int 0, .int 8] (fun r1 => (r1, .int 0, σ)) (fun r1 => []) (fun r1 => σ) 7 0 0 h (fun r1 g2 hnt => tX6_needRange sh hk l hst a1 0 8 σ r1 g2 hnt) dX6_commonest_4 rfl yw_X6_needRange lk_X6_80 (by decide) (Nat.le_of_ble_eq_true rfl) (by decide) (fun _ => rfl) (fun _ => rfl) ⟨rfl, rfl, rfl⟩ (fun r h => Decidable.byContradiction (fun h9 => by rw [if_neg h9] at h; cases h; exact h9 hnt)) (fun r1 g2 z3 h => ?_)
  rw [if_pos z3] at h
  refine kv_aload_n (pc := 7) 0 dX6_commonest_7 rfl rfl ?_
  refine kv_getR (pc := 8) (q2 := 7) dX6_commonest_8 (ks_0 hk) rfl (i := 9) (by decide) rfl fl_X6_44 rfl rfl ?_
  refine kv_aload_n (pc := 11) 0 dX6_commonest_11 rfl rfl ?_
  refine kv_getR (pc := 12) (q2 := 25) dX6_commonest_12 (ks_0 hk) rfl (i := 0) (by decide) rfl fl_X6_12 rfl rfl ?_
  refine kv_cV (pc := 15) [.ref 25] (fun r4 => (0, .int 0, r4)) (fun r4 => []) (fun r4 => r4) 18 0 0 h (fun r4 g5 => tX3_look sh (kwf_of hk) l hst 7 (ks_7 hk) 25 (ks_25 hk) σ r4 g5) dX6_commonest_15 rfl (ks_7 hk) rfl yw_X3_look lk_X6_206 (by decide) (Nat.le_of_ble_eq_true rfl) (by decide) (fun _ => rfl) (fun _ => rfl) ⟨rfl, rfl, rfl⟩ (fun _ _ h0 => absurd rfl h0) (fun r4 g5 z6 h => ?_)
  refine kv_aload_n (pc := 18) 0 dX6_commonest_18 rfl rfl ?_
  refine kv_getR (pc := 19) (q2 := 7) dX6_commonest_19 (ks_0 hk) rfl (i := 9) (by decide) rfl fl_X6_44 rfl rfl ?_
  refine kv_iload_n (pc := 22) 1 dX6_commonest_22 rfl rfl ?_
  refine kv_cV (pc := 23) [.int a1] (fun r7 => (0, .int r7, r4)) (fun r7 => (.int r7 :: [])) (fun r7 => r4) 26 0 0 h (fun r7 g8 => tX3_commonestColour sh (kwf_of hk) l hst 7 (ks_7 hk) a1 r4 r7 g8) dX6_commonest_23 rfl (ks_7 hk) rfl yw_X3_commonestColour lk_X6_215 (by decide) (Nat.le_of_ble_eq_true rfl) (by decide) (fun _ => rfl) (fun _ => rfl) ⟨rfl, rfl, rfl⟩ (fun _ _ h0 => absurd rfl h0) (fun r7 g8 z9 h => ?_)
  exact kv_iret (pc := 26) dX6_commonest_26 rfl (by cases h; rfl) (by decide) (by decide)
theorem yw_X6_commonest : KMV yX6_commonest mX6_commonest RX6 1 := ⟨⟨rfl, by decide +kernel, by decide +kernel, by decide +kernel⟩, ⟨rfl, rfl⟩, kg_in 686 (by decide +kernel) (by decide +kernel), kg_in 687 (by decide +kernel) (by decide +kernel), kg_in 47 (by decide +kernel) (by decide +kernel), kg_in 688 (by decide +kernel) (by decide +kernel)⟩
theorem dX6_regions_0 : decode cX6_regions 0 = .ok (.iload_n 1, 1) := by decide +kernel
theorem dX6_regions_1 : decode cX6_regions 1 = .ok (.iconst 0, 1) := by decide +kernel
theorem dX6_regions_2 : decode cX6_regions 2 = .ok (.bipush 9, 2) := by decide +kernel
theorem dX6_regions_4 : decode cX6_regions 4 = .ok (.invokestatic 80, 3) := by decide +kernel
theorem dX6_regions_7 : decode cX6_regions 7 = .ok (.aload_n 0, 1) := by decide +kernel
theorem dX6_regions_8 : decode cX6_regions 8 = .ok (.getfield 44, 3) := by decide +kernel
theorem dX6_regions_11 : decode cX6_regions 11 = .ok (.aload_n 0, 1) := by decide +kernel
theorem dX6_regions_12 : decode cX6_regions 12 = .ok (.getfield 12, 3) := by decide +kernel
theorem dX6_regions_15 : decode cX6_regions 15 = .ok (.invokevirtual 206, 3) := by decide +kernel
theorem dX6_regions_18 : decode cX6_regions 18 = .ok (.aload_n 0, 1) := by decide +kernel
theorem dX6_regions_19 : decode cX6_regions 19 = .ok (.getfield 44, 3) := by decide +kernel
theorem dX6_regions_22 : decode cX6_regions 22 = .ok (.aload_n 0, 1) := by decide +kernel
theorem dX6_regions_23 : decode cX6_regions 23 = .ok (.getfield 12, 3) := by decide +kernel
theorem dX6_regions_26 : decode cX6_regions 26 = .ok (.getfield 104, 3) := by decide +kernel
theorem dX6_regions_29 : decode cX6_regions 29 = .ok (.iload_n 1, 1) := by decide +kernel
theorem dX6_regions_30 : decode cX6_regions 30 = .ok (.invokevirtual 218, 3) := by decide +kernel
theorem dX6_regions_33 : decode cX6_regions 33 = .ok (.ireturn, 1) := by decide +kernel
abbrev mX6_regions : KM := (RX6, cX6_regions, 2, (some .int), { frames := 7, cells := 0, slots := 0, locals := 119 }, 0, 0)
def fX6_regions (a1 : Int32) (σ : Sto) : Option KP :=
  (fX6_needRange a1 0 9 σ).bind fun r1 =>
  if r1 = 0 then
    (fX3_look 7 25 σ).bind fun r4 =>
    (fX3_countRegions 7 26 a1 r4).bind fun r7 =>
    some (0, r7.1, r7.2)
  else some (r1, 0, σ)
set_option maxHeartbeats 4000000 in
set_option maxRecDepth 100000 in
theorem tX6_regions (sh : KSh) (hk : KAG sh) (l : Launch) (hst : l.stackTraces = false) (a1 : Int32) (σ : Sto) (r : KP) (h : fX6_regions a1 σ = some r) (hnt : r.1 = 0) : CT sh l mX6_regions yX6_regions [.ref 0, .int a1] σ (r.1, .int r.2.1, r.2.2) := by
  refine kct [(0, .ref 0), (1, .int a1)] hst (by decide +kernel) rfl rfl (Nat.le_of_ble_eq_true rfl) ?_
  rw [fX6_regions] at h
  refine kv_iload_n (pc := 0) 1 dX6_regions_0 rfl rfl ?_
  refine kv_iconst (pc := 1) (v := 0) dX6_regions_1 (by decide) ?_
  refine kv_bipush (pc := 2) (v := 9) dX6_regions_2 (by decide) ?_
  refine kv_cSn (pc := 4) [.int a1, .int 0, .int 9] (fun r1 => (r1, .int 0, σ)) (fun r1 => []) (fun r1 => σ) 7 0 0 h (fun r1 g2 hnt => tX6_needRange sh hk l hst a1 0 9 σ r1 g2 hnt) dX6_regions_4 rfl yw_X6_needRange lk_X6_80 (by decide) (Nat.le_of_ble_eq_true rfl) (by decide) (fun _ => rfl) (fun _ => rfl) ⟨rfl, rfl, rfl⟩ (fun r h => Decidable.byContradiction (fun h9 => by rw [if_neg h9] at h; cases h; exact h9 hnt)) (fun r1 g2 z3 h => ?_)
  rw [if_pos z3] at h
  refine kv_aload_n (pc := 7) 0 dX6_regions_7 rfl rfl ?_
  refine kv_getR (pc := 8) (q2 := 7) dX6_regions_8 (ks_0 hk) rfl (i := 9) (by decide) rfl fl_X6_44 rfl rfl ?_
  refine kv_aload_n (pc := 11) 0 dX6_regions_11 rfl rfl ?_
  refine kv_getR (pc := 12) (q2 := 25) dX6_regions_12 (ks_0 hk) rfl (i := 0) (by decide) rfl fl_X6_12 rfl rfl ?_
  refine kv_cV (pc := 15) [.ref 25] (fun r4 => (0, .int 0, r4)) (fun r4 => []) (fun r4 => r4) 18 0 0 h (fun r4 g5 => tX3_look sh (kwf_of hk) l hst 7 (ks_7 hk) 25 (ks_25 hk) σ r4 g5) dX6_regions_15 rfl (ks_7 hk) rfl yw_X3_look lk_X6_206 (by decide) (Nat.le_of_ble_eq_true rfl) (by decide) (fun _ => rfl) (fun _ => rfl) ⟨rfl, rfl, rfl⟩ (fun _ _ h0 => absurd rfl h0) (fun r4 g5 z6 h => ?_)
  refine kv_aload_n (pc := 18) 0 dX6_regions_18 rfl rfl ?_
  refine kv_getR (pc := 19) (q2 := 7) dX6_regions_19 (ks_0 hk) rfl (i := 9) (by decide) rfl fl_X6_44 rfl rfl ?_
  refine kv_aload_n (pc := 22) 0 dX6_regions_22 rfl rfl ?_
  refine kv_getR (pc := 23) (q2 := 25) dX6_regions_23 (ks_0 hk) rfl (i := 0) (by decide) rfl fl_X6_12 rfl rfl ?_
  refine kv_getR (pc := 26) (q2 := 26) dX6_regions_26 (ks_25 hk) rfl (i := 0) (by decide) rfl fl_X6_104 rfl rfl ?_
  refine kv_iload_n (pc := 29) 1 dX6_regions_29 rfl rfl ?_
  refine kv_cV (pc := 30) [.ref 26, .int a1] (fun r7 => (0, .int r7.1, r7.2)) (fun r7 => (.int r7.1 :: [])) (fun r7 => r7.2) 33 0 0 h (fun r7 g8 => tX3_countRegions sh (kwf_of hk) l hst 7 (ks_7 hk) 26 (ks_26 hk) a1 r4 r7 g8) dX6_regions_30 rfl (ks_7 hk) rfl yw_X3_countRegions lk_X6_218 (by decide) (Nat.le_of_ble_eq_true rfl) (by decide) (fun _ => rfl) (fun _ => rfl) ⟨rfl, rfl, rfl⟩ (fun _ _ h0 => absurd rfl h0) (fun r7 g8 z9 h => ?_)
  exact kv_iret (pc := 33) dX6_regions_33 rfl (by cases h; rfl) (by decide) (by decide)
theorem yw_X6_regions : KMV yX6_regions mX6_regions RX6 1 := ⟨⟨rfl, by decide +kernel, by decide +kernel, by decide +kernel⟩, ⟨rfl, rfl⟩, kg_in 995 (by decide +kernel) (by decide +kernel), kg_in 996 (by decide +kernel) (by decide +kernel), kg_in 47 (by decide +kernel) (by decide +kernel), kg_in 997 (by decide +kernel) (by decide +kernel)⟩
theorem dX6_edges_0 : decode cX6_edges 0 = .ok (.aload_n 0, 1) := by decide +kernel
theorem dX6_edges_1 : decode cX6_edges 1 = .ok (.getfield 44, 3) := by decide +kernel
theorem dX6_edges_4 : decode cX6_edges 4 = .ok (.aload_n 0, 1) := by decide +kernel
theorem dX6_edges_5 : decode cX6_edges 5 = .ok (.getfield 12, 3) := by decide +kernel
theorem dX6_edges_8 : decode cX6_edges 8 = .ok (.invokevirtual 206, 3) := by decide +kernel
theorem dX6_edges_11 : decode cX6_edges 11 = .ok (.aload_n 0, 1) := by decide +kernel
theorem dX6_edges_12 : decode cX6_edges 12 = .ok (.getfield 44, 3) := by decide +kernel
theorem dX6_edges_15 : decode cX6_edges 15 = .ok (.aload_n 0, 1) := by decide +kernel
theorem dX6_edges_16 : decode cX6_edges 16 = .ok (.getfield 12, 3) := by decide +kernel
theorem dX6_edges_19 : decode cX6_edges 19 = .ok (.getfield 104, 3) := by decide +kernel
theorem dX6_edges_22 : decode cX6_edges 22 = .ok (.invokevirtual 225, 3) := by decide +kernel
theorem dX6_edges_25 : decode cX6_edges 25 = .ok (.ireturn, 1) := by decide +kernel
abbrev mX6_edges : KM := (RX6, cX6_edges, 1, (some .int), { frames := 5, cells := 0, slots := 0, locals := 115 }, 0, 0)
def fX6_edges (σ : Sto) : Option (Int32 × Sto) :=
  (fX3_look 7 25 σ).bind fun r1 =>
  (fX3_countEdges 7 26 r1).bind fun r4 =>
  some (r4, r1)
set_option maxHeartbeats 4000000 in
set_option maxRecDepth 100000 in
theorem tX6_edges (sh : KSh) (hk : KAG sh) (l : Launch) (hst : l.stackTraces = false) (σ : Sto) (r : (Int32 × Sto)) (h : fX6_edges σ = some r) : CT sh l mX6_edges yX6_edges [.ref 0] σ (0, .int r.1, r.2) := by
  refine kct [(0, .ref 0)] hst (by decide +kernel) rfl rfl (Nat.le_of_ble_eq_true rfl) ?_
  rw [fX6_edges] at h
  refine kv_aload_n (pc := 0) 0 dX6_edges_0 rfl rfl ?_
  refine kv_getR (pc := 1) (q2 := 7) dX6_edges_1 (ks_0 hk) rfl (i := 9) (by decide) rfl fl_X6_44 rfl rfl ?_
  refine kv_aload_n (pc := 4) 0 dX6_edges_4 rfl rfl ?_
  refine kv_getR (pc := 5) (q2 := 25) dX6_edges_5 (ks_0 hk) rfl (i := 0) (by decide) rfl fl_X6_12 rfl rfl ?_
  refine kv_cV (pc := 8) [.ref 25] (fun r1 => (0, .int 0, r1)) (fun r1 => []) (fun r1 => r1) 11 0 0 h (fun r1 g2 => tX3_look sh (kwf_of hk) l hst 7 (ks_7 hk) 25 (ks_25 hk) σ r1 g2) dX6_edges_8 rfl (ks_7 hk) rfl yw_X3_look lk_X6_206 (by decide) (Nat.le_of_ble_eq_true rfl) (by decide) (fun _ => rfl) (fun _ => rfl) ⟨rfl, rfl, rfl⟩ (fun _ _ h0 => absurd rfl h0) (fun r1 g2 z3 h => ?_)
  refine kv_aload_n (pc := 11) 0 dX6_edges_11 rfl rfl ?_
  refine kv_getR (pc := 12) (q2 := 7) dX6_edges_12 (ks_0 hk) rfl (i := 9) (by decide) rfl fl_X6_44 rfl rfl ?_
  refine kv_aload_n (pc := 15) 0 dX6_edges_15 rfl rfl ?_
  refine kv_getR (pc := 16) (q2 := 25) dX6_edges_16 (ks_0 hk) rfl (i := 0) (by decide) rfl fl_X6_12 rfl rfl ?_
  refine kv_getR (pc := 19) (q2 := 26) dX6_edges_19 (ks_25 hk) rfl (i := 0) (by decide) rfl fl_X6_104 rfl rfl ?_
  refine kv_cV (pc := 22) [.ref 26] (fun r4 => (0, .int r4, r1)) (fun r4 => (.int r4 :: [])) (fun r4 => r1) 25 0 0 h (fun r4 g5 => tX3_countEdges sh (kwf_of hk) l hst 7 (ks_7 hk) 26 (ks_26 hk) r1 r4 g5) dX6_edges_22 rfl (ks_7 hk) rfl yw_X3_countEdges lk_X6_225 (by decide) (Nat.le_of_ble_eq_true rfl) (by decide) (fun _ => rfl) (fun _ => rfl) ⟨rfl, rfl, rfl⟩ (fun _ _ h0 => absurd rfl h0) (fun r4 g5 z6 h => ?_)
  exact kv_iret (pc := 25) dX6_edges_25 rfl (by cases h; rfl) (by decide) (by decide)
theorem yw_X6_edges : KMV yX6_edges mX6_edges RX6 0 := ⟨⟨rfl, by decide +kernel, by decide +kernel, by decide +kernel⟩, ⟨rfl, rfl⟩, kg_in 702 (by decide +kernel) (by decide +kernel), kg_in 703 (by decide +kernel) (by decide +kernel), kg_in 47 (by decide +kernel) (by decide +kernel), kg_in 704 (by decide +kernel) (by decide +kernel)⟩
theorem dX6_light_0 : decode cX6_light 0 = .ok (.aload_n 0, 1) := by decide +kernel
theorem dX6_light_1 : decode cX6_light 1 = .ok (.getfield 44, 3) := by decide +kernel
theorem dX6_light_4 : decode cX6_light 4 = .ok (.aload_n 0, 1) := by decide +kernel
theorem dX6_light_5 : decode cX6_light 5 = .ok (.getfield 12, 3) := by decide +kernel
theorem dX6_light_8 : decode cX6_light 8 = .ok (.invokevirtual 206, 3) := by decide +kernel
theorem dX6_light_11 : decode cX6_light 11 = .ok (.aload_n 0, 1) := by decide +kernel
theorem dX6_light_12 : decode cX6_light 12 = .ok (.getfield 44, 3) := by decide +kernel
theorem dX6_light_15 : decode cX6_light 15 = .ok (.aload_n 0, 1) := by decide +kernel
theorem dX6_light_16 : decode cX6_light 16 = .ok (.getfield 12, 3) := by decide +kernel
theorem dX6_light_19 : decode cX6_light 19 = .ok (.iconst 1, 1) := by decide +kernel
theorem dX6_light_20 : decode cX6_light 20 = .ok (.invokevirtual 229, 3) := by decide +kernel
theorem dX6_light_23 : decode cX6_light 23 = .ok (.ireturn, 1) := by decide +kernel
abbrev mX6_light : KM := (RX6, cX6_light, 1, (some .int), { frames := 5, cells := 0, slots := 0, locals := 115 }, 0, 0)
def fX6_light (σ : Sto) : Option (Int32 × Sto) :=
  (fX3_look 7 25 σ).bind fun r1 =>
  (fX3_sumOfBrightness 7 25 1 r1).bind fun r4 =>
  some (r4, r1)
set_option maxHeartbeats 4000000 in
set_option maxRecDepth 100000 in
theorem tX6_light (sh : KSh) (hk : KAG sh) (l : Launch) (hst : l.stackTraces = false) (σ : Sto) (r : (Int32 × Sto)) (h : fX6_light σ = some r) : CT sh l mX6_light yX6_light [.ref 0] σ (0, .int r.1, r.2) := by
  refine kct [(0, .ref 0)] hst (by decide +kernel) rfl rfl (Nat.le_of_ble_eq_true rfl) ?_
  rw [fX6_light] at h
  refine kv_aload_n (pc := 0) 0 dX6_light_0 rfl rfl ?_
  refine kv_getR (pc := 1) (q2 := 7) dX6_light_1 (ks_0 hk) rfl (i := 9) (by decide) rfl fl_X6_44 rfl rfl ?_
  refine kv_aload_n (pc := 4) 0 dX6_light_4 rfl rfl ?_
  refine kv_getR (pc := 5) (q2 := 25) dX6_light_5 (ks_0 hk) rfl (i := 0) (by decide) rfl fl_X6_12 rfl rfl ?_
  refine kv_cV (pc := 8) [.ref 25] (fun r1 => (0, .int 0, r1)) (fun r1 => []) (fun r1 => r1) 11 0 0 h (fun r1 g2 => tX3_look sh (kwf_of hk) l hst 7 (ks_7 hk) 25 (ks_25 hk) σ r1 g2) dX6_light_8 rfl (ks_7 hk) rfl yw_X3_look lk_X6_206 (by decide) (Nat.le_of_ble_eq_true rfl) (by decide) (fun _ => rfl) (fun _ => rfl) ⟨rfl, rfl, rfl⟩ (fun _ _ h0 => absurd rfl h0) (fun r1 g2 z3 h => ?_)
  refine kv_aload_n (pc := 11) 0 dX6_light_11 rfl rfl ?_
  refine kv_getR (pc := 12) (q2 := 7) dX6_light_12 (ks_0 hk) rfl (i := 9) (by decide) rfl fl_X6_44 rfl rfl ?_
  refine kv_aload_n (pc := 15) 0 dX6_light_15 rfl rfl ?_
  refine kv_getR (pc := 16) (q2 := 25) dX6_light_16 (ks_0 hk) rfl (i := 0) (by decide) rfl fl_X6_12 rfl rfl ?_
  refine kv_iconst (pc := 19) (v := 1) dX6_light_19 (by decide) ?_
  refine kv_cV (pc := 20) [.ref 25, .int 1] (fun r4 => (0, .int r4, r1)) (fun r4 => (.int r4 :: [])) (fun r4 => r1) 23 0 0 h (fun r4 g5 => tX3_sumOfBrightness sh (kwf_of hk) l hst 7 (ks_7 hk) 25 (ks_25 hk) 1 r1 r4 g5) dX6_light_20 rfl (ks_7 hk) rfl yw_X3_sumOfBrightness lk_X6_229 (by decide) (Nat.le_of_ble_eq_true rfl) (by decide) (fun _ => rfl) (fun _ => rfl) ⟨rfl, rfl, rfl⟩ (fun _ _ h0 => absurd rfl h0) (fun r4 g5 z6 h => ?_)
  exact kv_iret (pc := 23) dX6_light_23 rfl (by cases h; rfl) (by decide) (by decide)
theorem yw_X6_light : KMV yX6_light mX6_light RX6 0 := ⟨⟨rfl, by decide +kernel, by decide +kernel, by decide +kernel⟩, ⟨rfl, rfl⟩, kg_in 977 (by decide +kernel) (by decide +kernel), kg_in 978 (by decide +kernel) (by decide +kernel), kg_in 47 (by decide +kernel) (by decide +kernel), kg_in 979 (by decide +kernel) (by decide +kernel)⟩
theorem dX6_mapsOf_0 : decode cX6_mapsOf 0 = .ok (.iconst 0, 1) := by decide +kernel
theorem dX6_mapsOf_1 : decode cX6_mapsOf 1 = .ok (.istore_n 2, 1) := by decide +kernel
theorem dX6_mapsOf_2 : decode cX6_mapsOf 2 = .ok (.iconst 0, 1) := by decide +kernel
theorem dX6_mapsOf_3 : decode cX6_mapsOf 3 = .ok (.istore_n 3, 1) := by decide +kernel
theorem dX6_mapsOf_4 : decode cX6_mapsOf 4 = .ok (.iload_n 3, 1) := by decide +kernel
theorem dX6_mapsOf_5 : decode cX6_mapsOf 5 = .ok (.aload_n 1, 1) := by decide +kernel
theorem dX6_mapsOf_6 : decode cX6_mapsOf 6 = .ok (.invokevirtual 240, 3) := by decide +kernel
theorem dX6_mapsOf_9 : decode cX6_mapsOf 9 = .ok (.if_icmp .ge 25, 3) := by decide +kernel
theorem dX6_mapsOf_12 : decode cX6_mapsOf 12 = .ok (.aload_n 0, 1) := by decide +kernel
theorem dX6_mapsOf_13 : decode cX6_mapsOf 13 = .ok (.aload_n 0, 1) := by decide +kernel
theorem dX6_mapsOf_14 : decode cX6_mapsOf 14 = .ok (.aload_n 1, 1) := by decide +kernel
theorem dX6_mapsOf_15 : decode cX6_mapsOf 15 = .ok (.iload_n 3, 1) := by decide +kernel
theorem dX6_mapsOf_16 : decode cX6_mapsOf 16 = .ok (.invokevirtual 256, 3) := by decide +kernel
theorem dX6_mapsOf_19 : decode cX6_mapsOf 19 = .ok (.ifCond .eq 9, 3) := by decide +kernel
theorem dX6_mapsOf_22 : decode cX6_mapsOf 22 = .ok (.iload_n 2, 1) := by decide +kernel
theorem dX6_mapsOf_23 : decode cX6_mapsOf 23 = .ok (.iconst 1, 1) := by decide +kernel
theorem dX6_mapsOf_24 : decode cX6_mapsOf 24 = .ok (.iload_n 3, 1) := by decide +kernel
theorem dX6_mapsOf_25 : decode cX6_mapsOf 25 = .ok (.ishl, 1) := by decide +kernel
theorem dX6_mapsOf_26 : decode cX6_mapsOf 26 = .ok (.ior, 1) := by decide +kernel
theorem dX6_mapsOf_27 : decode cX6_mapsOf 27 = .ok (.istore_n 2, 1) := by decide +kernel
theorem dX6_mapsOf_28 : decode cX6_mapsOf 28 = .ok (.iinc 3 1, 3) := by decide +kernel
theorem dX6_mapsOf_31 : decode cX6_mapsOf 31 = .ok (.goto (-27), 3) := by decide +kernel
theorem dX6_mapsOf_34 : decode cX6_mapsOf 34 = .ok (.iload_n 2, 1) := by decide +kernel
theorem dX6_mapsOf_35 : decode cX6_mapsOf 35 = .ok (.ireturn, 1) := by decide +kernel
abbrev mX6_mapsOf : KM := (RX6, cX6_mapsOf, 4, (some .int), { frames := 4, cells := 0, slots := 0, locals := 95 }, 0, 0)
def fX6_mapsOf_L28 (q0 : Nat) (q1 : Nat) (K4 : Int32 → Int32 → Sto → Option Int32) (v2 : Int32) (v3 : Int32) (σ : Sto) : Option Int32 :=
  K4 v2 (v3 + 1) σ
def fX6_mapsOf_L4 (q0 : Nat) (q1 : Nat) : Nat → Int32 → Int32 → Sto → Option Int32
  | 0, _, _, _ => none
  | fu + 1, v2, v3, σ =>
    if (fX1_maps q1 σ) ≤ v3 then
      some v2
    else
      (fX3_isBroughtTo q0 q0 q1 v3 σ).bind fun r1 =>
      if r1 = true then
        fX6_mapsOf_L28 q0 q1 (fX6_mapsOf_L4 q0 q1 fu) (v2 ||| (1 <<< (v3 &&& 31))) v3 σ
      else
        fX6_mapsOf_L28 q0 q1 (fX6_mapsOf_L4 q0 q1 fu) v2 v3 σ
def fX6_mapsOf (q0 : Nat) (q1 : Nat) (σ : Sto) : Option Int32 :=
  fX6_mapsOf_L4 q0 q1 kFU 0 0 σ
set_option maxHeartbeats 4000000 in
set_option maxRecDepth 100000 in
theorem wX6_mapsOf_L28 (sh : KSh) (hk : KAG sh) (l : Launch) (hst : l.stackTraces = false) (q0 : Nat) (h0 : sh q0 = .inl 3) (q1 : Nat) (h1 : sh q1 = .inl 1) (K4 : Int32 → Int32 → Sto → Option Int32) (hK4 : ∀ (v2 : Int32), ∀ (v3 : Int32), ∀ (σ : Sto), ∀ (r : Int32), K4 v2 v3 σ = some r → VV sh l mX6_mapsOf 0 0 4 [(0, .ref q0), (1, .ref q1), (2, .int v2), (3, .int v3)] [] σ (0, .int r, σ)) : ∀ (v2 : Int32), ∀ (v3 : Int32), ∀ (σ : Sto), ∀ (r : Int32), fX6_mapsOf_L28 q0 q1 K4 v2 v3 σ = some r → VV sh l mX6_mapsOf 0 0 28 [(0, .ref q0), (1, .ref q1), (2, .int v2), (3, .int v3)] [] σ (0, .int r, σ) := by
  intro v2 v3 σ r h
  rw [fX6_mapsOf_L28] at h
  refine kv_iinc (pc := 28) (v := v3 + 1) 3 [(3, .int (v3 + 1)), (0, .ref q0), (1, .ref q1), (2, .int v2)] dX6_mapsOf_28 rfl rfl (by decide) rfl ?_
  refine kv_goto (pc := 31) (tgt := 4) dX6_mapsOf_31 (by decide) ?_
  refine kv_sub (pc := 4) [(0, .ref q0), (1, .ref q1), (2, .int v2), (3, .int (v3 + 1))] [1, 2, 3, 0] rfl ?_
  exact hK4 v2 (v3 + 1) σ r h
set_option maxHeartbeats 4000000 in
set_option maxRecDepth 100000 in
theorem wX6_mapsOf_L4 (sh : KSh) (hk : KAG sh) (l : Launch) (hst : l.stackTraces = false) (q0 : Nat) (h0 : sh q0 = .inl 3) (q1 : Nat) (h1 : sh q1 = .inl 1) : ∀ (fu : Nat), ∀ (v2 : Int32), ∀ (v3 : Int32), ∀ (σ : Sto), ∀ (r : Int32), fX6_mapsOf_L4 q0 q1 fu v2 v3 σ = some r → VV sh l mX6_mapsOf 0 0 4 [(0, .ref q0), (1, .ref q1), (2, .int v2), (3, .int v3)] [] σ (0, .int r, σ) := by
  intro fu
  induction fu with
  | zero => intro v2 v3 σ r h; rw [fX6_mapsOf_L4] at h; cases h
  | succ fu ih =>
    intro v2 v3 σ r h
    rw [fX6_mapsOf_L4] at h
    refine kv_iload_n (pc := 4) 3 dX6_mapsOf_4 rfl rfl ?_
    refine kv_aload_n (pc := 5) 1 dX6_mapsOf_5 rfl rfl ?_
    refine kv_tV (pc := 6) (v := .int (fX1_maps q1 σ)) [] (.int (fX1_maps q1 σ) :: [.int v3]) 9 0 0 (tX1_maps sh (kwf_of hk) l hst q1 h1 σ) dX6_mapsOf_6 rfl h1 rfl yw_X1_maps lk_X6_240 (by decide) (Nat.le_of_ble_eq_true rfl) (by decide) rfl ⟨rfl, rfl, rfl⟩ ?_
    refine kv_icmp_ge (pc := 9) (tgt := 34) dX6_mapsOf_9 (by decide) h (fun h => ?_) (fun h => ?_)
    · refine kv_iload_n (pc := 34) 2 dX6_mapsOf_34 rfl rfl ?_
      exact kv_iret (pc := 35) dX6_mapsOf_35 rfl (by cases h; rfl) (by decide) (by decide)
    · refine kv_aload_n (pc := 12) 0 dX6_mapsOf_12 rfl rfl ?_
      refine kv_aload_n (pc := 13) 0 dX6_mapsOf_13 rfl rfl ?_
      refine kv_aload_n (pc := 14) 1 dX6_mapsOf_14 rfl rfl ?_
      refine kv_iload_n (pc := 15) 3 dX6_mapsOf_15 rfl rfl ?_
      refine kv_cV (pc := 16) [.ref q0, .ref q1, .int v3] (fun r1 => (0, .int (kb r1), σ)) (fun r1 => (.int (kb r1) :: [])) (fun r1 => σ) 19 0 0 h (fun r1 g2 => tX3_isBroughtTo sh (kwf_of hk) l hst q0 h0 q0 h0 q1 h1 v3 σ r1 g2) dX6_mapsOf_16 rfl h0 rfl yw_X3_isBroughtTo lk_X6_256 (by decide) (Nat.le_of_ble_eq_true rfl) (by decide) (fun _ => rfl) (fun _ => rfl) ⟨rfl, rfl, rfl⟩ (fun _ _ h0 => absurd rfl h0) (fun r1 g2 z3 h => ?_)
      refine kv_ifb_eq (pc := 19) (tgt := 28) dX6_mapsOf_19 (by decide) h (fun h => ?_) (fun h => ?_)
      · refine kv_sub (pc := 28) [(0, .ref q0), (1, .ref q1), (2, .int v2), (3, .int v3)] [0, 1, 2, 3] rfl ?_
        exact wX6_mapsOf_L28 sh hk l hst q0 h0 q1 h1 (fX6_mapsOf_L4 q0 q1 fu) ih v2 v3 σ r h
      · refine kv_iload_n (pc := 22) 2 dX6_mapsOf_22 rfl rfl ?_
        refine kv_iconst (pc := 23) (v := 1) dX6_mapsOf_23 (by decide) ?_
        refine kv_iload_n (pc := 24) 3 dX6_mapsOf_24 rfl rfl ?_
        refine kv_ishl (pc := 25) dX6_mapsOf_25 ?_
        refine kv_ior (pc := 26) dX6_mapsOf_26 ?_
        refine kv_istore_n (pc := 27) [(2, .int (v2 ||| (1 <<< (v3 &&& 31)))), (0, .ref q0), (1, .ref q1), (3, .int v3)] dX6_mapsOf_27 rfl (by decide) rfl ?_
        refine kv_sub (pc := 28) [(0, .ref q0), (1, .ref q1), (2, .int (v2 ||| (1 <<< (v3 &&& 31)))), (3, .int v3)] [1, 2, 0, 3] rfl ?_
        exact wX6_mapsOf_L28 sh hk l hst q0 h0 q1 h1 (fX6_mapsOf_L4 q0 q1 fu) ih (v2 ||| (1 <<< (v3 &&& 31))) v3 σ r h
set_option maxHeartbeats 4000000 in
set_option maxRecDepth 100000 in
theorem tX6_mapsOf (sh : KSh) (hk : KAG sh) (l : Launch) (hst : l.stackTraces = false) (q0 : Nat) (h0 : sh q0 = .inl 3) (q1 : Nat) (h1 : sh q1 = .inl 1) (σ : Sto) (r : Int32) (h : fX6_mapsOf q0 q1 σ = some r) : CT sh l mX6_mapsOf yX6_mapsOf [.ref q0, .ref q1] σ (0, .int r, σ) := by
  refine kct [(0, .ref q0), (1, .ref q1)] hst (by decide +kernel) rfl rfl (Nat.le_of_ble_eq_true rfl) ?_
  rw [fX6_mapsOf] at h
  refine kv_iconst (pc := 0) (v := 0) dX6_mapsOf_0 (by decide) ?_
  refine kv_istore_n (pc := 1) [(2, .int 0), (0, .ref q0), (1, .ref q1)] dX6_mapsOf_1 rfl (by decide) rfl ?_
  refine kv_iconst (pc := 2) (v := 0) dX6_mapsOf_2 (by decide) ?_
  refine kv_istore_n (pc := 3) [(3, .int 0), (2, .int 0), (0, .ref q0), (1, .ref q1)] dX6_mapsOf_3 rfl (by decide) rfl ?_
  refine kv_sub (pc := 4) [(0, .ref q0), (1, .ref q1), (2, .int 0), (3, .int 0)] [2, 3, 1, 0] rfl ?_
  exact wX6_mapsOf_L4 sh hk l hst q0 h0 q1 h1 kFU 0 0 σ r h
theorem yw_X6_mapsOf : KMS yX6_mapsOf mX6_mapsOf 2 := ⟨⟨by decide +kernel, by decide +kernel, by decide +kernel⟩, ⟨rfl, rfl⟩, kg_in 1022 (by decide +kernel) (by decide +kernel), kg_in 47 (by decide +kernel) (by decide +kernel), kg_in 1023 (by decide +kernel) (by decide +kernel)⟩
theorem dX6_symmetries_0 : decode cX6_symmetries 0 = .ok (.aload_n 0, 1) := by decide +kernel
theorem dX6_symmetries_1 : decode cX6_symmetries 1 = .ok (.getfield 44, 3) := by decide +kernel
theorem dX6_symmetries_4 : decode cX6_symmetries 4 = .ok (.aload_n 0, 1) := by decide +kernel
theorem dX6_symmetries_5 : decode cX6_symmetries 5 = .ok (.getfield 12, 3) := by decide +kernel
theorem dX6_symmetries_8 : decode cX6_symmetries 8 = .ok (.invokevirtual 206, 3) := by decide +kernel
theorem dX6_symmetries_11 : decode cX6_symmetries 11 = .ok (.aload_n 0, 1) := by decide +kernel
theorem dX6_symmetries_12 : decode cX6_symmetries 12 = .ok (.getfield 44, 3) := by decide +kernel
theorem dX6_symmetries_15 : decode cX6_symmetries 15 = .ok (.aload_n 0, 1) := by decide +kernel
theorem dX6_symmetries_16 : decode cX6_symmetries 16 = .ok (.getfield 12, 3) := by decide +kernel
theorem dX6_symmetries_19 : decode cX6_symmetries 19 = .ok (.getfield 104, 3) := by decide +kernel
theorem dX6_symmetries_22 : decode cX6_symmetries 22 = .ok (.invokestatic 233, 3) := by decide +kernel
theorem dX6_symmetries_25 : decode cX6_symmetries 25 = .ok (.ireturn, 1) := by decide +kernel
abbrev mX6_symmetries : KM := (RX6, cX6_symmetries, 1, (some .int), { frames := 5, cells := 0, slots := 0, locals := 118 }, 0, 0)
def fX6_symmetries (σ : Sto) : Option (Int32 × Sto) :=
  (fX3_look 7 25 σ).bind fun r1 =>
  (fX6_mapsOf 7 26 r1).bind fun r4 =>
  some (r4, r1)
set_option maxHeartbeats 4000000 in
set_option maxRecDepth 100000 in
theorem tX6_symmetries (sh : KSh) (hk : KAG sh) (l : Launch) (hst : l.stackTraces = false) (σ : Sto) (r : (Int32 × Sto)) (h : fX6_symmetries σ = some r) : CT sh l mX6_symmetries yX6_symmetries [.ref 0] σ (0, .int r.1, r.2) := by
  refine kct [(0, .ref 0)] hst (by decide +kernel) rfl rfl (Nat.le_of_ble_eq_true rfl) ?_
  rw [fX6_symmetries] at h
  refine kv_aload_n (pc := 0) 0 dX6_symmetries_0 rfl rfl ?_
  refine kv_getR (pc := 1) (q2 := 7) dX6_symmetries_1 (ks_0 hk) rfl (i := 9) (by decide) rfl fl_X6_44 rfl rfl ?_
  refine kv_aload_n (pc := 4) 0 dX6_symmetries_4 rfl rfl ?_
  refine kv_getR (pc := 5) (q2 := 25) dX6_symmetries_5 (ks_0 hk) rfl (i := 0) (by decide) rfl fl_X6_12 rfl rfl ?_
  refine kv_cV (pc := 8) [.ref 25] (fun r1 => (0, .int 0, r1)) (fun r1 => []) (fun r1 => r1) 11 0 0 h (fun r1 g2 => tX3_look sh (kwf_of hk) l hst 7 (ks_7 hk) 25 (ks_25 hk) σ r1 g2) dX6_symmetries_8 rfl (ks_7 hk) rfl yw_X3_look lk_X6_206 (by decide) (Nat.le_of_ble_eq_true rfl) (by decide) (fun _ => rfl) (fun _ => rfl) ⟨rfl, rfl, rfl⟩ (fun _ _ h0 => absurd rfl h0) (fun r1 g2 z3 h => ?_)
  refine kv_aload_n (pc := 11) 0 dX6_symmetries_11 rfl rfl ?_
  refine kv_getR (pc := 12) (q2 := 7) dX6_symmetries_12 (ks_0 hk) rfl (i := 9) (by decide) rfl fl_X6_44 rfl rfl ?_
  refine kv_aload_n (pc := 15) 0 dX6_symmetries_15 rfl rfl ?_
  refine kv_getR (pc := 16) (q2 := 25) dX6_symmetries_16 (ks_0 hk) rfl (i := 0) (by decide) rfl fl_X6_12 rfl rfl ?_
  refine kv_getR (pc := 19) (q2 := 26) dX6_symmetries_19 (ks_25 hk) rfl (i := 0) (by decide) rfl fl_X6_104 rfl rfl ?_
  refine kv_cS (pc := 22) [.ref 7, .ref 26] (fun r4 => (0, .int r4, r1)) (fun r4 => (.int r4 :: [])) (fun r4 => r1) 25 0 0 h (fun r4 g5 => tX6_mapsOf sh hk l hst 7 (ks_7 hk) 26 (ks_26 hk) r1 r4 g5) dX6_symmetries_22 rfl yw_X6_mapsOf lk_X6_233 (by decide) (Nat.le_of_ble_eq_true rfl) (by decide) (fun _ => rfl) (fun _ => rfl) ⟨rfl, rfl, rfl⟩ (fun _ _ h0 => absurd rfl h0) (fun r4 g5 z6 h => ?_)
  exact kv_iret (pc := 25) dX6_symmetries_25 rfl (by cases h; rfl) (by decide) (by decide)
theorem yw_X6_symmetries : KMV yX6_symmetries mX6_symmetries RX6 0 := ⟨⟨rfl, by decide +kernel, by decide +kernel, by decide +kernel⟩, ⟨rfl, rfl⟩, kg_in 1018 (by decide +kernel) (by decide +kernel), kg_in 1019 (by decide +kernel) (by decide +kernel), kg_in 47 (by decide +kernel) (by decide +kernel), kg_in 1020 (by decide +kernel) (by decide +kernel)⟩
theorem dX6_ownMaps_0 : decode cX6_ownMaps 0 = .ok (.aload_n 0, 1) := by decide +kernel
theorem dX6_ownMaps_1 : decode cX6_ownMaps 1 = .ok (.getfield 12, 3) := by decide +kernel
theorem dX6_ownMaps_4 : decode cX6_ownMaps 4 = .ok (.getfield 104, 3) := by decide +kernel
theorem dX6_ownMaps_7 : decode cX6_ownMaps 7 = .ok (.invokevirtual 237, 3) := by decide +kernel
theorem dX6_ownMaps_10 : decode cX6_ownMaps 10 = .ok (.ireturn, 1) := by decide +kernel
abbrev mX6_ownMaps : KM := (RX6, cX6_ownMaps, 1, (some .int), { frames := 1, cells := 0, slots := 0, locals := 20 }, 0, 0)
def fX6_ownMaps (σ : Sto) : Int32 :=
  (fX1_mapsByMirrors 26 σ)
set_option maxHeartbeats 4000000 in
set_option maxRecDepth 100000 in
theorem tX6_ownMaps (sh : KSh) (hk : KAG sh) (l : Launch) (hst : l.stackTraces = false) (σ : Sto) : CT sh l mX6_ownMaps yX6_ownMaps [.ref 0] σ (0, .int (fX6_ownMaps σ), σ) := by
  refine kct [(0, .ref 0)] hst (by decide +kernel) rfl rfl (Nat.le_of_ble_eq_true rfl) ?_
  generalize h : fX6_ownMaps σ = r
  rw [fX6_ownMaps] at h
  refine kv_aload_n (pc := 0) 0 dX6_ownMaps_0 rfl rfl ?_
  refine kv_getR (pc := 1) (q2 := 25) dX6_ownMaps_1 (ks_0 hk) rfl (i := 0) (by decide) rfl fl_X6_12 rfl rfl ?_
  refine kv_getR (pc := 4) (q2 := 26) dX6_ownMaps_4 (ks_25 hk) rfl (i := 0) (by decide) rfl fl_X6_104 rfl rfl ?_
  refine kv_tV (pc := 7) (v := .int (fX1_mapsByMirrors 26 σ)) [] (.int (fX1_mapsByMirrors 26 σ) :: []) 10 0 0 (tX1_mapsByMirrors sh (kwf_of hk) l hst 26 (ks_26 hk) σ) dX6_ownMaps_7 rfl (ks_26 hk) rfl yw_X1_mapsByMirrors lk_X6_237 (by decide) (Nat.le_of_ble_eq_true rfl) (by decide) rfl ⟨rfl, rfl, rfl⟩ ?_
  exact kv_iret (pc := 10) dX6_ownMaps_10 rfl (by subst h; rfl) (by decide) (by decide)
theorem yw_X6_ownMaps : KMV yX6_ownMaps mX6_ownMaps RX6 0 := ⟨⟨rfl, by decide +kernel, by decide +kernel, by decide +kernel⟩, ⟨rfl, rfl⟩, kg_in 1043 (by decide +kernel) (by decide +kernel), kg_in 1044 (by decide +kernel) (by decide +kernel), kg_in 47 (by decide +kernel) (by decide +kernel), kg_in 1045 (by decide +kernel) (by decide +kernel)⟩
theorem dX6_needSaved_0 : decode cX6_needSaved 0 = .ok (.iload_n 1, 1) := by decide +kernel
theorem dX6_needSaved_1 : decode cX6_needSaved 1 = .ok (.iconst 0, 1) := by decide +kernel
theorem dX6_needSaved_2 : decode cX6_needSaved 2 = .ok (.iconst 1, 1) := by decide +kernel
theorem dX6_needSaved_3 : decode cX6_needSaved 3 = .ok (.invokestatic 80, 3) := by decide +kernel
theorem dX6_needSaved_6 : decode cX6_needSaved 6 = .ok (.aload_n 0, 1) := by decide +kernel
theorem dX6_needSaved_7 : decode cX6_needSaved 7 = .ok (.getfield 26, 3) := by decide +kernel
theorem dX6_needSaved_10 : decode cX6_needSaved 10 = .ok (.iload_n 1, 1) := by decide +kernel
theorem dX6_needSaved_11 : decode cX6_needSaved 11 = .ok (.baload, 1) := by decide +kernel
theorem dX6_needSaved_12 : decode cX6_needSaved 12 = .ok (.ifCond .ne 11, 3) := by decide +kernel
theorem dX6_needSaved_15 : decode cX6_needSaved 15 = .ok (.new 69, 3) := by decide +kernel
theorem dX6_needSaved_18 : decode cX6_needSaved 18 = .ok (.dup, 1) := by decide +kernel
theorem dX6_needSaved_19 : decode cX6_needSaved 19 = .ok (.invokespecial 71, 3) := by decide +kernel
theorem dX6_needSaved_22 : decode cX6_needSaved 22 = .ok (.athrow, 1) := by decide +kernel
theorem dX6_needSaved_23 : decode cX6_needSaved 23 = .ok (.return_, 1) := by decide +kernel
abbrev mX6_needSaved : KM := (RX6, cX6_needSaved, 2, none, { frames := 7, cells := 0, slots := 0, locals := 111 }, 0, 0)
def fX6_needSaved (a1 : Int32) (σ : Sto) : Option Nat :=
  (fX6_needRange a1 0 1 σ).bind fun r1 =>
  if r1 = 0 then
    if kin a1 2 = true then
      if (σ 3 a1.toNatClampNeg) = 0 then
        some 2
      else
        some 0
    else none
  else some r1
set_option maxHeartbeats 4000000 in
set_option maxRecDepth 100000 in
theorem tX6_needSaved (sh : KSh) (hk : KAG sh) (l : Launch) (hst : l.stackTraces = false) (a1 : Int32) (σ : Sto) (r : Nat) (h : fX6_needSaved a1 σ = some r) (hnt : r = 0) : CT sh l mX6_needSaved yX6_needSaved [.ref 0, .int a1] σ (r, .int 0, σ) := by
  refine kct [(0, .ref 0), (1, .int a1)] hst (by decide +kernel) rfl rfl (Nat.le_of_ble_eq_true rfl) ?_
  rw [fX6_needSaved] at h
  refine kv_iload_n (pc := 0) 1 dX6_needSaved_0 rfl rfl ?_
  refine kv_iconst (pc := 1) (v := 0) dX6_needSaved_1 (by decide) ?_
  refine kv_iconst (pc := 2) (v := 1) dX6_needSaved_2 (by decide) ?_
  refine kv_cSn (pc := 3) [.int a1, .int 0, .int 1] (fun r1 => (r1, .int 0, σ)) (fun r1 => []) (fun r1 => σ) 6 0 0 h (fun r1 g2 hnt => tX6_needRange sh hk l hst a1 0 1 σ r1 g2 hnt) dX6_needSaved_3 rfl yw_X6_needRange lk_X6_80 (by decide) (Nat.le_of_ble_eq_true rfl) (by decide) (fun _ => rfl) (fun _ => rfl) ⟨rfl, rfl, rfl⟩ (fun r h => Decidable.byContradiction (fun h9 => by rw [if_neg h9] at h; cases h; exact h9 hnt)) (fun r1 g2 z3 h => ?_)
  rw [if_pos z3] at h
  refine kv_aload_n (pc := 6) 0 dX6_needSaved_6 rfl rfl ?_
  refine kv_getR (pc := 7) (q2 := 3) dX6_needSaved_7 (ks_0 hk) rfl (i := 6) (by decide) rfl fl_X6_26 rfl rfl ?_
  refine kv_iload_n (pc := 10) 1 dX6_needSaved_10 rfl rfl ?_
  refine kv_zald (pc := 11) dX6_needSaved_11 (ks_3 hk) h (fun h => ?_)
  refine kv_if_ne (pc := 12) (tgt := 23) dX6_needSaved_12 (by decide) h (fun h => ?_) (fun h => ?_)
  · exact kv_vret (pc := 23) (v := .int 0) dX6_needSaved_23 rfl (by cases h; rfl) (by decide) (by decide)
  · cases h; exact absurd (show (2 : Nat) = 0 from hnt) (by decide)
theorem yw_X6_needSaved : KMV yX6_needSaved mX6_needSaved RX6 1 := ⟨⟨rfl, by decide +kernel, by decide +kernel, by decide +kernel⟩, ⟨rfl, rfl⟩, kg_in 1060 (by decide +kernel) (by decide +kernel), kg_in 41 (by decide +kernel) (by decide +kernel), kg_in 47 (by decide +kernel) (by decide +kernel), kg_in 1061 (by decide +kernel) (by decide +kernel)⟩
theorem dX6_matches_0 : decode cX6_matches 0 = .ok (.aload_n 0, 1) := by decide +kernel
theorem dX6_matches_1 : decode cX6_matches 1 = .ok (.iload_n 1, 1) := by decide +kernel
theorem dX6_matches_2 : decode cX6_matches 2 = .ok (.invokevirtual 249, 3) := by decide +kernel
theorem dX6_matches_5 : decode cX6_matches 5 = .ok (.aload_n 0, 1) := by decide +kernel
theorem dX6_matches_6 : decode cX6_matches 6 = .ok (.getfield 23, 3) := by decide +kernel
theorem dX6_matches_9 : decode cX6_matches 9 = .ok (.iload_n 1, 1) := by decide +kernel
theorem dX6_matches_10 : decode cX6_matches 10 = .ok (.aaload, 1) := by decide +kernel
theorem dX6_matches_11 : decode cX6_matches 11 = .ok (.astore_n 2, 1) := by decide +kernel
theorem dX6_matches_12 : decode cX6_matches 12 = .ok (.aload_n 2, 1) := by decide +kernel
theorem dX6_matches_13 : decode cX6_matches 13 = .ok (.getfield 104, 3) := by decide +kernel
theorem dX6_matches_16 : decode cX6_matches 16 = .ok (.aload_n 0, 1) := by decide +kernel
theorem dX6_matches_17 : decode cX6_matches 17 = .ok (.getfield 12, 3) := by decide +kernel
theorem dX6_matches_20 : decode cX6_matches 20 = .ok (.getfield 104, 3) := by decide +kernel
theorem dX6_matches_23 : decode cX6_matches 23 = .ok (.invokevirtual 252, 3) := by decide +kernel
theorem dX6_matches_26 : decode cX6_matches 26 = .ok (.ifCond .ne 5, 3) := by decide +kernel
theorem dX6_matches_29 : decode cX6_matches 29 = .ok (.iconst (-1), 1) := by decide +kernel
theorem dX6_matches_30 : decode cX6_matches 30 = .ok (.ireturn, 1) := by decide +kernel
theorem dX6_matches_31 : decode cX6_matches 31 = .ok (.aload_n 0, 1) := by decide +kernel
theorem dX6_matches_32 : decode cX6_matches 32 = .ok (.getfield 44, 3) := by decide +kernel
theorem dX6_matches_35 : decode cX6_matches 35 = .ok (.aload_n 0, 1) := by decide +kernel
theorem dX6_matches_36 : decode cX6_matches 36 = .ok (.getfield 12, 3) := by decide +kernel
theorem dX6_matches_39 : decode cX6_matches 39 = .ok (.invokevirtual 206, 3) := by decide +kernel
theorem dX6_matches_42 : decode cX6_matches 42 = .ok (.aload_n 0, 1) := by decide +kernel
theorem dX6_matches_43 : decode cX6_matches 43 = .ok (.getfield 48, 3) := by decide +kernel
theorem dX6_matches_46 : decode cX6_matches 46 = .ok (.aload_n 2, 1) := by decide +kernel
theorem dX6_matches_47 : decode cX6_matches 47 = .ok (.invokevirtual 206, 3) := by decide +kernel
theorem dX6_matches_50 : decode cX6_matches 50 = .ok (.iconst 0, 1) := by decide +kernel
theorem dX6_matches_51 : decode cX6_matches 51 = .ok (.istore_n 3, 1) := by decide +kernel
theorem dX6_matches_52 : decode cX6_matches 52 = .ok (.iload_n 3, 1) := by decide +kernel
theorem dX6_matches_53 : decode cX6_matches 53 = .ok (.aload_n 0, 1) := by decide +kernel
theorem dX6_matches_54 : decode cX6_matches 54 = .ok (.getfield 12, 3) := by decide +kernel
theorem dX6_matches_57 : decode cX6_matches 57 = .ok (.getfield 104, 3) := by decide +kernel
theorem dX6_matches_60 : decode cX6_matches 60 = .ok (.invokevirtual 240, 3) := by decide +kernel
theorem dX6_matches_63 : decode cX6_matches 63 = .ok (.if_icmp .ge 33, 3) := by decide +kernel
theorem dX6_matches_66 : decode cX6_matches 66 = .ok (.aload_n 0, 1) := by decide +kernel
theorem dX6_matches_67 : decode cX6_matches 67 = .ok (.getfield 48, 3) := by decide +kernel
theorem dX6_matches_70 : decode cX6_matches 70 = .ok (.aload_n 0, 1) := by decide +kernel
theorem dX6_matches_71 : decode cX6_matches 71 = .ok (.getfield 44, 3) := by decide +kernel
theorem dX6_matches_74 : decode cX6_matches 74 = .ok (.aload_n 0, 1) := by decide +kernel
theorem dX6_matches_75 : decode cX6_matches 75 = .ok (.getfield 12, 3) := by decide +kernel
theorem dX6_matches_78 : decode cX6_matches 78 = .ok (.getfield 104, 3) := by decide +kernel
theorem dX6_matches_81 : decode cX6_matches 81 = .ok (.iload_n 3, 1) := by decide +kernel
theorem dX6_matches_82 : decode cX6_matches 82 = .ok (.invokevirtual 256, 3) := by decide +kernel
theorem dX6_matches_85 : decode cX6_matches 85 = .ok (.ifCond .eq 5, 3) := by decide +kernel
theorem dX6_matches_88 : decode cX6_matches 88 = .ok (.iload_n 3, 1) := by decide +kernel
theorem dX6_matches_89 : decode cX6_matches 89 = .ok (.ireturn, 1) := by decide +kernel
theorem dX6_matches_90 : decode cX6_matches 90 = .ok (.iinc 3 1, 3) := by decide +kernel
theorem dX6_matches_93 : decode cX6_matches 93 = .ok (.goto (-41), 3) := by decide +kernel
theorem dX6_matches_96 : decode cX6_matches 96 = .ok (.iconst (-1), 1) := by decide +kernel
theorem dX6_matches_97 : decode cX6_matches 97 = .ok (.ireturn, 1) := by decide +kernel
abbrev mX6_matches : KM := (RX6, cX6_matches, 4, (some .int), { frames := 8, cells := 0, slots := 0, locals := 132 }, 0, 0)
def fX6_matches_L52 (a1 : Int32) : Nat → Int32 → Sto → Option KP
  | 0, _, _ => none
  | fu + 1, v3, σ =>
    if (fX1_maps 26 σ) ≤ v3 then
      some (0, (-1), σ)
    else
      (fX3_isBroughtTo 14 7 26 v3 σ).bind fun r11 =>
      if r11 = true then
        some (0, v3, σ)
      else
        fX6_matches_L52 a1 fu (v3 + 1) σ
def fX6_matches (a1 : Int32) (σ : Sto) : Option KP :=
  (fX6_needSaved a1 σ).bind fun r1 =>
  if r1 = 0 then
    if kin a1 2 = true then
      if (fX1_hasSamePicture (115 + 9 * a1.toNatClampNeg + 1) 26 σ) = true then
        (fX3_look 7 25 σ).bind fun r5 =>
        (fX3_look 14 (115 + 9 * a1.toNatClampNeg) r5).bind fun r8 =>
        fX6_matches_L52 a1 kFU 0 r8
      else
        some (0, (-1), σ)
    else none
  else some (r1, 0, σ)
set_option maxHeartbeats 4000000 in
set_option maxRecDepth 100000 in
theorem wX6_matches_L52 (sh : KSh) (hk : KAG sh) (l : Launch) (hst : l.stackTraces = false) (a1 : Int32) : ∀ (fu : Nat), ∀ (v3 : Int32), ∀ (σ : Sto), ∀ (r : KP), fX6_matches_L52 a1 fu v3 σ = some r → r.1 = 0 → VV sh l mX6_matches 0 0 52 [(0, .ref 0), (3, .int v3)] [] σ (r.1, .int r.2.1, r.2.2) := by
  intro fu
  induction fu with
  | zero => intro v3 σ r h hnt; rw [fX6_matches_L52] at h; cases h
  | succ fu ih =>
    intro v3 σ r h hnt
    rw [fX6_matches_L52] at h
    refine kv_iload_n (pc := 52) 1 dX6_matches_52 rfl rfl ?_
    refine kv_aload_n (pc := 53) 0 dX6_matches_53 rfl rfl ?_
    refine kv_getR (pc := 54) (q2 := 25) dX6_matches_54 (ks_0 hk) rfl (i := 0) (by decide) rfl fl_X6_12 rfl rfl ?_
    refine kv_getR (pc := 57) (q2 := 26) dX6_matches_57 (ks_25 hk) rfl (i := 0) (by decide) rfl fl_X6_104 rfl rfl ?_
    refine kv_tV (pc := 60) (v := .int (fX1_maps 26 σ)) [] (.int (fX1_maps 26 σ) :: [.int v3]) 63 0 0 (tX1_maps sh (kwf_of hk) l hst 26 (ks_26 hk) σ) dX6_matches_60 rfl (ks_26 hk) rfl yw_X1_maps lk_X6_240 (by decide) (Nat.le_of_ble_eq_true rfl) (by decide) rfl ⟨rfl, rfl, rfl⟩ ?_
    refine kv_icmp_ge (pc := 63) (tgt := 96) dX6_matches_63 (by decide) h (fun h => ?_) (fun h => ?_)
    · refine kv_iconst (pc := 96) (v := (-1)) dX6_matches_96 (by decide) ?_
      exact kv_iret (pc := 97) dX6_matches_97 rfl (by cases h; rfl) (by decide) (by decide)
    · refine kv_aload_n (pc := 66) 0 dX6_matches_66 rfl rfl ?_
      refine kv_getR (pc := 67) (q2 := 14) dX6_matches_67 (ks_0 hk) rfl (i := 10) (by decide) rfl fl_X6_48 rfl rfl ?_
      refine kv_aload_n (pc := 70) 0 dX6_matches_70 rfl rfl ?_
      refine kv_getR (pc := 71) (q2 := 7) dX6_matches_71 (ks_0 hk) rfl (i := 9) (by decide) rfl fl_X6_44 rfl rfl ?_
      refine kv_aload_n (pc := 74) 0 dX6_matches_74 rfl rfl ?_
      refine kv_getR (pc := 75) (q2 := 25) dX6_matches_75 (ks_0 hk) rfl (i := 0) (by decide) rfl fl_X6_12 rfl rfl ?_
      refine kv_getR (pc := 78) (q2 := 26) dX6_matches_78 (ks_25 hk) rfl (i := 0) (by decide) rfl fl_X6_104 rfl rfl ?_
      refine kv_iload_n (pc := 81) 1 dX6_matches_81 rfl rfl ?_
      refine kv_cV (pc := 82) [.ref 7, .ref 26, .int v3] (fun r11 => (0, .int (kb r11), σ)) (fun r11 => (.int (kb r11) :: [])) (fun r11 => σ) 85 0 0 h (fun r11 g12 => tX3_isBroughtTo sh (kwf_of hk) l hst 14 (ks_14 hk) 7 (ks_7 hk) 26 (ks_26 hk) v3 σ r11 g12) dX6_matches_82 rfl (ks_14 hk) rfl yw_X3_isBroughtTo lk_X6_256 (by decide) (Nat.le_of_ble_eq_true rfl) (by decide) (fun _ => rfl) (fun _ => rfl) ⟨rfl, rfl, rfl⟩ (fun _ _ h0 => absurd rfl h0) (fun r11 g12 z13 h => ?_)
      refine kv_ifb_eq (pc := 85) (tgt := 90) dX6_matches_85 (by decide) h (fun h => ?_) (fun h => ?_)
      · refine kv_iinc (pc := 90) (v := v3 + 1) 1 [(3, .int (v3 + 1)), (0, .ref 0)] dX6_matches_90 rfl rfl (by decide) rfl ?_
        refine kv_goto (pc := 93) (tgt := 52) dX6_matches_93 (by decide) ?_
        refine kv_sub (pc := 52) [(0, .ref 0), (3, .int (v3 + 1))] [1, 0] rfl ?_
        exact ih (v3 + 1) σ r h hnt
      · refine kv_iload_n (pc := 88) 1 dX6_matches_88 rfl rfl ?_
        exact kv_iret (pc := 89) dX6_matches_89 rfl (by cases h; rfl) (by decide) (by decide)
set_option maxHeartbeats 4000000 in
set_option maxRecDepth 100000 in
theorem tX6_matches (sh : KSh) (hk : KAG sh) (l : Launch) (hst : l.stackTraces = false) (a1 : Int32) (σ : Sto) (r : KP) (h : fX6_matches a1 σ = some r) (hnt : r.1 = 0) : CT sh l mX6_matches yX6_matches [.ref 0, .int a1] σ (r.1, .int r.2.1, r.2.2) := by
  refine kct [(0, .ref 0), (1, .int a1)] hst (by decide +kernel) rfl rfl (Nat.le_of_ble_eq_true rfl) ?_
  rw [fX6_matches] at h
  refine kv_aload_n (pc := 0) 0 dX6_matches_0 rfl rfl ?_
  refine kv_iload_n (pc := 1) 1 dX6_matches_1 rfl rfl ?_
  refine kv_cVn (pc := 2) [.int a1] (fun r1 => (r1, .int 0, σ)) (fun r1 => []) (fun r1 => σ) 5 0 0 h (fun r1 g2 hnt => tX6_needSaved sh hk l hst a1 σ r1 g2 hnt) dX6_matches_2 rfl (ks_0 hk) rfl yw_X6_needSaved lk_X6_249 (by decide) (Nat.le_of_ble_eq_true rfl) (by decide) (fun _ => rfl) (fun _ => rfl) ⟨rfl, rfl, rfl⟩ (fun r h => Decidable.byContradiction (fun h9 => by rw [if_neg h9] at h; cases h; exact h9 hnt)) (fun r1 g2 z3 h => ?_)
  rw [if_pos z3] at h
  refine kv_aload_n (pc := 5) 0 dX6_matches_5 rfl rfl ?_
  refine kv_getR (pc := 6) (q2 := 2) dX6_matches_6 (ks_0 hk) rfl (i := 5) (by decide) rfl fl_X6_23 rfl rfl ?_
  refine kv_iload_n (pc := 9) 1 dX6_matches_9 rfl rfl ?_
  refine kv_aald (pc := 10) (b := 112) dX6_matches_10 (ks_2 hk) h (fun c4 h => ?_)
  refine kv_astore_n (pc := 11) [(2, .ref (115 + 9 * a1.toNatClampNeg)), (0, .ref 0), (1, .int a1)] dX6_matches_11 rfl (by decide) rfl ?_
  refine kv_aload_n (pc := 12) 0 dX6_matches_12 rfl rfl ?_
  refine kv_getR (pc := 13) (q2 := 115 + 9 * a1.toNatClampNeg + 1) dX6_matches_13 (ksa_slot hk c4) rfl (i := 0) (by decide) rfl fl_X6_104 rfl rfl ?_
  refine kv_aload_n (pc := 16) 1 dX6_matches_16 rfl rfl ?_
  refine kv_getR (pc := 17) (q2 := 25) dX6_matches_17 (ks_0 hk) rfl (i := 0) (by decide) rfl fl_X6_12 rfl rfl ?_
  refine kv_getR (pc := 20) (q2 := 26) dX6_matches_20 (ks_25 hk) rfl (i := 0) (by decide) rfl fl_X6_104 rfl rfl ?_
  refine kv_tV (pc := 23) (v := .int (kb (fX1_hasSamePicture (115 + 9 * a1.toNatClampNeg + 1) 26 σ))) [.ref 26] (.int (kb (fX1_hasSamePicture (115 + 9 * a1.toNatClampNeg + 1) 26 σ)) :: []) 26 0 0 (tX1_hasSamePicture sh (kwf_of hk) l hst (115 + 9 * a1.toNatClampNeg + 1) (show sh (115 + 9 * a1.toNatClampNeg + 1) = _ from kso_5_1 (kwf_of hk) (ksa_slot hk c4)) 26 (ks_26 hk) σ) dX6_matches_23 rfl (show sh (115 + 9 * a1.toNatClampNeg + 1) = _ from kso_5_1 (kwf_of hk) (ksa_slot hk c4)) rfl yw_X1_hasSamePicture lk_X6_252 (by decide) (Nat.le_of_ble_eq_true rfl) (by decide) rfl ⟨rfl, rfl, rfl⟩ ?_
  refine kv_ifb_ne (pc := 26) (tgt := 31) dX6_matches_26 (by decide) h (fun h => ?_) (fun h => ?_)
  · refine kv_aload_n (pc := 31) 1 dX6_matches_31 rfl rfl ?_
    refine kv_getR (pc := 32) (q2 := 7) dX6_matches_32 (ks_0 hk) rfl (i := 9) (by decide) rfl fl_X6_44 rfl rfl ?_
    refine kv_aload_n (pc := 35) 1 dX6_matches_35 rfl rfl ?_
    refine kv_getR (pc := 36) (q2 := 25) dX6_matches_36 (ks_0 hk) rfl (i := 0) (by decide) rfl fl_X6_12 rfl rfl ?_
    refine kv_cV (pc := 39) [.ref 25] (fun r5 => (0, .int 0, r5)) (fun r5 => []) (fun r5 => r5) 42 0 0 h (fun r5 g6 => tX3_look sh (kwf_of hk) l hst 7 (ks_7 hk) 25 (ks_25 hk) σ r5 g6) dX6_matches_39 rfl (ks_7 hk) rfl yw_X3_look lk_X6_206 (by decide) (Nat.le_of_ble_eq_true rfl) (by decide) (fun _ => rfl) (fun _ => rfl) ⟨rfl, rfl, rfl⟩ (fun _ _ h0 => absurd rfl h0) (fun r5 g6 z7 h => ?_)
    refine kv_aload_n (pc := 42) 1 dX6_matches_42 rfl rfl ?_
    refine kv_getR (pc := 43) (q2 := 14) dX6_matches_43 (ks_0 hk) rfl (i := 10) (by decide) rfl fl_X6_48 rfl rfl ?_
    refine kv_aload_n (pc := 46) 0 dX6_matches_46 rfl rfl ?_
    refine kv_cV (pc := 47) [.ref (115 + 9 * a1.toNatClampNeg)] (fun r8 => (0, .int 0, r8)) (fun r8 => []) (fun r8 => r8) 50 0 0 h (fun r8 g9 => tX3_look sh (kwf_of hk) l hst 14 (ks_14 hk) (115 + 9 * a1.toNatClampNeg) (ksa_slot hk c4) r5 r8 g9) dX6_matches_47 rfl (ks_14 hk) rfl yw_X3_look lk_X6_206 (by decide) (Nat.le_of_ble_eq_true rfl) (by decide) (fun _ => rfl) (fun _ => rfl) ⟨rfl, rfl, rfl⟩ (fun _ _ h0 => absurd rfl h0) (fun r8 g9 z10 h => ?_)
    refine kv_iconst (pc := 50) (v := 0) dX6_matches_50 (by decide) ?_
    refine kv_istore_n (pc := 51) [(3, .int 0), (2, .ref (115 + 9 * a1.toNatClampNeg)), (0, .ref 0), (1, .int a1)] dX6_matches_51 rfl (by decide) rfl ?_
    refine kv_sub (pc := 52) [(0, .ref 0), (3, .int 0)] [2, 0] rfl ?_
    exact wX6_matches_L52 sh hk l hst a1 kFU 0 r8 r h hnt
  · refine kv_iconst (pc := 29) (v := (-1)) dX6_matches_29 (by decide) ?_
    exact kv_iret (pc := 30) dX6_matches_30 rfl (by cases h; rfl) (by decide) (by decide)
theorem yw_X6_matches : KMV yX6_matches mX6_matches RX6 1 := ⟨⟨rfl, by decide +kernel, by decide +kernel, by decide +kernel⟩, ⟨rfl, rfl⟩, kg_in 1055 (by decide +kernel) (by decide +kernel), kg_in 1056 (by decide +kernel) (by decide +kernel), kg_in 47 (by decide +kernel) (by decide +kernel), kg_in 1057 (by decide +kernel) (by decide +kernel)⟩
theorem dX6_refused_0 : decode cX6_refused 0 = .ok (.iload_n 1, 1) := by decide +kernel
theorem dX6_refused_1 : decode cX6_refused 1 = .ok (.iconst 1, 1) := by decide +kernel
theorem dX6_refused_2 : decode cX6_refused 2 = .ok (.if_icmp .lt 18, 3) := by decide +kernel
theorem dX6_refused_5 : decode cX6_refused 5 = .ok (.iload_n 1, 1) := by decide +kernel
theorem dX6_refused_6 : decode cX6_refused 6 = .ok (.iconst 5, 1) := by decide +kernel
theorem dX6_refused_7 : decode cX6_refused 7 = .ok (.if_icmp .gt 13, 3) := by decide +kernel
theorem dX6_refused_10 : decode cX6_refused 10 = .ok (.aload_n 0, 1) := by decide +kernel
theorem dX6_refused_11 : decode cX6_refused 11 = .ok (.getfield 30, 3) := by decide +kernel
theorem dX6_refused_14 : decode cX6_refused 14 = .ok (.iload_n 1, 1) := by decide +kernel
theorem dX6_refused_15 : decode cX6_refused 15 = .ok (.dup2, 1) := by decide +kernel
theorem dX6_refused_16 : decode cX6_refused 16 = .ok (.iaload, 1) := by decide +kernel
theorem dX6_refused_17 : decode cX6_refused 17 = .ok (.iconst 1, 1) := by decide +kernel
theorem dX6_refused_18 : decode cX6_refused 18 = .ok (.iadd, 1) := by decide +kernel
theorem dX6_refused_19 : decode cX6_refused 19 = .ok (.iastore, 1) := by decide +kernel
theorem dX6_refused_20 : decode cX6_refused 20 = .ok (.iload_n 1, 1) := by decide +kernel
theorem dX6_refused_21 : decode cX6_refused 21 = .ok (.ineg, 1) := by decide +kernel
theorem dX6_refused_22 : decode cX6_refused 22 = .ok (.ireturn, 1) := by decide +kernel
abbrev mX6_refused : KM := (RX6, cX6_refused, 2, (some .int), { frames := 0, cells := 0, slots := 0, locals := 0 }, 0, 0)
def fX6_refused (a1 : Int32) (σ : Sto) : Option (Int32 × Sto) :=
  if a1 < 1 then
    some ((-a1), σ)
  else
    if 5 < a1 then
      some ((-a1), σ)
    else
      if kin a1 6 = true then
        if kin a1 6 = true then
          klet (su σ 4 a1.toNatClampNeg ((σ 4 a1.toNatClampNeg) + 1)) fun σ1 =>
          some ((-a1), σ1)
        else none
      else none
set_option maxHeartbeats 4000000 in
set_option maxRecDepth 100000 in
theorem tX6_refused (sh : KSh) (hk : KAG sh) (l : Launch) (hst : l.stackTraces = false) (a1 : Int32) (σ : Sto) (r : (Int32 × Sto)) (h : fX6_refused a1 σ = some r) : CT sh l mX6_refused yX6_refused [.ref 0, .int a1] σ (0, .int r.1, r.2) := by
  refine kct [(0, .ref 0), (1, .int a1)] hst (by decide +kernel) rfl rfl (Nat.le_of_ble_eq_true rfl) ?_
  rw [fX6_refused] at h
  refine kv_iload_n (pc := 0) 1 dX6_refused_0 rfl rfl ?_
  refine kv_iconst (pc := 1) (v := 1) dX6_refused_1 (by decide) ?_
  refine kv_icmp_lt (pc := 2) (tgt := 20) dX6_refused_2 (by decide) h (fun h => ?_) (fun h => ?_)
  · refine kv_iload_n (pc := 20) 1 dX6_refused_20 rfl rfl ?_
    refine kv_ineg (pc := 21) dX6_refused_21 ?_
    exact kv_iret (pc := 22) dX6_refused_22 rfl (by cases h; rfl) (by decide) (by decide)
  · refine kv_iload_n (pc := 5) 1 dX6_refused_5 rfl rfl ?_
    refine kv_iconst (pc := 6) (v := 5) dX6_refused_6 (by decide) ?_
    refine kv_icmp_gt (pc := 7) (tgt := 20) dX6_refused_7 (by decide) h (fun h => ?_) (fun h => ?_)
    · refine kv_iload_n (pc := 20) 1 dX6_refused_20 rfl rfl ?_
      refine kv_ineg (pc := 21) dX6_refused_21 ?_
      exact kv_iret (pc := 22) dX6_refused_22 rfl (by cases h; rfl) (by decide) (by decide)
    · refine kv_aload_n (pc := 10) 0 dX6_refused_10 rfl rfl ?_
      refine kv_getR (pc := 11) (q2 := 4) dX6_refused_11 (ks_0 hk) rfl (i := 7) (by decide) rfl fl_X6_30 rfl rfl ?_
      refine kv_iload_n (pc := 14) 1 dX6_refused_14 rfl rfl ?_
      refine kv_dup2 (pc := 15) dX6_refused_15 rfl rfl ?_
      refine kv_iald (pc := 16) dX6_refused_16 (ks_4 hk) h (fun h => ?_)
      refine kv_iconst (pc := 17) (v := 1) dX6_refused_17 (by decide) ?_
      refine kv_iadd (pc := 18) dX6_refused_18 ?_
      refine kv_iast (pc := 19) dX6_refused_19 (ks_4 hk) h (fun h => ?_)
      refine kv_let h (fun σ1 h => ?_)
      refine kv_iload_n (pc := 20) 1 dX6_refused_20 rfl rfl ?_
      refine kv_ineg (pc := 21) dX6_refused_21 ?_
      exact kv_iret (pc := 22) dX6_refused_22 rfl (by cases h; rfl) (by decide) (by decide)
theorem yw_X6_refused : KMV yX6_refused mX6_refused RX6 1 := ⟨⟨rfl, by decide +kernel, by decide +kernel, by decide +kernel⟩, ⟨rfl, rfl⟩, kg_in 1075 (by decide +kernel) (by decide +kernel), kg_in 42 (by decide +kernel) (by decide +kernel), kg_in 47 (by decide +kernel) (by decide +kernel), kg_in 1076 (by decide +kernel) (by decide +kernel)⟩
theorem dX6_keepForUndo_0 : decode cX6_keepForUndo 0 = .ok (.aload_n 0, 1) := by decide +kernel
theorem dX6_keepForUndo_1 : decode cX6_keepForUndo 1 = .ok (.getfield 30, 3) := by decide +kernel
theorem dX6_keepForUndo_4 : decode cX6_keepForUndo 4 = .ok (.iconst 0, 1) := by decide +kernel
theorem dX6_keepForUndo_5 : decode cX6_keepForUndo 5 = .ok (.dup2, 1) := by decide +kernel
theorem dX6_keepForUndo_6 : decode cX6_keepForUndo 6 = .ok (.iaload, 1) := by decide +kernel
theorem dX6_keepForUndo_7 : decode cX6_keepForUndo 7 = .ok (.iconst 1, 1) := by decide +kernel
theorem dX6_keepForUndo_8 : decode cX6_keepForUndo 8 = .ok (.iadd, 1) := by decide +kernel
theorem dX6_keepForUndo_9 : decode cX6_keepForUndo 9 = .ok (.iastore, 1) := by decide +kernel
theorem dX6_keepForUndo_10 : decode cX6_keepForUndo 10 = .ok (.aload_n 0, 1) := by decide +kernel
theorem dX6_keepForUndo_11 : decode cX6_keepForUndo 11 = .ok (.getfield 19, 3) := by decide +kernel
theorem dX6_keepForUndo_14 : decode cX6_keepForUndo 14 = .ok (.aload_n 0, 1) := by decide +kernel
theorem dX6_keepForUndo_15 : decode cX6_keepForUndo 15 = .ok (.getfield 322, 3) := by decide +kernel
theorem dX6_keepForUndo_18 : decode cX6_keepForUndo 18 = .ok (.bipush 7, 2) := by decide +kernel
theorem dX6_keepForUndo_20 : decode cX6_keepForUndo 20 = .ok (.iand, 1) := by decide +kernel
theorem dX6_keepForUndo_21 : decode cX6_keepForUndo 21 = .ok (.aaload, 1) := by decide +kernel
theorem dX6_keepForUndo_22 : decode cX6_keepForUndo 22 = .ok (.aload_n 0, 1) := by decide +kernel
theorem dX6_keepForUndo_23 : decode cX6_keepForUndo 23 = .ok (.getfield 12, 3) := by decide +kernel
theorem dX6_keepForUndo_26 : decode cX6_keepForUndo 26 = .ok (.invokevirtual 88, 3) := by decide +kernel
theorem dX6_keepForUndo_29 : decode cX6_keepForUndo 29 = .ok (.aload_n 0, 1) := by decide +kernel
theorem dX6_keepForUndo_30 : decode cX6_keepForUndo 30 = .ok (.aload_n 0, 1) := by decide +kernel
theorem dX6_keepForUndo_31 : decode cX6_keepForUndo 31 = .ok (.getfield 322, 3) := by decide +kernel
theorem dX6_keepForUndo_34 : decode cX6_keepForUndo 34 = .ok (.iconst 1, 1) := by decide +kernel
theorem dX6_keepForUndo_35 : decode cX6_keepForUndo 35 = .ok (.iadd, 1) := by decide +kernel
theorem dX6_keepForUndo_36 : decode cX6_keepForUndo 36 = .ok (.bipush 7, 2) := by decide +kernel
theorem dX6_keepForUndo_38 : decode cX6_keepForUndo 38 = .ok (.iand, 1) := by decide +kernel
theorem dX6_keepForUndo_39 : decode cX6_keepForUndo 39 = .ok (.putfield 322, 3) := by decide +kernel
theorem dX6_keepForUndo_42 : decode cX6_keepForUndo 42 = .ok (.aload_n 0, 1) := by decide +kernel
theorem dX6_keepForUndo_43 : decode cX6_keepForUndo 43 = .ok (.aload_n 0, 1) := by decide +kernel
theorem dX6_keepForUndo_44 : decode cX6_keepForUndo 44 = .ok (.getfield 92, 3) := by decide +kernel
theorem dX6_keepForUndo_47 : decode cX6_keepForUndo 47 = .ok (.iconst 1, 1) := by decide +kernel
theorem dX6_keepForUndo_48 : decode cX6_keepForUndo 48 = .ok (.iadd, 1) := by decide +kernel
theorem dX6_keepForUndo_49 : decode cX6_keepForUndo 49 = .ok (.bipush 8, 2) := by decide +kernel
theorem dX6_keepForUndo_51 : decode cX6_keepForUndo 51 = .ok (.invokestatic 340, 3) := by decide +kernel
theorem dX6_keepForUndo_54 : decode cX6_keepForUndo 54 = .ok (.putfield 92, 3) := by decide +kernel
theorem dX6_keepForUndo_57 : decode cX6_keepForUndo 57 = .ok (.return_, 1) := by decide +kernel
abbrev mX6_keepForUndo : KM := (RX6, cX6_keepForUndo, 1, none, { frames := 3, cells := 0, slots := 0, locals := 106 }, 0, 0)
def fX6_keepForUndo (σ : Sto) : Option Sto :=
  if kin 0 6 = true then
    if kin 0 6 = true then
      klet (su σ 4 (Int32.toNatClampNeg 0) ((σ 4 (Int32.toNatClampNeg 0)) + 1)) fun σ1 =>
      if kin ((σ1 0 3) &&& 7) 8 = true then
        (fX5_copyFrom (43 + 9 * ((σ1 0 3) &&& 7).toNatClampNeg) 25 σ1).bind fun r3 =>
        klet (su r3 0 3 (((r3 0 3) + 1) &&& 7)) fun σ6 =>
        klet (su σ6 0 4 (if 8 < ((σ6 0 4) + 1) then 8 else ((σ6 0 4) + 1))) fun σ7 =>
        some σ7
      else none
    else none
  else none
set_option maxHeartbeats 4000000 in
set_option maxRecDepth 100000 in
theorem tX6_keepForUndo (sh : KSh) (hk : KAG sh) (l : Launch) (hst : l.stackTraces = false) (σ : Sto) (r : Sto) (h : fX6_keepForUndo σ = some r) : CT sh l mX6_keepForUndo yX6_keepForUndo [.ref 0] σ (0, .int 0, r) := by
  refine kct [(0, .ref 0)] hst (by decide +kernel) rfl rfl (Nat.le_of_ble_eq_true rfl) ?_
  rw [fX6_keepForUndo] at h
  refine kv_aload_n (pc := 0) 0 dX6_keepForUndo_0 rfl rfl ?_
  refine kv_getR (pc := 1) (q2 := 4) dX6_keepForUndo_1 (ks_0 hk) rfl (i := 7) (by decide) rfl fl_X6_30 rfl rfl ?_
  refine kv_iconst (pc := 4) (v := 0) dX6_keepForUndo_4 (by decide) ?_
  refine kv_dup2 (pc := 5) dX6_keepForUndo_5 rfl rfl ?_
  refine kv_iald (pc := 6) dX6_keepForUndo_6 (ks_4 hk) h (fun h => ?_)
  refine kv_iconst (pc := 7) (v := 1) dX6_keepForUndo_7 (by decide) ?_
  refine kv_iadd (pc := 8) dX6_keepForUndo_8 ?_
  refine kv_iast (pc := 9) dX6_keepForUndo_9 (ks_4 hk) h (fun h => ?_)
  refine kv_let h (fun σ1 h => ?_)
  refine kv_aload_n (pc := 10) 0 dX6_keepForUndo_10 rfl rfl ?_
  refine kv_getR (pc := 11) (q2 := 1) dX6_keepForUndo_11 (ks_0 hk) rfl (i := 2) (by decide) rfl fl_X6_19 rfl rfl ?_
  refine kv_aload_n (pc := 14) 0 dX6_keepForUndo_14 rfl rfl ?_
  refine kv_getI (pc := 15) dX6_keepForUndo_15 (ks_0 hk) rfl (i := 3) (by decide) rfl fl_X6_322 rfl ?_
  refine kv_bipush (pc := 18) (v := 7) dX6_keepForUndo_18 (by decide) ?_
  refine kv_iand (pc := 20) dX6_keepForUndo_20 ?_
  refine kv_aald (pc := 21) (b := 40) dX6_keepForUndo_21 (ks_1 hk) h (fun c2 h => ?_)
  refine kv_aload_n (pc := 22) 0 dX6_keepForUndo_22 rfl rfl ?_
  refine kv_getR (pc := 23) (q2 := 25) dX6_keepForUndo_23 (ks_0 hk) rfl (i := 0) (by decide) rfl fl_X6_12 rfl rfl ?_
  refine kv_cV (pc := 26) [.ref 25] (fun r3 => (0, .int 0, r3)) (fun r3 => []) (fun r3 => r3) 29 0 0 h (fun r3 g4 => tX5_copyFrom sh (kwf_of hk) l hst (43 + 9 * ((σ1 0 3) &&& 7).toNatClampNeg) (ksa_past hk c2) 25 (ks_25 hk) σ1 r3 g4) dX6_keepForUndo_26 rfl (ksa_past hk c2) rfl yw_X5_copyFrom lk_X6_88 (by decide) (Nat.le_of_ble_eq_true rfl) (by decide) (fun _ => rfl) (fun _ => rfl) ⟨rfl, rfl, rfl⟩ (fun _ _ h0 => absurd rfl h0) (fun r3 g4 z5 h => ?_)
  refine kv_aload_n (pc := 29) 0 dX6_keepForUndo_29 rfl rfl ?_
  refine kv_aload_n (pc := 30) 0 dX6_keepForUndo_30 rfl rfl ?_
  refine kv_getI (pc := 31) dX6_keepForUndo_31 (ks_0 hk) rfl (i := 3) (by decide) rfl fl_X6_322 rfl ?_
  refine kv_iconst (pc := 34) (v := 1) dX6_keepForUndo_34 (by decide) ?_
  refine kv_iadd (pc := 35) dX6_keepForUndo_35 ?_
  refine kv_bipush (pc := 36) (v := 7) dX6_keepForUndo_36 (by decide) ?_
  refine kv_iand (pc := 38) dX6_keepForUndo_38 ?_
  refine kv_put (pc := 39) tyX6 tyX6_ok nmX6 dX6_keepForUndo_39 (ks_0 hk) rfl (i := 3) (by decide) rfl fl_X6_322 rfl rfl rfl rfl rfl ?_
  refine kv_let h (fun σ6 h => ?_)
  refine kv_aload_n (pc := 42) 0 dX6_keepForUndo_42 rfl rfl ?_
  refine kv_aload_n (pc := 43) 0 dX6_keepForUndo_43 rfl rfl ?_
  refine kv_getI (pc := 44) dX6_keepForUndo_44 (ks_0 hk) rfl (i := 4) (by decide) rfl fl_X6_92 rfl ?_
  refine kv_iconst (pc := 47) (v := 1) dX6_keepForUndo_47 (by decide) ?_
  refine kv_iadd (pc := 48) dX6_keepForUndo_48 ?_
  refine kv_bipush (pc := 49) (v := 8) dX6_keepForUndo_49 (by decide) ?_
  refine kv_min (pc := 51) dX6_keepForUndo_51 lk_X6_340 kw_min (by decide) (Nat.le_of_ble_eq_true rfl) (by decide) (by decide) ?_
  refine kv_put (pc := 54) tyX6 tyX6_ok nmX6 dX6_keepForUndo_54 (ks_0 hk) rfl (i := 4) (by decide) rfl fl_X6_92 rfl rfl rfl rfl rfl ?_
  refine kv_let h (fun σ7 h => ?_)
  exact kv_vret (pc := 57) (v := .int 0) dX6_keepForUndo_57 rfl (by cases h; rfl) (by decide) (by decide)
theorem yw_X6_keepForUndo : KMV yX6_keepForUndo mX6_keepForUndo RX6 0 := ⟨⟨rfl, by decide +kernel, by decide +kernel, by decide +kernel⟩, ⟨rfl, rfl⟩, kg_in 1079 (by decide +kernel) (by decide +kernel), kg_in 43 (by decide +kernel) (by decide +kernel), kg_in 47 (by decide +kernel) (by decide +kernel), kg_in 1080 (by decide +kernel) (by decide +kernel)⟩
theorem dX6_add_0 : decode cX6_add 0 = .ok (.aload_n 0, 1) := by decide +kernel
theorem dX6_add_1 : decode cX6_add 1 = .ok (.iload 4, 2) := by decide +kernel
theorem dX6_add_3 : decode cX6_add 3 = .ok (.iload 5, 2) := by decide +kernel
theorem dX6_add_5 : decode cX6_add 5 = .ok (.invokevirtual 176, 3) := by decide +kernel
theorem dX6_add_8 : decode cX6_add 8 = .ok (.istore 6, 2) := by decide +kernel
theorem dX6_add_10 : decode cX6_add 10 = .ok (.iload_n 1, 1) := by decide +kernel
theorem dX6_add_11 : decode cX6_add 11 = .ok (.iconst 0, 1) := by decide +kernel
theorem dX6_add_12 : decode cX6_add 12 = .ok (.iconst 3, 1) := by decide +kernel
theorem dX6_add_13 : decode cX6_add 13 = .ok (.invokestatic 80, 3) := by decide +kernel
theorem dX6_add_16 : decode cX6_add 16 = .ok (.iload_n 2, 1) := by decide +kernel
theorem dX6_add_17 : decode cX6_add 17 = .ok (.iconst 1, 1) := by decide +kernel
theorem dX6_add_18 : decode cX6_add 18 = .ok (.bipush 9, 2) := by decide +kernel
theorem dX6_add_20 : decode cX6_add 20 = .ok (.invokestatic 80, 3) := by decide +kernel
theorem dX6_add_23 : decode cX6_add 23 = .ok (.iload_n 3, 1) := by decide +kernel
theorem dX6_add_24 : decode cX6_add 24 = .ok (.iconst 1, 1) := by decide +kernel
theorem dX6_add_25 : decode cX6_add 25 = .ok (.bipush 9, 2) := by decide +kernel
theorem dX6_add_27 : decode cX6_add 27 = .ok (.invokestatic 80, 3) := by decide +kernel
theorem dX6_add_30 : decode cX6_add 30 = .ok (.aload_n 0, 1) := by decide +kernel
theorem dX6_add_31 : decode cX6_add 31 = .ok (.getfield 12, 3) := by decide +kernel
theorem dX6_add_34 : decode cX6_add 34 = .ok (.getfield 95, 3) := by decide +kernel
theorem dX6_add_37 : decode cX6_add 37 = .ok (.bipush 30, 2) := by decide +kernel
theorem dX6_add_39 : decode cX6_add 39 = .ok (.if_icmp .lt 9, 3) := by decide +kernel
theorem dX6_add_42 : decode cX6_add 42 = .ok (.aload_n 0, 1) := by decide +kernel
theorem dX6_add_43 : decode cX6_add 43 = .ok (.iconst 1, 1) := by decide +kernel
theorem dX6_add_44 : decode cX6_add 44 = .ok (.invokevirtual 260, 3) := by decide +kernel
theorem dX6_add_47 : decode cX6_add 47 = .ok (.ireturn, 1) := by decide +kernel
theorem dX6_add_48 : decode cX6_add 48 = .ok (.aload_n 0, 1) := by decide +kernel
theorem dX6_add_49 : decode cX6_add 49 = .ok (.getfield 12, 3) := by decide +kernel
theorem dX6_add_52 : decode cX6_add 52 = .ok (.iload 6, 2) := by decide +kernel
theorem dX6_add_54 : decode cX6_add 54 = .ok (.invokevirtual 180, 3) := by decide +kernel
theorem dX6_add_57 : decode cX6_add 57 = .ok (.iconst (-1), 1) := by decide +kernel
theorem dX6_add_58 : decode cX6_add 58 = .ok (.if_icmp .eq 9, 3) := by decide +kernel
theorem dX6_add_61 : decode cX6_add 61 = .ok (.aload_n 0, 1) := by decide +kernel
theorem dX6_add_62 : decode cX6_add 62 = .ok (.iconst 2, 1) := by decide +kernel
theorem dX6_add_63 : decode cX6_add 63 = .ok (.invokevirtual 260, 3) := by decide +kernel
theorem dX6_add_66 : decode cX6_add 66 = .ok (.ireturn, 1) := by decide +kernel
theorem dX6_add_67 : decode cX6_add 67 = .ok (.aload_n 0, 1) := by decide +kernel
theorem dX6_add_68 : decode cX6_add 68 = .ok (.invokevirtual 263, 3) := by decide +kernel
theorem dX6_add_71 : decode cX6_add 71 = .ok (.aload_n 0, 1) := by decide +kernel
theorem dX6_add_72 : decode cX6_add 72 = .ok (.getfield 12, 3) := by decide +kernel
theorem dX6_add_75 : decode cX6_add 75 = .ok (.iload_n 1, 1) := by decide +kernel
theorem dX6_add_76 : decode cX6_add 76 = .ok (.iload_n 2, 1) := by decide +kernel
theorem dX6_add_77 : decode cX6_add 77 = .ok (.iload_n 3, 1) := by decide +kernel
theorem dX6_add_78 : decode cX6_add 78 = .ok (.iload 6, 2) := by decide +kernel
theorem dX6_add_80 : decode cX6_add 80 = .ok (.invokevirtual 266, 3) := by decide +kernel
theorem dX6_add_83 : decode cX6_add 83 = .ok (.ireturn, 1) := by decide +kernel
abbrev mX6_add : KM := (RX6, cX6_add, 7, (some .int), { frames := 7, cells := 0, slots := 0, locals := 126 }, 0, 0)
def fX6_add (a1 : Int32) (a2 : Int32) (a3 : Int32) (a4 : Int32) (a5 : Int32) (σ : Sto) : Option KP :=
  (fX6_neededBoxCell a4 a5 σ).bind fun r1 =>
  if r1.1 = 0 then
    (fX6_needRange a1 0 3 σ).bind fun r4 =>
    if r4 = 0 then
      (fX6_needRange a2 1 9 σ).bind fun r7 =>
      if r7 = 0 then
        (fX6_needRange a3 1 9 σ).bind fun r10 =>
        if r10 = 0 then
          if (σ 25 8) < 30 then
            (fX5_chipOn 25 r1.2 σ).bind fun r13 =>
            if r13 = (-1) then
              (fX6_keepForUndo σ).bind fun r16 =>
              (fX5_bring 25 a1 a2 a3 r1.2 r16).bind fun r19 =>
              some (0, r19.1, r19.2)
            else
              (fX6_refused 2 σ).bind fun r22 =>
              some (0, r22.1, r22.2)
          else
            (fX6_refused 1 σ).bind fun r25 =>
            some (0, r25.1, r25.2)
        else some (r10, 0, σ)
      else some (r7, 0, σ)
    else some (r4, 0, σ)
  else some (r1.1, 0, σ)
set_option maxHeartbeats 4000000 in
set_option maxRecDepth 100000 in
theorem tX6_add (sh : KSh) (hk : KAG sh) (l : Launch) (hst : l.stackTraces = false) (a1 : Int32) (a2 : Int32) (a3 : Int32) (a4 : Int32) (a5 : Int32) (σ : Sto) (r : KP) (h : fX6_add a1 a2 a3 a4 a5 σ = some r) (hnt : r.1 = 0) : CT sh l mX6_add yX6_add [.ref 0, .int a1, .int a2, .int a3, .int a4, .int a5] σ (r.1, .int r.2.1, r.2.2) := by
  refine kct [(0, .ref 0), (1, .int a1), (2, .int a2), (3, .int a3), (4, .int a4), (5, .int a5)] hst (by decide +kernel) rfl rfl (Nat.le_of_ble_eq_true rfl) ?_
  rw [fX6_add] at h
  refine kv_aload_n (pc := 0) 0 dX6_add_0 rfl rfl ?_
  refine kv_iload (pc := 1) 4 dX6_add_1 rfl ?_
  refine kv_iload (pc := 3) 5 dX6_add_3 rfl ?_
  refine kv_cVn (pc := 5) [.int a4, .int a5] (fun r1 => (r1.1, .int r1.2, σ)) (fun r1 => (.int r1.2 :: [])) (fun r1 => σ) 8 0 0 h (fun r1 g2 hnt => tX6_neededBoxCell sh hk l hst a4 a5 σ r1 g2 hnt) dX6_add_5 rfl (ks_0 hk) rfl yw_X6_neededBoxCell lk_X6_176 (by decide) (Nat.le_of_ble_eq_true rfl) (by decide) (fun _ => rfl) (fun _ => rfl) ⟨rfl, rfl, rfl⟩ (fun r h => Decidable.byContradiction (fun h9 => by rw [if_neg h9] at h; cases h; exact h9 hnt)) (fun r1 g2 z3 h => ?_)
  rw [if_pos z3] at h
  refine kv_istore (pc := 8) [(6, .int r1.2), (0, .ref 0), (1, .int a1), (2, .int a2), (3, .int a3), (4, .int a4), (5, .int a5)] dX6_add_8 (by decide) rfl ?_
  refine kv_iload_n (pc := 10) 2 dX6_add_10 rfl rfl ?_
  refine kv_iconst (pc := 11) (v := 0) dX6_add_11 (by decide) ?_
  refine kv_iconst (pc := 12) (v := 3) dX6_add_12 (by decide) ?_
  refine kv_cSn (pc := 13) [.int a1, .int 0, .int 3] (fun r4 => (r4, .int 0, σ)) (fun r4 => []) (fun r4 => σ) 16 0 0 h (fun r4 g5 hnt => tX6_needRange sh hk l hst a1 0 3 σ r4 g5 hnt) dX6_add_13 rfl yw_X6_needRange lk_X6_80 (by decide) (Nat.le_of_ble_eq_true rfl) (by decide) (fun _ => rfl) (fun _ => rfl) ⟨rfl, rfl, rfl⟩ (fun r h => Decidable.byContradiction (fun h9 => by rw [if_neg h9] at h; cases h; exact h9 hnt)) (fun r4 g5 z6 h => ?_)
  rw [if_pos z6] at h
  refine kv_iload_n (pc := 16) 3 dX6_add_16 rfl rfl ?_
  refine kv_iconst (pc := 17) (v := 1) dX6_add_17 (by decide) ?_
  refine kv_bipush (pc := 18) (v := 9) dX6_add_18 (by decide) ?_
  refine kv_cSn (pc := 20) [.int a2, .int 1, .int 9] (fun r7 => (r7, .int 0, σ)) (fun r7 => []) (fun r7 => σ) 23 0 0 h (fun r7 g8 hnt => tX6_needRange sh hk l hst a2 1 9 σ r7 g8 hnt) dX6_add_20 rfl yw_X6_needRange lk_X6_80 (by decide) (Nat.le_of_ble_eq_true rfl) (by decide) (fun _ => rfl) (fun _ => rfl) ⟨rfl, rfl, rfl⟩ (fun r h => Decidable.byContradiction (fun h9 => by rw [if_neg h9] at h; cases h; exact h9 hnt)) (fun r7 g8 z9 h => ?_)
  rw [if_pos z9] at h
  refine kv_iload_n (pc := 23) 4 dX6_add_23 rfl rfl ?_
  refine kv_iconst (pc := 24) (v := 1) dX6_add_24 (by decide) ?_
  refine kv_bipush (pc := 25) (v := 9) dX6_add_25 (by decide) ?_
  refine kv_cSn (pc := 27) [.int a3, .int 1, .int 9] (fun r10 => (r10, .int 0, σ)) (fun r10 => []) (fun r10 => σ) 30 0 0 h (fun r10 g11 hnt => tX6_needRange sh hk l hst a3 1 9 σ r10 g11 hnt) dX6_add_27 rfl yw_X6_needRange lk_X6_80 (by decide) (Nat.le_of_ble_eq_true rfl) (by decide) (fun _ => rfl) (fun _ => rfl) ⟨rfl, rfl, rfl⟩ (fun r h => Decidable.byContradiction (fun h9 => by rw [if_neg h9] at h; cases h; exact h9 hnt)) (fun r10 g11 z12 h => ?_)
  rw [if_pos z12] at h
  refine kv_aload_n (pc := 30) 1 dX6_add_30 rfl rfl ?_
  refine kv_getR (pc := 31) (q2 := 25) dX6_add_31 (ks_0 hk) rfl (i := 0) (by decide) rfl fl_X6_12 rfl rfl ?_
  refine kv_getI (pc := 34) dX6_add_34 (ks_25 hk) rfl (i := 8) (by decide) rfl fl_X6_95 rfl ?_
  refine kv_bipush (pc := 37) (v := 30) dX6_add_37 (by decide) ?_
  refine kv_icmp_lt (pc := 39) (tgt := 48) dX6_add_39 (by decide) h (fun h => ?_) (fun h => ?_)
  · refine kv_aload_n (pc := 48) 1 dX6_add_48 rfl rfl ?_
    refine kv_getR (pc := 49) (q2 := 25) dX6_add_49 (ks_0 hk) rfl (i := 0) (by decide) rfl fl_X6_12 rfl rfl ?_
    refine kv_iload (pc := 52) 0 dX6_add_52 rfl ?_
    refine kv_cV (pc := 54) [.int r1.2] (fun r13 => (0, .int r13, σ)) (fun r13 => (.int r13 :: [])) (fun r13 => σ) 57 0 0 h (fun r13 g14 => tX5_chipOn sh (kwf_of hk) l hst 25 (ks_25 hk) r1.2 σ r13 g14) dX6_add_54 rfl (ks_25 hk) rfl yw_X5_chipOn lk_X6_180 (by decide) (Nat.le_of_ble_eq_true rfl) (by decide) (fun _ => rfl) (fun _ => rfl) ⟨rfl, rfl, rfl⟩ (fun _ _ h0 => absurd rfl h0) (fun r13 g14 z15 h => ?_)
    refine kv_iconst (pc := 57) (v := (-1)) dX6_add_57 (by decide) ?_
    refine kv_icmp_eq (pc := 58) (tgt := 67) dX6_add_58 (by decide) h (fun h => ?_) (fun h => ?_)
    · refine kv_aload_n (pc := 67) 1 dX6_add_67 rfl rfl ?_
      refine kv_cV (pc := 68) [] (fun r16 => (0, .int 0, r16)) (fun r16 => []) (fun r16 => r16) 71 0 0 h (fun r16 g17 => tX6_keepForUndo sh hk l hst  σ r16 g17) dX6_add_68 rfl (ks_0 hk) rfl yw_X6_keepForUndo lk_X6_263 (by decide) (Nat.le_of_ble_eq_true rfl) (by decide) (fun _ => rfl) (fun _ => rfl) ⟨rfl, rfl, rfl⟩ (fun _ _ h0 => absurd rfl h0) (fun r16 g17 z18 h => ?_)
      refine kv_aload_n (pc := 71) 1 dX6_add_71 rfl rfl ?_
      refine kv_getR (pc := 72) (q2 := 25) dX6_add_72 (ks_0 hk) rfl (i := 0) (by decide) rfl fl_X6_12 rfl rfl ?_
      refine kv_iload_n (pc := 75) 2 dX6_add_75 rfl rfl ?_
      refine kv_iload_n (pc := 76) 3 dX6_add_76 rfl rfl ?_
      refine kv_iload_n (pc := 77) 4 dX6_add_77 rfl rfl ?_
      refine kv_iload (pc := 78) 0 dX6_add_78 rfl ?_
      refine kv_cV (pc := 80) [.int a1, .int a2, .int a3, .int r1.2] (fun r19 => (0, .int r19.1, r19.2)) (fun r19 => (.int r19.1 :: [])) (fun r19 => r19.2) 83 0 0 h (fun r19 g20 => tX5_bring sh (kwf_of hk) l hst 25 (ks_25 hk) a1 a2 a3 r1.2 r16 r19 g20) dX6_add_80 rfl (ks_25 hk) rfl yw_X5_bring lk_X6_266 (by decide) (Nat.le_of_ble_eq_true rfl) (by decide) (fun _ => rfl) (fun _ => rfl) ⟨rfl, rfl, rfl⟩ (fun _ _ h0 => absurd rfl h0) (fun r19 g20 z21 h => ?_)
      exact kv_iret (pc := 83) dX6_add_83 rfl (by cases h; rfl) (by decide) (by decide)
    · refine kv_aload_n (pc := 61) 1 dX6_add_61 rfl rfl ?_
      refine kv_iconst (pc := 62) (v := 2) dX6_add_62 (by decide) ?_
      refine kv_cV (pc := 63) [.int 2] (fun r22 => (0, .int r22.1, r22.2)) (fun r22 => (.int r22.1 :: [])) (fun r22 => r22.2) 66 0 0 h (fun r22 g23 => tX6_refused sh hk l hst 2 σ r22 g23) dX6_add_63 rfl (ks_0 hk) rfl yw_X6_refused lk_X6_260 (by decide) (Nat.le_of_ble_eq_true rfl) (by decide) (fun _ => rfl) (fun _ => rfl) ⟨rfl, rfl, rfl⟩ (fun _ _ h0 => absurd rfl h0) (fun r22 g23 z24 h => ?_)
      exact kv_iret (pc := 66) dX6_add_66 rfl (by cases h; rfl) (by decide) (by decide)
  · refine kv_aload_n (pc := 42) 1 dX6_add_42 rfl rfl ?_
    refine kv_iconst (pc := 43) (v := 1) dX6_add_43 (by decide) ?_
    refine kv_cV (pc := 44) [.int 1] (fun r25 => (0, .int r25.1, r25.2)) (fun r25 => (.int r25.1 :: [])) (fun r25 => r25.2) 47 0 0 h (fun r25 g26 => tX6_refused sh hk l hst 1 σ r25 g26) dX6_add_44 rfl (ks_0 hk) rfl yw_X6_refused lk_X6_260 (by decide) (Nat.le_of_ble_eq_true rfl) (by decide) (fun _ => rfl) (fun _ => rfl) ⟨rfl, rfl, rfl⟩ (fun _ _ h0 => absurd rfl h0) (fun r25 g26 z27 h => ?_)
    exact kv_iret (pc := 47) dX6_add_47 rfl (by cases h; rfl) (by decide) (by decide)
theorem yw_X6_add : KMV yX6_add mX6_add RX6 5 := ⟨⟨rfl, by decide +kernel, by decide +kernel, by decide +kernel⟩, ⟨rfl, rfl⟩, kg_in 1070 (by decide +kernel) (by decide +kernel), kg_in 1071 (by decide +kernel) (by decide +kernel), kg_in 47 (by decide +kernel) (by decide +kernel), kg_in 1072 (by decide +kernel) (by decide +kernel)⟩
theorem dX6_take_0 : decode cX6_take 0 = .ok (.aload_n 0, 1) := by decide +kernel
theorem dX6_take_1 : decode cX6_take 1 = .ok (.iload_n 1, 1) := by decide +kernel
theorem dX6_take_2 : decode cX6_take 2 = .ok (.invokevirtual 153, 3) := by decide +kernel
theorem dX6_take_5 : decode cX6_take 5 = .ok (.aload_n 0, 1) := by decide +kernel
theorem dX6_take_6 : decode cX6_take 6 = .ok (.getfield 12, 3) := by decide +kernel
theorem dX6_take_9 : decode cX6_take 9 = .ok (.iload_n 1, 1) := by decide +kernel
theorem dX6_take_10 : decode cX6_take 10 = .ok (.invokevirtual 166, 3) := by decide +kernel
theorem dX6_take_13 : decode cX6_take 13 = .ok (.iconst (-1), 1) := by decide +kernel
theorem dX6_take_14 : decode cX6_take 14 = .ok (.if_icmp .ne 9, 3) := by decide +kernel
theorem dX6_take_17 : decode cX6_take 17 = .ok (.aload_n 0, 1) := by decide +kernel
theorem dX6_take_18 : decode cX6_take 18 = .ok (.iconst 3, 1) := by decide +kernel
theorem dX6_take_19 : decode cX6_take 19 = .ok (.invokevirtual 260, 3) := by decide +kernel
theorem dX6_take_22 : decode cX6_take 22 = .ok (.ireturn, 1) := by decide +kernel
theorem dX6_take_23 : decode cX6_take 23 = .ok (.aload_n 0, 1) := by decide +kernel
theorem dX6_take_24 : decode cX6_take 24 = .ok (.invokevirtual 263, 3) := by decide +kernel
theorem dX6_take_27 : decode cX6_take 27 = .ok (.aload_n 0, 1) := by decide +kernel
theorem dX6_take_28 : decode cX6_take 28 = .ok (.getfield 12, 3) := by decide +kernel
theorem dX6_take_31 : decode cX6_take 31 = .ok (.iload_n 1, 1) := by decide +kernel
theorem dX6_take_32 : decode cX6_take 32 = .ok (.invokevirtual 270, 3) := by decide +kernel
theorem dX6_take_35 : decode cX6_take 35 = .ok (.aload_n 0, 1) := by decide +kernel
theorem dX6_take_36 : decode cX6_take 36 = .ok (.getfield 12, 3) := by decide +kernel
theorem dX6_take_39 : decode cX6_take 39 = .ok (.invokevirtual 125, 3) := by decide +kernel
theorem dX6_take_42 : decode cX6_take 42 = .ok (.ireturn, 1) := by decide +kernel
abbrev mX6_take : KM := (RX6, cX6_take, 2, (some .int), { frames := 7, cells := 0, slots := 0, locals := 126 }, 0, 0)
def fX6_take (a1 : Int32) (σ : Sto) : Option KP :=
  (fX6_needChip a1 σ).bind fun r1 =>
  if r1 = 0 then
    (fX5_cellOf 25 a1 σ).bind fun r4 =>
    if r4 = (-1) then
      (fX6_refused 3 σ).bind fun r16 =>
      some (0, r16.1, r16.2)
    else
      (fX6_keepForUndo σ).bind fun r7 =>
      (fX5_takeOut 25 a1 r7).bind fun r10 =>
      (fX5_chipsInBox 25 r10).bind fun r13 =>
      some (0, r13, r10)
  else some (r1, 0, σ)
set_option maxHeartbeats 4000000 in
set_option maxRecDepth 100000 in
theorem tX6_take (sh : KSh) (hk : KAG sh) (l : Launch) (hst : l.stackTraces = false) (a1 : Int32) (σ : Sto) (r : KP) (h : fX6_take a1 σ = some r) (hnt : r.1 = 0) : CT sh l mX6_take yX6_take [.ref 0, .int a1] σ (r.1, .int r.2.1, r.2.2) := by
  refine kct [(0, .ref 0), (1, .int a1)] hst (by decide +kernel) rfl rfl (Nat.le_of_ble_eq_true rfl) ?_
  rw [fX6_take] at h
  refine kv_aload_n (pc := 0) 0 dX6_take_0 rfl rfl ?_
  refine kv_iload_n (pc := 1) 1 dX6_take_1 rfl rfl ?_
  refine kv_cVn (pc := 2) [.int a1] (fun r1 => (r1, .int 0, σ)) (fun r1 => []) (fun r1 => σ) 5 0 0 h (fun r1 g2 hnt => tX6_needChip sh hk l hst a1 σ r1 g2 hnt) dX6_take_2 rfl (ks_0 hk) rfl yw_X6_needChip lk_X6_153 (by decide) (Nat.le_of_ble_eq_true rfl) (by decide) (fun _ => rfl) (fun _ => rfl) ⟨rfl, rfl, rfl⟩ (fun r h => Decidable.byContradiction (fun h9 => by rw [if_neg h9] at h; cases h; exact h9 hnt)) (fun r1 g2 z3 h => ?_)
  rw [if_pos z3] at h
  refine kv_aload_n (pc := 5) 0 dX6_take_5 rfl rfl ?_
  refine kv_getR (pc := 6) (q2 := 25) dX6_take_6 (ks_0 hk) rfl (i := 0) (by decide) rfl fl_X6_12 rfl rfl ?_
  refine kv_iload_n (pc := 9) 1 dX6_take_9 rfl rfl ?_
  refine kv_cV (pc := 10) [.int a1] (fun r4 => (0, .int r4, σ)) (fun r4 => (.int r4 :: [])) (fun r4 => σ) 13 0 0 h (fun r4 g5 => tX5_cellOf sh (kwf_of hk) l hst 25 (ks_25 hk) a1 σ r4 g5) dX6_take_10 rfl (ks_25 hk) rfl yw_X5_cellOf lk_X6_166 (by decide) (Nat.le_of_ble_eq_true rfl) (by decide) (fun _ => rfl) (fun _ => rfl) ⟨rfl, rfl, rfl⟩ (fun _ _ h0 => absurd rfl h0) (fun r4 g5 z6 h => ?_)
  refine kv_iconst (pc := 13) (v := (-1)) dX6_take_13 (by decide) ?_
  refine kv_icmp_ne (pc := 14) (tgt := 23) dX6_take_14 (by decide) h (fun h => ?_) (fun h => ?_)
  · refine kv_aload_n (pc := 23) 0 dX6_take_23 rfl rfl ?_
    refine kv_cV (pc := 24) [] (fun r7 => (0, .int 0, r7)) (fun r7 => []) (fun r7 => r7) 27 0 0 h (fun r7 g8 => tX6_keepForUndo sh hk l hst  σ r7 g8) dX6_take_24 rfl (ks_0 hk) rfl yw_X6_keepForUndo lk_X6_263 (by decide) (Nat.le_of_ble_eq_true rfl) (by decide) (fun _ => rfl) (fun _ => rfl) ⟨rfl, rfl, rfl⟩ (fun _ _ h0 => absurd rfl h0) (fun r7 g8 z9 h => ?_)
    refine kv_aload_n (pc := 27) 0 dX6_take_27 rfl rfl ?_
    refine kv_getR (pc := 28) (q2 := 25) dX6_take_28 (ks_0 hk) rfl (i := 0) (by decide) rfl fl_X6_12 rfl rfl ?_
    refine kv_iload_n (pc := 31) 1 dX6_take_31 rfl rfl ?_
    refine kv_cV (pc := 32) [.int a1] (fun r10 => (0, .int 0, r10)) (fun r10 => []) (fun r10 => r10) 35 0 0 h (fun r10 g11 => tX5_takeOut sh (kwf_of hk) l hst 25 (ks_25 hk) a1 r7 r10 g11) dX6_take_32 rfl (ks_25 hk) rfl yw_X5_takeOut lk_X6_270 (by decide) (Nat.le_of_ble_eq_true rfl) (by decide) (fun _ => rfl) (fun _ => rfl) ⟨rfl, rfl, rfl⟩ (fun _ _ h0 => absurd rfl h0) (fun r10 g11 z12 h => ?_)
    refine kv_aload_n (pc := 35) 0 dX6_take_35 rfl rfl ?_
    refine kv_getR (pc := 36) (q2 := 25) dX6_take_36 (ks_0 hk) rfl (i := 0) (by decide) rfl fl_X6_12 rfl rfl ?_
    refine kv_cV (pc := 39) [] (fun r13 => (0, .int r13, r10)) (fun r13 => (.int r13 :: [])) (fun r13 => r10) 42 0 0 h (fun r13 g14 => tX5_chipsInBox sh (kwf_of hk) l hst 25 (ks_25 hk) r10 r13 g14) dX6_take_39 rfl (ks_25 hk) rfl yw_X5_chipsInBox lk_X6_125 (by decide) (Nat.le_of_ble_eq_true rfl) (by decide) (fun _ => rfl) (fun _ => rfl) ⟨rfl, rfl, rfl⟩ (fun _ _ h0 => absurd rfl h0) (fun r13 g14 z15 h => ?_)
    exact kv_iret (pc := 42) dX6_take_42 rfl (by cases h; rfl) (by decide) (by decide)
  · refine kv_aload_n (pc := 17) 0 dX6_take_17 rfl rfl ?_
    refine kv_iconst (pc := 18) (v := 3) dX6_take_18 (by decide) ?_
    refine kv_cV (pc := 19) [.int 3] (fun r16 => (0, .int r16.1, r16.2)) (fun r16 => (.int r16.1 :: [])) (fun r16 => r16.2) 22 0 0 h (fun r16 g17 => tX6_refused sh hk l hst 3 σ r16 g17) dX6_take_19 rfl (ks_0 hk) rfl yw_X6_refused lk_X6_260 (by decide) (Nat.le_of_ble_eq_true rfl) (by decide) (fun _ => rfl) (fun _ => rfl) ⟨rfl, rfl, rfl⟩ (fun _ _ h0 => absurd rfl h0) (fun r16 g17 z18 h => ?_)
    exact kv_iret (pc := 22) dX6_take_22 rfl (by cases h; rfl) (by decide) (by decide)
theorem yw_X6_take : KMV yX6_take mX6_take RX6 1 := ⟨⟨rfl, by decide +kernel, by decide +kernel, by decide +kernel⟩, ⟨rfl, rfl⟩, kg_in 1137 (by decide +kernel) (by decide +kernel), kg_in 1138 (by decide +kernel) (by decide +kernel), kg_in 47 (by decide +kernel) (by decide +kernel), kg_in 1139 (by decide +kernel) (by decide +kernel)⟩
theorem dX6_paint_0 : decode cX6_paint 0 = .ok (.aload_n 0, 1) := by decide +kernel
theorem dX6_paint_1 : decode cX6_paint 1 = .ok (.iload_n 1, 1) := by decide +kernel
theorem dX6_paint_2 : decode cX6_paint 2 = .ok (.invokevirtual 153, 3) := by decide +kernel
theorem dX6_paint_5 : decode cX6_paint 5 = .ok (.iload_n 2, 1) := by decide +kernel
theorem dX6_paint_6 : decode cX6_paint 6 = .ok (.iconst 1, 1) := by decide +kernel
theorem dX6_paint_7 : decode cX6_paint 7 = .ok (.bipush 9, 2) := by decide +kernel
theorem dX6_paint_9 : decode cX6_paint 9 = .ok (.invokestatic 80, 3) := by decide +kernel
theorem dX6_paint_12 : decode cX6_paint 12 = .ok (.aload_n 0, 1) := by decide +kernel
theorem dX6_paint_13 : decode cX6_paint 13 = .ok (.getfield 12, 3) := by decide +kernel
theorem dX6_paint_16 : decode cX6_paint 16 = .ok (.iload_n 1, 1) := by decide +kernel
theorem dX6_paint_17 : decode cX6_paint 17 = .ok (.invokevirtual 166, 3) := by decide +kernel
theorem dX6_paint_20 : decode cX6_paint 20 = .ok (.iconst (-1), 1) := by decide +kernel
theorem dX6_paint_21 : decode cX6_paint 21 = .ok (.if_icmp .ne 9, 3) := by decide +kernel
theorem dX6_paint_24 : decode cX6_paint 24 = .ok (.aload_n 0, 1) := by decide +kernel
theorem dX6_paint_25 : decode cX6_paint 25 = .ok (.iconst 3, 1) := by decide +kernel
theorem dX6_paint_26 : decode cX6_paint 26 = .ok (.invokevirtual 260, 3) := by decide +kernel
theorem dX6_paint_29 : decode cX6_paint 29 = .ok (.ireturn, 1) := by decide +kernel
theorem dX6_paint_30 : decode cX6_paint 30 = .ok (.aload_n 0, 1) := by decide +kernel
theorem dX6_paint_31 : decode cX6_paint 31 = .ok (.invokevirtual 263, 3) := by decide +kernel
theorem dX6_paint_34 : decode cX6_paint 34 = .ok (.aload_n 0, 1) := by decide +kernel
theorem dX6_paint_35 : decode cX6_paint 35 = .ok (.getfield 12, 3) := by decide +kernel
theorem dX6_paint_38 : decode cX6_paint 38 = .ok (.iload_n 1, 1) := by decide +kernel
theorem dX6_paint_39 : decode cX6_paint 39 = .ok (.iload_n 2, 1) := by decide +kernel
theorem dX6_paint_40 : decode cX6_paint 40 = .ok (.invokevirtual 283, 3) := by decide +kernel
theorem dX6_paint_43 : decode cX6_paint 43 = .ok (.aload_n 0, 1) := by decide +kernel
theorem dX6_paint_44 : decode cX6_paint 44 = .ok (.iload_n 2, 1) := by decide +kernel
theorem dX6_paint_45 : decode cX6_paint 45 = .ok (.invokevirtual 212, 3) := by decide +kernel
theorem dX6_paint_48 : decode cX6_paint 48 = .ok (.ireturn, 1) := by decide +kernel
abbrev mX6_paint : KM := (RX6, cX6_paint, 3, (some .int), { frames := 7, cells := 0, slots := 0, locals := 136 }, 0, 0)
def fX6_paint (a1 : Int32) (a2 : Int32) (σ : Sto) : Option KP :=
  (fX6_needChip a1 σ).bind fun r1 =>
  if r1 = 0 then
    (fX6_needRange a2 1 9 σ).bind fun r4 =>
    if r4 = 0 then
      (fX5_cellOf 25 a1 σ).bind fun r7 =>
      if r7 = (-1) then
        (fX6_refused 3 σ).bind fun r19 =>
        some (0, r19.1, r19.2)
      else
        (fX6_keepForUndo σ).bind fun r10 =>
        (fX5_recolour 25 a1 a2 r10).bind fun r13 =>
        (fX6_cellsNow a2 r13).bind fun r16 =>
        some (0, r16.1, r16.2)
    else some (r4, 0, σ)
  else some (r1, 0, σ)
set_option maxHeartbeats 4000000 in
set_option maxRecDepth 100000 in
theorem tX6_paint (sh : KSh) (hk : KAG sh) (l : Launch) (hst : l.stackTraces = false) (a1 : Int32) (a2 : Int32) (σ : Sto) (r : KP) (h : fX6_paint a1 a2 σ = some r) (hnt : r.1 = 0) : CT sh l mX6_paint yX6_paint [.ref 0, .int a1, .int a2] σ (r.1, .int r.2.1, r.2.2) := by
  refine kct [(0, .ref 0), (1, .int a1), (2, .int a2)] hst (by decide +kernel) rfl rfl (Nat.le_of_ble_eq_true rfl) ?_
  rw [fX6_paint] at h
  refine kv_aload_n (pc := 0) 0 dX6_paint_0 rfl rfl ?_
  refine kv_iload_n (pc := 1) 1 dX6_paint_1 rfl rfl ?_
  refine kv_cVn (pc := 2) [.int a1] (fun r1 => (r1, .int 0, σ)) (fun r1 => []) (fun r1 => σ) 5 0 0 h (fun r1 g2 hnt => tX6_needChip sh hk l hst a1 σ r1 g2 hnt) dX6_paint_2 rfl (ks_0 hk) rfl yw_X6_needChip lk_X6_153 (by decide) (Nat.le_of_ble_eq_true rfl) (by decide) (fun _ => rfl) (fun _ => rfl) ⟨rfl, rfl, rfl⟩ (fun r h => Decidable.byContradiction (fun h9 => by rw [if_neg h9] at h; cases h; exact h9 hnt)) (fun r1 g2 z3 h => ?_)
  rw [if_pos z3] at h
  refine kv_iload_n (pc := 5) 2 dX6_paint_5 rfl rfl ?_
  refine kv_iconst (pc := 6) (v := 1) dX6_paint_6 (by decide) ?_
  refine kv_bipush (pc := 7) (v := 9) dX6_paint_7 (by decide) ?_
  refine kv_cSn (pc := 9) [.int a2, .int 1, .int 9] (fun r4 => (r4, .int 0, σ)) (fun r4 => []) (fun r4 => σ) 12 0 0 h (fun r4 g5 hnt => tX6_needRange sh hk l hst a2 1 9 σ r4 g5 hnt) dX6_paint_9 rfl yw_X6_needRange lk_X6_80 (by decide) (Nat.le_of_ble_eq_true rfl) (by decide) (fun _ => rfl) (fun _ => rfl) ⟨rfl, rfl, rfl⟩ (fun r h => Decidable.byContradiction (fun h9 => by rw [if_neg h9] at h; cases h; exact h9 hnt)) (fun r4 g5 z6 h => ?_)
  rw [if_pos z6] at h
  refine kv_aload_n (pc := 12) 0 dX6_paint_12 rfl rfl ?_
  refine kv_getR (pc := 13) (q2 := 25) dX6_paint_13 (ks_0 hk) rfl (i := 0) (by decide) rfl fl_X6_12 rfl rfl ?_
  refine kv_iload_n (pc := 16) 1 dX6_paint_16 rfl rfl ?_
  refine kv_cV (pc := 17) [.int a1] (fun r7 => (0, .int r7, σ)) (fun r7 => (.int r7 :: [])) (fun r7 => σ) 20 0 0 h (fun r7 g8 => tX5_cellOf sh (kwf_of hk) l hst 25 (ks_25 hk) a1 σ r7 g8) dX6_paint_17 rfl (ks_25 hk) rfl yw_X5_cellOf lk_X6_166 (by decide) (Nat.le_of_ble_eq_true rfl) (by decide) (fun _ => rfl) (fun _ => rfl) ⟨rfl, rfl, rfl⟩ (fun _ _ h0 => absurd rfl h0) (fun r7 g8 z9 h => ?_)
  refine kv_iconst (pc := 20) (v := (-1)) dX6_paint_20 (by decide) ?_
  refine kv_icmp_ne (pc := 21) (tgt := 30) dX6_paint_21 (by decide) h (fun h => ?_) (fun h => ?_)
  · refine kv_aload_n (pc := 30) 0 dX6_paint_30 rfl rfl ?_
    refine kv_cV (pc := 31) [] (fun r10 => (0, .int 0, r10)) (fun r10 => []) (fun r10 => r10) 34 0 0 h (fun r10 g11 => tX6_keepForUndo sh hk l hst  σ r10 g11) dX6_paint_31 rfl (ks_0 hk) rfl yw_X6_keepForUndo lk_X6_263 (by decide) (Nat.le_of_ble_eq_true rfl) (by decide) (fun _ => rfl) (fun _ => rfl) ⟨rfl, rfl, rfl⟩ (fun _ _ h0 => absurd rfl h0) (fun r10 g11 z12 h => ?_)
    refine kv_aload_n (pc := 34) 0 dX6_paint_34 rfl rfl ?_
    refine kv_getR (pc := 35) (q2 := 25) dX6_paint_35 (ks_0 hk) rfl (i := 0) (by decide) rfl fl_X6_12 rfl rfl ?_
    refine kv_iload_n (pc := 38) 1 dX6_paint_38 rfl rfl ?_
    refine kv_iload_n (pc := 39) 2 dX6_paint_39 rfl rfl ?_
    refine kv_cV (pc := 40) [.int a1, .int a2] (fun r13 => (0, .int 0, r13)) (fun r13 => []) (fun r13 => r13) 43 0 0 h (fun r13 g14 => tX5_recolour sh (kwf_of hk) l hst 25 (ks_25 hk) a1 a2 r10 r13 g14) dX6_paint_40 rfl (ks_25 hk) rfl yw_X5_recolour lk_X6_283 (by decide) (Nat.le_of_ble_eq_true rfl) (by decide) (fun _ => rfl) (fun _ => rfl) ⟨rfl, rfl, rfl⟩ (fun _ _ h0 => absurd rfl h0) (fun r13 g14 z15 h => ?_)
    refine kv_aload_n (pc := 43) 0 dX6_paint_43 rfl rfl ?_
    refine kv_iload_n (pc := 44) 2 dX6_paint_44 rfl rfl ?_
    refine kv_cV (pc := 45) [.int a2] (fun r16 => (0, .int r16.1, r16.2)) (fun r16 => (.int r16.1 :: [])) (fun r16 => r16.2) 48 0 0 h (fun r16 g17 => tX6_cellsNow sh hk l hst a2 r13 r16 g17) dX6_paint_45 rfl (ks_0 hk) rfl yw_X6_cellsNow lk_X6_212 (by decide) (Nat.le_of_ble_eq_true rfl) (by decide) (fun _ => rfl) (fun _ => rfl) ⟨rfl, rfl, rfl⟩ (fun _ _ h0 => absurd rfl h0) (fun r16 g17 z18 h => ?_)
    exact kv_iret (pc := 48) dX6_paint_48 rfl (by cases h; rfl) (by decide) (by decide)
  · refine kv_aload_n (pc := 24) 0 dX6_paint_24 rfl rfl ?_
    refine kv_iconst (pc := 25) (v := 3) dX6_paint_25 (by decide) ?_
    refine kv_cV (pc := 26) [.int 3] (fun r19 => (0, .int r19.1, r19.2)) (fun r19 => (.int r19.1 :: [])) (fun r19 => r19.2) 29 0 0 h (fun r19 g20 => tX6_refused sh hk l hst 3 σ r19 g20) dX6_paint_26 rfl (ks_0 hk) rfl yw_X6_refused lk_X6_260 (by decide) (Nat.le_of_ble_eq_true rfl) (by decide) (fun _ => rfl) (fun _ => rfl) ⟨rfl, rfl, rfl⟩ (fun _ _ h0 => absurd rfl h0) (fun r19 g20 z21 h => ?_)
    exact kv_iret (pc := 29) dX6_paint_29 rfl (by cases h; rfl) (by decide) (by decide)
theorem yw_X6_paint : KMV yX6_paint mX6_paint RX6 2 := ⟨⟨rfl, by decide +kernel, by decide +kernel, by decide +kernel⟩, ⟨rfl, rfl⟩, kg_in 1129 (by decide +kernel) (by decide +kernel), kg_in 1130 (by decide +kernel) (by decide +kernel), kg_in 47 (by decide +kernel) (by decide +kernel), kg_in 1131 (by decide +kernel) (by decide +kernel)⟩
theorem dX6_turn_0 : decode cX6_turn 0 = .ok (.iload_n 1, 1) := by decide +kernel
theorem dX6_turn_1 : decode cX6_turn 1 = .ok (.iconst 1, 1) := by decide +kernel
theorem dX6_turn_2 : decode cX6_turn 2 = .ok (.bipush 7, 2) := by decide +kernel
theorem dX6_turn_4 : decode cX6_turn 4 = .ok (.invokestatic 80, 3) := by decide +kernel
theorem dX6_turn_7 : decode cX6_turn 7 = .ok (.aload_n 0, 1) := by decide +kernel
theorem dX6_turn_8 : decode cX6_turn 8 = .ok (.invokevirtual 263, 3) := by decide +kernel
theorem dX6_turn_11 : decode cX6_turn 11 = .ok (.aload_n 0, 1) := by decide +kernel
theorem dX6_turn_12 : decode cX6_turn 12 = .ok (.getfield 12, 3) := by decide +kernel
theorem dX6_turn_15 : decode cX6_turn 15 = .ok (.iload_n 1, 1) := by decide +kernel
theorem dX6_turn_16 : decode cX6_turn 16 = .ok (.invokevirtual 286, 3) := by decide +kernel
theorem dX6_turn_19 : decode cX6_turn 19 = .ok (.aload_n 0, 1) := by decide +kernel
theorem dX6_turn_20 : decode cX6_turn 20 = .ok (.getfield 12, 3) := by decide +kernel
theorem dX6_turn_23 : decode cX6_turn 23 = .ok (.getfield 116, 3) := by decide +kernel
theorem dX6_turn_26 : decode cX6_turn 26 = .ok (.ireturn, 1) := by decide +kernel
abbrev mX6_turn : KM := (RX6, cX6_turn, 2, (some .int), { frames := 7, cells := 0, slots := 0, locals := 126 }, 0, 0)
def fX6_turn (a1 : Int32) (σ : Sto) : Option KP :=
  (fX6_needRange a1 1 7 σ).bind fun r1 =>
  if r1 = 0 then
    (fX6_keepForUndo σ).bind fun r4 =>
    (some (fX5_turnBy 25 a1 r4)).bind fun r7 =>
    some (0, (r7 25 1), r7)
  else some (r1, 0, σ)
set_option maxHeartbeats 4000000 in
set_option maxRecDepth 100000 in
theorem tX6_turn (sh : KSh) (hk : KAG sh) (l : Launch) (hst : l.stackTraces = false) (a1 : Int32) (σ : Sto) (r : KP) (h : fX6_turn a1 σ = some r) (hnt : r.1 = 0) : CT sh l mX6_turn yX6_turn [.ref 0, .int a1] σ (r.1, .int r.2.1, r.2.2) := by
  refine kct [(0, .ref 0), (1, .int a1)] hst (by decide +kernel) rfl rfl (Nat.le_of_ble_eq_true rfl) ?_
  rw [fX6_turn] at h
  refine kv_iload_n (pc := 0) 1 dX6_turn_0 rfl rfl ?_
  refine kv_iconst (pc := 1) (v := 1) dX6_turn_1 (by decide) ?_
  refine kv_bipush (pc := 2) (v := 7) dX6_turn_2 (by decide) ?_
  refine kv_cSn (pc := 4) [.int a1, .int 1, .int 7] (fun r1 => (r1, .int 0, σ)) (fun r1 => []) (fun r1 => σ) 7 0 0 h (fun r1 g2 hnt => tX6_needRange sh hk l hst a1 1 7 σ r1 g2 hnt) dX6_turn_4 rfl yw_X6_needRange lk_X6_80 (by decide) (Nat.le_of_ble_eq_true rfl) (by decide) (fun _ => rfl) (fun _ => rfl) ⟨rfl, rfl, rfl⟩ (fun r h => Decidable.byContradiction (fun h9 => by rw [if_neg h9] at h; cases h; exact h9 hnt)) (fun r1 g2 z3 h => ?_)
  rw [if_pos z3] at h
  refine kv_aload_n (pc := 7) 0 dX6_turn_7 rfl rfl ?_
  refine kv_cV (pc := 8) [] (fun r4 => (0, .int 0, r4)) (fun r4 => []) (fun r4 => r4) 11 0 0 h (fun r4 g5 => tX6_keepForUndo sh hk l hst  σ r4 g5) dX6_turn_8 rfl (ks_0 hk) rfl yw_X6_keepForUndo lk_X6_263 (by decide) (Nat.le_of_ble_eq_true rfl) (by decide) (fun _ => rfl) (fun _ => rfl) ⟨rfl, rfl, rfl⟩ (fun _ _ h0 => absurd rfl h0) (fun r4 g5 z6 h => ?_)
  refine kv_aload_n (pc := 11) 0 dX6_turn_11 rfl rfl ?_
  refine kv_getR (pc := 12) (q2 := 25) dX6_turn_12 (ks_0 hk) rfl (i := 0) (by decide) rfl fl_X6_12 rfl rfl ?_
  refine kv_iload_n (pc := 15) 1 dX6_turn_15 rfl rfl ?_
  refine kv_cV (pc := 16) [.int a1] (fun r7 => (0, .int 0, r7)) (fun r7 => []) (fun r7 => r7) 19 0 0 h (fun r7 g8 => by cases g8; exact tX5_turnBy sh (kwf_of hk) l hst 25 (ks_25 hk) a1 r4) dX6_turn_16 rfl (ks_25 hk) rfl yw_X5_turnBy lk_X6_286 (by decide) (Nat.le_of_ble_eq_true rfl) (by decide) (fun _ => rfl) (fun _ => rfl) ⟨rfl, rfl, rfl⟩ (fun _ _ h0 => absurd rfl h0) (fun r7 g8 z9 h => ?_)
  refine kv_aload_n (pc := 19) 0 dX6_turn_19 rfl rfl ?_
  refine kv_getR (pc := 20) (q2 := 25) dX6_turn_20 (ks_0 hk) rfl (i := 0) (by decide) rfl fl_X6_12 rfl rfl ?_
  refine kv_getI (pc := 23) dX6_turn_23 (ks_25 hk) rfl (i := 1) (by decide) rfl fl_X6_116 rfl ?_
  exact kv_iret (pc := 26) dX6_turn_26 rfl (by cases h; rfl) (by decide) (by decide)
theorem yw_X6_turn : KMV yX6_turn mX6_turn RX6 1 := ⟨⟨rfl, by decide +kernel, by decide +kernel, by decide +kernel⟩, ⟨rfl, rfl⟩, kg_in 1125 (by decide +kernel) (by decide +kernel), kg_in 1126 (by decide +kernel) (by decide +kernel), kg_in 47 (by decide +kernel) (by decide +kernel), kg_in 1127 (by decide +kernel) (by decide +kernel)⟩
theorem dX6_movesOfNextTick_0 : decode cX6_movesOfNextTick 0 = .ok (.aload_n 0, 1) := by decide +kernel
theorem dX6_movesOfNextTick_1 : decode cX6_movesOfNextTick 1 = .ok (.getfield 16, 3) := by decide +kernel
theorem dX6_movesOfNextTick_4 : decode cX6_movesOfNextTick 4 = .ok (.aload_n 0, 1) := by decide +kernel
theorem dX6_movesOfNextTick_5 : decode cX6_movesOfNextTick 5 = .ok (.getfield 12, 3) := by decide +kernel
theorem dX6_movesOfNextTick_8 : decode cX6_movesOfNextTick 8 = .ok (.invokevirtual 88, 3) := by decide +kernel
theorem dX6_movesOfNextTick_11 : decode cX6_movesOfNextTick 11 = .ok (.aload_n 0, 1) := by decide +kernel
theorem dX6_movesOfNextTick_12 : decode cX6_movesOfNextTick 12 = .ok (.getfield 54, 3) := by decide +kernel
theorem dX6_movesOfNextTick_15 : decode cX6_movesOfNextTick 15 = .ok (.aload_n 0, 1) := by decide +kernel
theorem dX6_movesOfNextTick_16 : decode cX6_movesOfNextTick 16 = .ok (.getfield 16, 3) := by decide +kernel
theorem dX6_movesOfNextTick_19 : decode cX6_movesOfNextTick 19 = .ok (.invokevirtual 345, 3) := by decide +kernel
theorem dX6_movesOfNextTick_22 : decode cX6_movesOfNextTick 22 = .ok (.ireturn, 1) := by decide +kernel
abbrev mX6_movesOfNextTick : KM := (RX6, cX6_movesOfNextTick, 1, (some .int), { frames := 6, cells := 0, slots := 0, locals := 137 }, 0, 0)
def fX6_movesOfNextTick (σ : Sto) : Option (Int32 × Sto) :=
  (fX5_copyFrom 34 25 σ).bind fun r1 =>
  (fX0_makeTick 21 34 r1).bind fun r4 =>
  some (r4.1, r4.2)
set_option maxHeartbeats 4000000 in
set_option maxRecDepth 100000 in
theorem tX6_movesOfNextTick (sh : KSh) (hk : KAG sh) (l : Launch) (hst : l.stackTraces = false) (σ : Sto) (r : (Int32 × Sto)) (h : fX6_movesOfNextTick σ = some r) : CT sh l mX6_movesOfNextTick yX6_movesOfNextTick [.ref 0] σ (0, .int r.1, r.2) := by
  refine kct [(0, .ref 0)] hst (by decide +kernel) rfl rfl (Nat.le_of_ble_eq_true rfl) ?_
  rw [fX6_movesOfNextTick] at h
  refine kv_aload_n (pc := 0) 0 dX6_movesOfNextTick_0 rfl rfl ?_
  refine kv_getR (pc := 1) (q2 := 34) dX6_movesOfNextTick_1 (ks_0 hk) rfl (i := 1) (by decide) rfl fl_X6_16 rfl rfl ?_
  refine kv_aload_n (pc := 4) 0 dX6_movesOfNextTick_4 rfl rfl ?_
  refine kv_getR (pc := 5) (q2 := 25) dX6_movesOfNextTick_5 (ks_0 hk) rfl (i := 0) (by decide) rfl fl_X6_12 rfl rfl ?_
  refine kv_cV (pc := 8) [.ref 25] (fun r1 => (0, .int 0, r1)) (fun r1 => []) (fun r1 => r1) 11 0 0 h (fun r1 g2 => tX5_copyFrom sh (kwf_of hk) l hst 34 (ks_34 hk) 25 (ks_25 hk) σ r1 g2) dX6_movesOfNextTick_8 rfl (ks_34 hk) rfl yw_X5_copyFrom lk_X6_88 (by decide) (Nat.le_of_ble_eq_true rfl) (by decide) (fun _ => rfl) (fun _ => rfl) ⟨rfl, rfl, rfl⟩ (fun _ _ h0 => absurd rfl h0) (fun r1 g2 z3 h => ?_)
  refine kv_aload_n (pc := 11) 0 dX6_movesOfNextTick_11 rfl rfl ?_
  refine kv_getR (pc := 12) (q2 := 21) dX6_movesOfNextTick_12 (ks_0 hk) rfl (i := 11) (by decide) rfl fl_X6_54 rfl rfl ?_
  refine kv_aload_n (pc := 15) 0 dX6_movesOfNextTick_15 rfl rfl ?_
  refine kv_getR (pc := 16) (q2 := 34) dX6_movesOfNextTick_16 (ks_0 hk) rfl (i := 1) (by decide) rfl fl_X6_16 rfl rfl ?_
  refine kv_cV (pc := 19) [.ref 34] (fun r4 => (0, .int r4.1, r4.2)) (fun r4 => (.int r4.1 :: [])) (fun r4 => r4.2) 22 0 0 h (fun r4 g5 => tX0_makeTick sh (kwf_of hk) l hst 21 (ks_21 hk) 34 (ks_34 hk) r1 r4 g5) dX6_movesOfNextTick_19 rfl (ks_21 hk) rfl yw_X0_makeTick lk_X6_345 (by decide) (Nat.le_of_ble_eq_true rfl) (by decide) (fun _ => rfl) (fun _ => rfl) ⟨rfl, rfl, rfl⟩ (fun _ _ h0 => absurd rfl h0) (fun r4 g5 z6 h => ?_)
  exact kv_iret (pc := 22) dX6_movesOfNextTick_22 rfl (by cases h; rfl) (by decide) (by decide)
theorem yw_X6_movesOfNextTick : KMV yX6_movesOfNextTick mX6_movesOfNextTick RX6 0 := ⟨⟨rfl, by decide +kernel, by decide +kernel, by decide +kernel⟩, ⟨rfl, rfl⟩, kg_in 744 (by decide +kernel) (by decide +kernel), kg_in 30 (by decide +kernel) (by decide +kernel), kg_in 47 (by decide +kernel) (by decide +kernel), kg_in 745 (by decide +kernel) (by decide +kernel)⟩
theorem dX6_tick_0 : decode cX6_tick 0 = .ok (.aload_n 0, 1) := by decide +kernel
theorem dX6_tick_1 : decode cX6_tick 1 = .ok (.invokevirtual 280, 3) := by decide +kernel
theorem dX6_tick_4 : decode cX6_tick 4 = .ok (.istore_n 1, 1) := by decide +kernel
theorem dX6_tick_5 : decode cX6_tick 5 = .ok (.iload_n 1, 1) := by decide +kernel
theorem dX6_tick_6 : decode cX6_tick 6 = .ok (.ifCond .ne 9, 3) := by decide +kernel
theorem dX6_tick_9 : decode cX6_tick 9 = .ok (.aload_n 0, 1) := by decide +kernel
theorem dX6_tick_10 : decode cX6_tick 10 = .ok (.iconst 5, 1) := by decide +kernel
theorem dX6_tick_11 : decode cX6_tick 11 = .ok (.invokevirtual 260, 3) := by decide +kernel
theorem dX6_tick_14 : decode cX6_tick 14 = .ok (.ireturn, 1) := by decide +kernel
theorem dX6_tick_15 : decode cX6_tick 15 = .ok (.aload_n 0, 1) := by decide +kernel
theorem dX6_tick_16 : decode cX6_tick 16 = .ok (.invokevirtual 263, 3) := by decide +kernel
theorem dX6_tick_19 : decode cX6_tick 19 = .ok (.aload_n 0, 1) := by decide +kernel
theorem dX6_tick_20 : decode cX6_tick 20 = .ok (.getfield 12, 3) := by decide +kernel
theorem dX6_tick_23 : decode cX6_tick 23 = .ok (.aload_n 0, 1) := by decide +kernel
theorem dX6_tick_24 : decode cX6_tick 24 = .ok (.getfield 16, 3) := by decide +kernel
theorem dX6_tick_27 : decode cX6_tick 27 = .ok (.invokevirtual 88, 3) := by decide +kernel
theorem dX6_tick_30 : decode cX6_tick 30 = .ok (.iload_n 1, 1) := by decide +kernel
theorem dX6_tick_31 : decode cX6_tick 31 = .ok (.ireturn, 1) := by decide +kernel
abbrev mX6_tick : KM := (RX6, cX6_tick, 2, (some .int), { frames := 7, cells := 0, slots := 0, locals := 157 }, 0, 0)
def fX6_tick (σ : Sto) : Option (Int32 × Sto) :=
  (fX6_movesOfNextTick σ).bind fun r1 =>
  if r1.1 = 0 then
    (fX6_refused 5 r1.2).bind fun r10 =>
    some (r10.1, r10.2)
  else
    (fX6_keepForUndo r1.2).bind fun r4 =>
    (fX5_copyFrom 25 34 r4).bind fun r7 =>
    some (r1.1, r7)
set_option maxHeartbeats 4000000 in
set_option maxRecDepth 100000 in
theorem tX6_tick (sh : KSh) (hk : KAG sh) (l : Launch) (hst : l.stackTraces = false) (σ : Sto) (r : (Int32 × Sto)) (h : fX6_tick σ = some r) : CT sh l mX6_tick yX6_tick [.ref 0] σ (0, .int r.1, r.2) := by
  refine kct [(0, .ref 0)] hst (by decide +kernel) rfl rfl (Nat.le_of_ble_eq_true rfl) ?_
  rw [fX6_tick] at h
  refine kv_aload_n (pc := 0) 0 dX6_tick_0 rfl rfl ?_
  refine kv_cV (pc := 1) [] (fun r1 => (0, .int r1.1, r1.2)) (fun r1 => (.int r1.1 :: [])) (fun r1 => r1.2) 4 0 0 h (fun r1 g2 => tX6_movesOfNextTick sh hk l hst  σ r1 g2) dX6_tick_1 rfl (ks_0 hk) rfl yw_X6_movesOfNextTick lk_X6_280 (by decide) (Nat.le_of_ble_eq_true rfl) (by decide) (fun _ => rfl) (fun _ => rfl) ⟨rfl, rfl, rfl⟩ (fun _ _ h0 => absurd rfl h0) (fun r1 g2 z3 h => ?_)
  refine kv_istore_n (pc := 4) [(1, .int r1.1), (0, .ref 0)] dX6_tick_4 rfl (by decide) rfl ?_
  refine kv_iload_n (pc := 5) 0 dX6_tick_5 rfl rfl ?_
  refine kv_if_ne (pc := 6) (tgt := 15) dX6_tick_6 (by decide) h (fun h => ?_) (fun h => ?_)
  · refine kv_aload_n (pc := 15) 1 dX6_tick_15 rfl rfl ?_
    refine kv_cV (pc := 16) [] (fun r4 => (0, .int 0, r4)) (fun r4 => []) (fun r4 => r4) 19 0 0 h (fun r4 g5 => tX6_keepForUndo sh hk l hst  r1.2 r4 g5) dX6_tick_16 rfl (ks_0 hk) rfl yw_X6_keepForUndo lk_X6_263 (by decide) (Nat.le_of_ble_eq_true rfl) (by decide) (fun _ => rfl) (fun _ => rfl) ⟨rfl, rfl, rfl⟩ (fun _ _ h0 => absurd rfl h0) (fun r4 g5 z6 h => ?_)
    refine kv_aload_n (pc := 19) 1 dX6_tick_19 rfl rfl ?_
    refine kv_getR (pc := 20) (q2 := 25) dX6_tick_20 (ks_0 hk) rfl (i := 0) (by decide) rfl fl_X6_12 rfl rfl ?_
    refine kv_aload_n (pc := 23) 1 dX6_tick_23 rfl rfl ?_
    refine kv_getR (pc := 24) (q2 := 34) dX6_tick_24 (ks_0 hk) rfl (i := 1) (by decide) rfl fl_X6_16 rfl rfl ?_
    refine kv_cV (pc := 27) [.ref 34] (fun r7 => (0, .int 0, r7)) (fun r7 => []) (fun r7 => r7) 30 0 0 h (fun r7 g8 => tX5_copyFrom sh (kwf_of hk) l hst 25 (ks_25 hk) 34 (ks_34 hk) r4 r7 g8) dX6_tick_27 rfl (ks_25 hk) rfl yw_X5_copyFrom lk_X6_88 (by decide) (Nat.le_of_ble_eq_true rfl) (by decide) (fun _ => rfl) (fun _ => rfl) ⟨rfl, rfl, rfl⟩ (fun _ _ h0 => absurd rfl h0) (fun r7 g8 z9 h => ?_)
    refine kv_iload_n (pc := 30) 0 dX6_tick_30 rfl rfl ?_
    exact kv_iret (pc := 31) dX6_tick_31 rfl (by cases h; rfl) (by decide) (by decide)
  · refine kv_aload_n (pc := 9) 1 dX6_tick_9 rfl rfl ?_
    refine kv_iconst (pc := 10) (v := 5) dX6_tick_10 (by decide) ?_
    refine kv_cV (pc := 11) [.int 5] (fun r10 => (0, .int r10.1, r10.2)) (fun r10 => (.int r10.1 :: [])) (fun r10 => r10.2) 14 0 0 h (fun r10 g11 => tX6_refused sh hk l hst 5 r1.2 r10 g11) dX6_tick_11 rfl (ks_0 hk) rfl yw_X6_refused lk_X6_260 (by decide) (Nat.le_of_ble_eq_true rfl) (by decide) (fun _ => rfl) (fun _ => rfl) ⟨rfl, rfl, rfl⟩ (fun _ _ h0 => absurd rfl h0) (fun r10 g11 z12 h => ?_)
    exact kv_iret (pc := 14) dX6_tick_14 rfl (by cases h; rfl) (by decide) (by decide)
theorem yw_X6_tick : KMV yX6_tick mX6_tick RX6 0 := ⟨⟨rfl, by decide +kernel, by decide +kernel, by decide +kernel⟩, ⟨rfl, rfl⟩, kg_in 1090 (by decide +kernel) (by decide +kernel), kg_in 1091 (by decide +kernel) (by decide +kernel), kg_in 47 (by decide +kernel) (by decide +kernel), kg_in 1092 (by decide +kernel) (by decide +kernel)⟩
theorem dX6_settleTrial_0 : decode cX6_settleTrial 0 = .ok (.iconst 0, 1) := by decide +kernel
theorem dX6_settleTrial_1 : decode cX6_settleTrial 1 = .ok (.istore_n 1, 1) := by decide +kernel
theorem dX6_settleTrial_2 : decode cX6_settleTrial 2 = .ok (.iload_n 1, 1) := by decide +kernel
theorem dX6_settleTrial_3 : decode cX6_settleTrial 3 = .ok (.ldc_w 349, 3) := by decide +kernel
theorem dX6_settleTrial_6 : decode cX6_settleTrial 6 = .ok (.if_icmp .ge 23, 3) := by decide +kernel
theorem dX6_settleTrial_9 : decode cX6_settleTrial 9 = .ok (.aload_n 0, 1) := by decide +kernel
theorem dX6_settleTrial_10 : decode cX6_settleTrial 10 = .ok (.getfield 54, 3) := by decide +kernel
theorem dX6_settleTrial_13 : decode cX6_settleTrial 13 = .ok (.aload_n 0, 1) := by decide +kernel
theorem dX6_settleTrial_14 : decode cX6_settleTrial 14 = .ok (.getfield 16, 3) := by decide +kernel
theorem dX6_settleTrial_17 : decode cX6_settleTrial 17 = .ok (.invokevirtual 345, 3) := by decide +kernel
theorem dX6_settleTrial_20 : decode cX6_settleTrial 20 = .ok (.ifCond .le 9, 3) := by decide +kernel
theorem dX6_settleTrial_23 : decode cX6_settleTrial 23 = .ok (.iinc 1 1, 3) := by decide +kernel
theorem dX6_settleTrial_26 : decode cX6_settleTrial 26 = .ok (.goto (-24), 3) := by decide +kernel
theorem dX6_settleTrial_29 : decode cX6_settleTrial 29 = .ok (.iload_n 1, 1) := by decide +kernel
theorem dX6_settleTrial_30 : decode cX6_settleTrial 30 = .ok (.ireturn, 1) := by decide +kernel
abbrev mX6_settleTrial : KM := (RX6, cX6_settleTrial, 2, (some .int), { frames := 6, cells := 0, slots := 0, locals := 137 }, 0, 0)
def fX6_settleTrial_L2 : Nat → Int32 → Sto → Option (Int32 × Sto)
  | 0, _, _ => none
  | fu + 1, v1, σ =>
    if 100000 ≤ v1 then
      some (v1, σ)
    else
      (fX0_makeTick 21 34 σ).bind fun r1 =>
      if r1.1 ≤ 0 then
        some (v1, r1.2)
      else
        fX6_settleTrial_L2 fu (v1 + 1) r1.2
def fX6_settleTrial (σ : Sto) : Option (Int32 × Sto) :=
  fX6_settleTrial_L2 kFU 0 σ
set_option maxHeartbeats 4000000 in
set_option maxRecDepth 100000 in
theorem wX6_settleTrial_L2 (sh : KSh) (hk : KAG sh) (l : Launch) (hst : l.stackTraces = false) : ∀ (fu : Nat), ∀ (v1 : Int32), ∀ (σ : Sto), ∀ (r : (Int32 × Sto)), fX6_settleTrial_L2 fu v1 σ = some r → VV sh l mX6_settleTrial 0 0 2 [(0, .ref 0), (1, .int v1)] [] σ (0, .int r.1, r.2) := by
  intro fu
  induction fu with
  | zero => intro v1 σ r h; rw [fX6_settleTrial_L2] at h; cases h
  | succ fu ih =>
    intro v1 σ r h
    rw [fX6_settleTrial_L2] at h
    refine kv_iload_n (pc := 2) 1 dX6_settleTrial_2 rfl rfl ?_
    refine kv_ldcw (pc := 3) (v := 100000) dX6_settleTrial_3 kc_X6_349 ?_
    refine kv_icmp_ge (pc := 6) (tgt := 29) dX6_settleTrial_6 (by decide) h (fun h => ?_) (fun h => ?_)
    · refine kv_iload_n (pc := 29) 1 dX6_settleTrial_29 rfl rfl ?_
      exact kv_iret (pc := 30) dX6_settleTrial_30 rfl (by cases h; rfl) (by decide) (by decide)
    · refine kv_aload_n (pc := 9) 0 dX6_settleTrial_9 rfl rfl ?_
      refine kv_getR (pc := 10) (q2 := 21) dX6_settleTrial_10 (ks_0 hk) rfl (i := 11) (by decide) rfl fl_X6_54 rfl rfl ?_
      refine kv_aload_n (pc := 13) 0 dX6_settleTrial_13 rfl rfl ?_
      refine kv_getR (pc := 14) (q2 := 34) dX6_settleTrial_14 (ks_0 hk) rfl (i := 1) (by decide) rfl fl_X6_16 rfl rfl ?_
      refine kv_cV (pc := 17) [.ref 34] (fun r1 => (0, .int r1.1, r1.2)) (fun r1 => (.int r1.1 :: [])) (fun r1 => r1.2) 20 0 0 h (fun r1 g2 => tX0_makeTick sh (kwf_of hk) l hst 21 (ks_21 hk) 34 (ks_34 hk) σ r1 g2) dX6_settleTrial_17 rfl (ks_21 hk) rfl yw_X0_makeTick lk_X6_345 (by decide) (Nat.le_of_ble_eq_true rfl) (by decide) (fun _ => rfl) (fun _ => rfl) ⟨rfl, rfl, rfl⟩ (fun _ _ h0 => absurd rfl h0) (fun r1 g2 z3 h => ?_)
      refine kv_if_le (pc := 20) (tgt := 29) dX6_settleTrial_20 (by decide) h (fun h => ?_) (fun h => ?_)
      · refine kv_iload_n (pc := 29) 1 dX6_settleTrial_29 rfl rfl ?_
        exact kv_iret (pc := 30) dX6_settleTrial_30 rfl (by cases h; rfl) (by decide) (by decide)
      · refine kv_iinc (pc := 23) (v := v1 + 1) 1 [(1, .int (v1 + 1)), (0, .ref 0)] dX6_settleTrial_23 rfl rfl (by decide) rfl ?_
        refine kv_goto (pc := 26) (tgt := 2) dX6_settleTrial_26 (by decide) ?_
        refine kv_sub (pc := 2) [(0, .ref 0), (1, .int (v1 + 1))] [1, 0] rfl ?_
        exact ih (v1 + 1) r1.2 r h
set_option maxHeartbeats 4000000 in
set_option maxRecDepth 100000 in
theorem tX6_settleTrial (sh : KSh) (hk : KAG sh) (l : Launch) (hst : l.stackTraces = false) (σ : Sto) (r : (Int32 × Sto)) (h : fX6_settleTrial σ = some r) : CT sh l mX6_settleTrial yX6_settleTrial [.ref 0] σ (0, .int r.1, r.2) := by
  refine kct [(0, .ref 0)] hst (by decide +kernel) rfl rfl (Nat.le_of_ble_eq_true rfl) ?_
  rw [fX6_settleTrial] at h
  refine kv_iconst (pc := 0) (v := 0) dX6_settleTrial_0 (by decide) ?_
  refine kv_istore_n (pc := 1) [(1, .int 0), (0, .ref 0)] dX6_settleTrial_1 rfl (by decide) rfl ?_
  refine kv_sub (pc := 2) [(0, .ref 0), (1, .int 0)] [1, 0] rfl ?_
  exact wX6_settleTrial_L2 sh hk l hst kFU 0 σ r h
theorem yw_X6_settleTrial : KMV yX6_settleTrial mX6_settleTrial RX6 0 := ⟨⟨rfl, by decide +kernel, by decide +kernel, by decide +kernel⟩, ⟨rfl, rfl⟩, kg_in 1099 (by decide +kernel) (by decide +kernel), kg_in 44 (by decide +kernel) (by decide +kernel), kg_in 47 (by decide +kernel) (by decide +kernel), kg_in 1100 (by decide +kernel) (by decide +kernel)⟩
theorem dX6_settle_0 : decode cX6_settle 0 = .ok (.aload_n 0, 1) := by decide +kernel
theorem dX6_settle_1 : decode cX6_settle 1 = .ok (.getfield 16, 3) := by decide +kernel
theorem dX6_settle_4 : decode cX6_settle 4 = .ok (.aload_n 0, 1) := by decide +kernel
theorem dX6_settle_5 : decode cX6_settle 5 = .ok (.getfield 12, 3) := by decide +kernel
theorem dX6_settle_8 : decode cX6_settle 8 = .ok (.invokevirtual 88, 3) := by decide +kernel
theorem dX6_settle_11 : decode cX6_settle 11 = .ok (.aload_n 0, 1) := by decide +kernel
theorem dX6_settle_12 : decode cX6_settle 12 = .ok (.invokevirtual 289, 3) := by decide +kernel
theorem dX6_settle_15 : decode cX6_settle 15 = .ok (.istore_n 1, 1) := by decide +kernel
theorem dX6_settle_16 : decode cX6_settle 16 = .ok (.iload_n 1, 1) := by decide +kernel
theorem dX6_settle_17 : decode cX6_settle 17 = .ok (.ifCond .ne 9, 3) := by decide +kernel
theorem dX6_settle_20 : decode cX6_settle 20 = .ok (.aload_n 0, 1) := by decide +kernel
theorem dX6_settle_21 : decode cX6_settle 21 = .ok (.iconst 5, 1) := by decide +kernel
theorem dX6_settle_22 : decode cX6_settle 22 = .ok (.invokevirtual 260, 3) := by decide +kernel
theorem dX6_settle_25 : decode cX6_settle 25 = .ok (.ireturn, 1) := by decide +kernel
theorem dX6_settle_26 : decode cX6_settle 26 = .ok (.aload_n 0, 1) := by decide +kernel
theorem dX6_settle_27 : decode cX6_settle 27 = .ok (.invokevirtual 263, 3) := by decide +kernel
theorem dX6_settle_30 : decode cX6_settle 30 = .ok (.aload_n 0, 1) := by decide +kernel
theorem dX6_settle_31 : decode cX6_settle 31 = .ok (.getfield 12, 3) := by decide +kernel
theorem dX6_settle_34 : decode cX6_settle 34 = .ok (.aload_n 0, 1) := by decide +kernel
theorem dX6_settle_35 : decode cX6_settle 35 = .ok (.getfield 16, 3) := by decide +kernel
theorem dX6_settle_38 : decode cX6_settle 38 = .ok (.invokevirtual 88, 3) := by decide +kernel
theorem dX6_settle_41 : decode cX6_settle 41 = .ok (.iload_n 1, 1) := by decide +kernel
theorem dX6_settle_42 : decode cX6_settle 42 = .ok (.ireturn, 1) := by decide +kernel
abbrev mX6_settle : KM := (RX6, cX6_settle, 2, (some .int), { frames := 7, cells := 0, slots := 0, locals := 158 }, 0, 0)
def fX6_settle (σ : Sto) : Option (Int32 × Sto) :=
  (fX5_copyFrom 34 25 σ).bind fun r1 =>
  (fX6_settleTrial r1).bind fun r4 =>
  if r4.1 = 0 then
    (fX6_refused 5 r4.2).bind fun r13 =>
    some (r13.1, r13.2)
  else
    (fX6_keepForUndo r4.2).bind fun r7 =>
    (fX5_copyFrom 25 34 r7).bind fun r10 =>
    some (r4.1, r10)
set_option maxHeartbeats 4000000 in
set_option maxRecDepth 100000 in
theorem tX6_settle (sh : KSh) (hk : KAG sh) (l : Launch) (hst : l.stackTraces = false) (σ : Sto) (r : (Int32 × Sto)) (h : fX6_settle σ = some r) : CT sh l mX6_settle yX6_settle [.ref 0] σ (0, .int r.1, r.2) := by
  refine kct [(0, .ref 0)] hst (by decide +kernel) rfl rfl (Nat.le_of_ble_eq_true rfl) ?_
  rw [fX6_settle] at h
  refine kv_aload_n (pc := 0) 0 dX6_settle_0 rfl rfl ?_
  refine kv_getR (pc := 1) (q2 := 34) dX6_settle_1 (ks_0 hk) rfl (i := 1) (by decide) rfl fl_X6_16 rfl rfl ?_
  refine kv_aload_n (pc := 4) 0 dX6_settle_4 rfl rfl ?_
  refine kv_getR (pc := 5) (q2 := 25) dX6_settle_5 (ks_0 hk) rfl (i := 0) (by decide) rfl fl_X6_12 rfl rfl ?_
  refine kv_cV (pc := 8) [.ref 25] (fun r1 => (0, .int 0, r1)) (fun r1 => []) (fun r1 => r1) 11 0 0 h (fun r1 g2 => tX5_copyFrom sh (kwf_of hk) l hst 34 (ks_34 hk) 25 (ks_25 hk) σ r1 g2) dX6_settle_8 rfl (ks_34 hk) rfl yw_X5_copyFrom lk_X6_88 (by decide) (Nat.le_of_ble_eq_true rfl) (by decide) (fun _ => rfl) (fun _ => rfl) ⟨rfl, rfl, rfl⟩ (fun _ _ h0 => absurd rfl h0) (fun r1 g2 z3 h => ?_)
  refine kv_aload_n (pc := 11) 0 dX6_settle_11 rfl rfl ?_
  refine kv_cV (pc := 12) [] (fun r4 => (0, .int r4.1, r4.2)) (fun r4 => (.int r4.1 :: [])) (fun r4 => r4.2) 15 0 0 h (fun r4 g5 => tX6_settleTrial sh hk l hst  r1 r4 g5) dX6_settle_12 rfl (ks_0 hk) rfl yw_X6_settleTrial lk_X6_289 (by decide) (Nat.le_of_ble_eq_true rfl) (by decide) (fun _ => rfl) (fun _ => rfl) ⟨rfl, rfl, rfl⟩ (fun _ _ h0 => absurd rfl h0) (fun r4 g5 z6 h => ?_)
  refine kv_istore_n (pc := 15) [(1, .int r4.1), (0, .ref 0)] dX6_settle_15 rfl (by decide) rfl ?_
  refine kv_iload_n (pc := 16) 0 dX6_settle_16 rfl rfl ?_
  refine kv_if_ne (pc := 17) (tgt := 26) dX6_settle_17 (by decide) h (fun h => ?_) (fun h => ?_)
  · refine kv_aload_n (pc := 26) 1 dX6_settle_26 rfl rfl ?_
    refine kv_cV (pc := 27) [] (fun r7 => (0, .int 0, r7)) (fun r7 => []) (fun r7 => r7) 30 0 0 h (fun r7 g8 => tX6_keepForUndo sh hk l hst  r4.2 r7 g8) dX6_settle_27 rfl (ks_0 hk) rfl yw_X6_keepForUndo lk_X6_263 (by decide) (Nat.le_of_ble_eq_true rfl) (by decide) (fun _ => rfl) (fun _ => rfl) ⟨rfl, rfl, rfl⟩ (fun _ _ h0 => absurd rfl h0) (fun r7 g8 z9 h => ?_)
    refine kv_aload_n (pc := 30) 1 dX6_settle_30 rfl rfl ?_
    refine kv_getR (pc := 31) (q2 := 25) dX6_settle_31 (ks_0 hk) rfl (i := 0) (by decide) rfl fl_X6_12 rfl rfl ?_
    refine kv_aload_n (pc := 34) 1 dX6_settle_34 rfl rfl ?_
    refine kv_getR (pc := 35) (q2 := 34) dX6_settle_35 (ks_0 hk) rfl (i := 1) (by decide) rfl fl_X6_16 rfl rfl ?_
    refine kv_cV (pc := 38) [.ref 34] (fun r10 => (0, .int 0, r10)) (fun r10 => []) (fun r10 => r10) 41 0 0 h (fun r10 g11 => tX5_copyFrom sh (kwf_of hk) l hst 25 (ks_25 hk) 34 (ks_34 hk) r7 r10 g11) dX6_settle_38 rfl (ks_25 hk) rfl yw_X5_copyFrom lk_X6_88 (by decide) (Nat.le_of_ble_eq_true rfl) (by decide) (fun _ => rfl) (fun _ => rfl) ⟨rfl, rfl, rfl⟩ (fun _ _ h0 => absurd rfl h0) (fun r10 g11 z12 h => ?_)
    refine kv_iload_n (pc := 41) 0 dX6_settle_41 rfl rfl ?_
    exact kv_iret (pc := 42) dX6_settle_42 rfl (by cases h; rfl) (by decide) (by decide)
  · refine kv_aload_n (pc := 20) 1 dX6_settle_20 rfl rfl ?_
    refine kv_iconst (pc := 21) (v := 5) dX6_settle_21 (by decide) ?_
    refine kv_cV (pc := 22) [.int 5] (fun r13 => (0, .int r13.1, r13.2)) (fun r13 => (.int r13.1 :: [])) (fun r13 => r13.2) 25 0 0 h (fun r13 g14 => tX6_refused sh hk l hst 5 r4.2 r13 g14) dX6_settle_22 rfl (ks_0 hk) rfl yw_X6_refused lk_X6_260 (by decide) (Nat.le_of_ble_eq_true rfl) (by decide) (fun _ => rfl) (fun _ => rfl) ⟨rfl, rfl, rfl⟩ (fun _ _ h0 => absurd rfl h0) (fun r13 g14 z15 h => ?_)
    exact kv_iret (pc := 25) dX6_settle_25 rfl (by cases h; rfl) (by decide) (by decide)
theorem yw_X6_settle : KMV yX6_settle mX6_settle RX6 0 := ⟨⟨rfl, by decide +kernel, by decide +kernel, by decide +kernel⟩, ⟨rfl, rfl⟩, kg_in 1094 (by decide +kernel) (by decide +kernel), kg_in 1095 (by decide +kernel) (by decide +kernel), kg_in 47 (by decide +kernel) (by decide +kernel), kg_in 1096 (by decide +kernel) (by decide +kernel)⟩
theorem dX6_cover_0 : decode cX6_cover 0 = .ok (.iload_n 1, 1) := by decide +kernel
theorem dX6_cover_1 : decode cX6_cover 1 = .ok (.ifCond .lt 17, 3) := by decide +kernel
theorem dX6_cover_4 : decode cX6_cover 4 = .ok (.iload_n 1, 1) := by decide +kernel
theorem dX6_cover_5 : decode cX6_cover 5 = .ok (.aload_n 0, 1) := by decide +kernel
theorem dX6_cover_6 : decode cX6_cover 6 = .ok (.getfield 12, 3) := by decide +kernel
theorem dX6_cover_9 : decode cX6_cover 9 = .ok (.getfield 104, 3) := by decide +kernel
theorem dX6_cover_12 : decode cX6_cover 12 = .ok (.invokevirtual 292, 3) := by decide +kernel
theorem dX6_cover_15 : decode cX6_cover 15 = .ok (.if_icmp .lt 11, 3) := by decide +kernel
theorem dX6_cover_18 : decode cX6_cover 18 = .ok (.new 243, 3) := by decide +kernel
theorem dX6_cover_21 : decode cX6_cover 21 = .ok (.dup, 1) := by decide +kernel
theorem dX6_cover_22 : decode cX6_cover 22 = .ok (.invokespecial 245, 3) := by decide +kernel
theorem dX6_cover_25 : decode cX6_cover 25 = .ok (.athrow, 1) := by decide +kernel
theorem dX6_cover_26 : decode cX6_cover 26 = .ok (.aload_n 0, 1) := by decide +kernel
theorem dX6_cover_27 : decode cX6_cover 27 = .ok (.getfield 12, 3) := by decide +kernel
theorem dX6_cover_30 : decode cX6_cover 30 = .ok (.iload_n 1, 1) := by decide +kernel
theorem dX6_cover_31 : decode cX6_cover 31 = .ok (.invokevirtual 295, 3) := by decide +kernel
theorem dX6_cover_34 : decode cX6_cover 34 = .ok (.iload_n 2, 1) := by decide +kernel
theorem dX6_cover_35 : decode cX6_cover 35 = .ok (.if_icmp .ne 9, 3) := by decide +kernel
theorem dX6_cover_38 : decode cX6_cover 38 = .ok (.aload_n 0, 1) := by decide +kernel
theorem dX6_cover_39 : decode cX6_cover 39 = .ok (.iconst 4, 1) := by decide +kernel
theorem dX6_cover_40 : decode cX6_cover 40 = .ok (.invokevirtual 260, 3) := by decide +kernel
theorem dX6_cover_43 : decode cX6_cover 43 = .ok (.ireturn, 1) := by decide +kernel
theorem dX6_cover_44 : decode cX6_cover 44 = .ok (.aload_n 0, 1) := by decide +kernel
theorem dX6_cover_45 : decode cX6_cover 45 = .ok (.invokevirtual 263, 3) := by decide +kernel
theorem dX6_cover_48 : decode cX6_cover 48 = .ok (.aload_n 0, 1) := by decide +kernel
theorem dX6_cover_49 : decode cX6_cover 49 = .ok (.getfield 12, 3) := by decide +kernel
theorem dX6_cover_52 : decode cX6_cover 52 = .ok (.iload_n 1, 1) := by decide +kernel
theorem dX6_cover_53 : decode cX6_cover 53 = .ok (.iload_n 2, 1) := by decide +kernel
theorem dX6_cover_54 : decode cX6_cover 54 = .ok (.invokevirtual 298, 3) := by decide +kernel
theorem dX6_cover_57 : decode cX6_cover 57 = .ok (.aload_n 0, 1) := by decide +kernel
theorem dX6_cover_58 : decode cX6_cover 58 = .ok (.invokevirtual 135, 3) := by decide +kernel
theorem dX6_cover_61 : decode cX6_cover 61 = .ok (.ireturn, 1) := by decide +kernel
abbrev mX6_cover : KM := (RX6, cX6_cover, 3, (some .int), { frames := 6, cells := 0, slots := 0, locals := 135 }, 0, 0)
def fX6_cover_L18 (a1 : Int32) (a2 : Int32) (σ : Sto) : Option KP :=
  some (3, 0, σ)
def fX6_cover (a1 : Int32) (a2 : Int32) (σ : Sto) : Option KP :=
  if a1 < 0 then
    fX6_cover_L18 a1 a2 σ
  else
    if a1 < (fX1_mirrors 26 σ) then
      if (kb (fX5_isCovered 25 a1 σ)) = a2 then
        (fX6_refused 4 σ).bind fun r10 =>
        some (0, r10.1, r10.2)
      else
        (fX6_keepForUndo σ).bind fun r1 =>
        (some (fX5_setCovered 25 a1 a2 r1)).bind fun r4 =>
        (fX6_seenNow r4).bind fun r7 =>
        some (0, r7.1, r7.2)
    else
      fX6_cover_L18 a1 a2 σ
set_option maxHeartbeats 4000000 in
set_option maxRecDepth 100000 in
theorem wX6_cover_L18 (sh : KSh) (hk : KAG sh) (l : Launch) (hst : l.stackTraces = false) (a1 : Int32) (a2 : Int32) : ∀ (σ : Sto), ∀ (r : KP), fX6_cover_L18 a1 a2 σ = some r → r.1 = 0 → VV sh l mX6_cover 0 0 18 [] [] σ (r.1, .int r.2.1, r.2.2) := by
  intro σ r h hnt
  rw [fX6_cover_L18] at h
  cases h; exact absurd (show (3 : Nat) = 0 from hnt) (by decide)
set_option maxHeartbeats 4000000 in
set_option maxRecDepth 100000 in
theorem tX6_cover (sh : KSh) (hk : KAG sh) (l : Launch) (hst : l.stackTraces = false) (a1 : Int32) (a2 : Int32) (σ : Sto) (r : KP) (h : fX6_cover a1 a2 σ = some r) (hnt : r.1 = 0) : CT sh l mX6_cover yX6_cover [.ref 0, .int a1, .int a2] σ (r.1, .int r.2.1, r.2.2) := by
  refine kct [(0, .ref 0), (1, .int a1), (2, .int a2)] hst (by decide +kernel) rfl rfl (Nat.le_of_ble_eq_true rfl) ?_
  rw [fX6_cover] at h
  refine kv_iload_n (pc := 0) 1 dX6_cover_0 rfl rfl ?_
  refine kv_if_lt (pc := 1) (tgt := 18) dX6_cover_1 (by decide) h (fun h => ?_) (fun h => ?_)
  · refine kv_sub (pc := 18) [] [] rfl ?_
    exact wX6_cover_L18 sh hk l hst a1 a2 σ r h hnt
  · refine kv_iload_n (pc := 4) 1 dX6_cover_4 rfl rfl ?_
    refine kv_aload_n (pc := 5) 0 dX6_cover_5 rfl rfl ?_
    refine kv_getR (pc := 6) (q2 := 25) dX6_cover_6 (ks_0 hk) rfl (i := 0) (by decide) rfl fl_X6_12 rfl rfl ?_
    refine kv_getR (pc := 9) (q2 := 26) dX6_cover_9 (ks_25 hk) rfl (i := 0) (by decide) rfl fl_X6_104 rfl rfl ?_
    refine kv_tV (pc := 12) (v := .int (fX1_mirrors 26 σ)) [] (.int (fX1_mirrors 26 σ) :: [.int a1]) 15 0 0 (tX1_mirrors sh (kwf_of hk) l hst 26 (ks_26 hk) σ) dX6_cover_12 rfl (ks_26 hk) rfl yw_X1_mirrors lk_X6_292 (by decide) (Nat.le_of_ble_eq_true rfl) (by decide) rfl ⟨rfl, rfl, rfl⟩ ?_
    refine kv_icmp_lt (pc := 15) (tgt := 26) dX6_cover_15 (by decide) h (fun h => ?_) (fun h => ?_)
    · refine kv_aload_n (pc := 26) 0 dX6_cover_26 rfl rfl ?_
      refine kv_getR (pc := 27) (q2 := 25) dX6_cover_27 (ks_0 hk) rfl (i := 0) (by decide) rfl fl_X6_12 rfl rfl ?_
      refine kv_iload_n (pc := 30) 1 dX6_cover_30 rfl rfl ?_
      refine kv_tV (pc := 31) (v := .int (kb (fX5_isCovered 25 a1 σ))) [.int a1] (.int (kb (fX5_isCovered 25 a1 σ)) :: []) 34 0 0 (tX5_isCovered sh (kwf_of hk) l hst 25 (ks_25 hk) a1 σ) dX6_cover_31 rfl (ks_25 hk) rfl yw_X5_isCovered lk_X6_295 (by decide) (Nat.le_of_ble_eq_true rfl) (by decide) rfl ⟨rfl, rfl, rfl⟩ ?_
      refine kv_iload_n (pc := 34) 2 dX6_cover_34 rfl rfl ?_
      refine kv_icmp_ne (pc := 35) (tgt := 44) dX6_cover_35 (by decide) h (fun h => ?_) (fun h => ?_)
      · refine kv_aload_n (pc := 44) 0 dX6_cover_44 rfl rfl ?_
        refine kv_cV (pc := 45) [] (fun r1 => (0, .int 0, r1)) (fun r1 => []) (fun r1 => r1) 48 0 0 h (fun r1 g2 => tX6_keepForUndo sh hk l hst  σ r1 g2) dX6_cover_45 rfl (ks_0 hk) rfl yw_X6_keepForUndo lk_X6_263 (by decide) (Nat.le_of_ble_eq_true rfl) (by decide) (fun _ => rfl) (fun _ => rfl) ⟨rfl, rfl, rfl⟩ (fun _ _ h0 => absurd rfl h0) (fun r1 g2 z3 h => ?_)
        refine kv_aload_n (pc := 48) 0 dX6_cover_48 rfl rfl ?_
        refine kv_getR (pc := 49) (q2 := 25) dX6_cover_49 (ks_0 hk) rfl (i := 0) (by decide) rfl fl_X6_12 rfl rfl ?_
        refine kv_iload_n (pc := 52) 1 dX6_cover_52 rfl rfl ?_
        refine kv_iload_n (pc := 53) 2 dX6_cover_53 rfl rfl ?_
        refine kv_cV (pc := 54) [.int a1, .int a2] (fun r4 => (0, .int 0, r4)) (fun r4 => []) (fun r4 => r4) 57 0 0 h (fun r4 g5 => by cases g5; exact tX5_setCovered sh (kwf_of hk) l hst 25 (ks_25 hk) a1 a2 r1) dX6_cover_54 rfl (ks_25 hk) rfl yw_X5_setCovered lk_X6_298 (by decide) (Nat.le_of_ble_eq_true rfl) (by decide) (fun _ => rfl) (fun _ => rfl) ⟨rfl, rfl, rfl⟩ (fun _ _ h0 => absurd rfl h0) (fun r4 g5 z6 h => ?_)
        refine kv_aload_n (pc := 57) 0 dX6_cover_57 rfl rfl ?_
        refine kv_cV (pc := 58) [] (fun r7 => (0, .int r7.1, r7.2)) (fun r7 => (.int r7.1 :: [])) (fun r7 => r7.2) 61 0 0 h (fun r7 g8 => tX6_seenNow sh hk l hst  r4 r7 g8) dX6_cover_58 rfl (ks_0 hk) rfl yw_X6_seenNow lk_X6_135 (by decide) (Nat.le_of_ble_eq_true rfl) (by decide) (fun _ => rfl) (fun _ => rfl) ⟨rfl, rfl, rfl⟩ (fun _ _ h0 => absurd rfl h0) (fun r7 g8 z9 h => ?_)
        exact kv_iret (pc := 61) dX6_cover_61 rfl (by cases h; rfl) (by decide) (by decide)
      · refine kv_aload_n (pc := 38) 0 dX6_cover_38 rfl rfl ?_
        refine kv_iconst (pc := 39) (v := 4) dX6_cover_39 (by decide) ?_
        refine kv_cV (pc := 40) [.int 4] (fun r10 => (0, .int r10.1, r10.2)) (fun r10 => (.int r10.1 :: [])) (fun r10 => r10.2) 43 0 0 h (fun r10 g11 => tX6_refused sh hk l hst 4 σ r10 g11) dX6_cover_40 rfl (ks_0 hk) rfl yw_X6_refused lk_X6_260 (by decide) (Nat.le_of_ble_eq_true rfl) (by decide) (fun _ => rfl) (fun _ => rfl) ⟨rfl, rfl, rfl⟩ (fun _ _ h0 => absurd rfl h0) (fun r10 g11 z12 h => ?_)
        exact kv_iret (pc := 43) dX6_cover_43 rfl (by cases h; rfl) (by decide) (by decide)
    · refine kv_sub (pc := 18) [] [] rfl ?_
      exact wX6_cover_L18 sh hk l hst a1 a2 σ r h hnt
theorem yw_X6_cover : KMV yX6_cover mX6_cover RX6 2 := ⟨⟨rfl, by decide +kernel, by decide +kernel, by decide +kernel⟩, ⟨rfl, rfl⟩, kg_in 1145 (by decide +kernel) (by decide +kernel), kg_in 1146 (by decide +kernel) (by decide +kernel), kg_in 47 (by decide +kernel) (by decide +kernel), kg_in 1147 (by decide +kernel) (by decide +kernel)⟩
theorem dX6_setKeep_0 : decode cX6_setKeep 0 = .ok (.iload_n 1, 1) := by decide +kernel
theorem dX6_setKeep_1 : decode cX6_setKeep 1 = .ok (.iconst 1, 1) := by decide +kernel
theorem dX6_setKeep_2 : decode cX6_setKeep 2 = .ok (.bipush 100, 2) := by decide +kernel
theorem dX6_setKeep_4 : decode cX6_setKeep 4 = .ok (.invokestatic 80, 3) := by decide +kernel
theorem dX6_setKeep_7 : decode cX6_setKeep 7 = .ok (.aload_n 0, 1) := by decide +kernel
theorem dX6_setKeep_8 : decode cX6_setKeep 8 = .ok (.invokevirtual 263, 3) := by decide +kernel
theorem dX6_setKeep_11 : decode cX6_setKeep 11 = .ok (.aload_n 0, 1) := by decide +kernel
theorem dX6_setKeep_12 : decode cX6_setKeep 12 = .ok (.getfield 12, 3) := by decide +kernel
theorem dX6_setKeep_15 : decode cX6_setKeep 15 = .ok (.getfield 119, 3) := by decide +kernel
theorem dX6_setKeep_18 : decode cX6_setKeep 18 = .ok (.istore_n 2, 1) := by decide +kernel
theorem dX6_setKeep_19 : decode cX6_setKeep 19 = .ok (.aload_n 0, 1) := by decide +kernel
theorem dX6_setKeep_20 : decode cX6_setKeep 20 = .ok (.getfield 12, 3) := by decide +kernel
theorem dX6_setKeep_23 : decode cX6_setKeep 23 = .ok (.iload_n 1, 1) := by decide +kernel
theorem dX6_setKeep_24 : decode cX6_setKeep 24 = .ok (.putfield 119, 3) := by decide +kernel
theorem dX6_setKeep_27 : decode cX6_setKeep 27 = .ok (.iload_n 2, 1) := by decide +kernel
theorem dX6_setKeep_28 : decode cX6_setKeep 28 = .ok (.ireturn, 1) := by decide +kernel
abbrev mX6_setKeep : KM := (RX6, cX6_setKeep, 3, (some .int), { frames := 7, cells := 0, slots := 0, locals := 126 }, 0, 0)
def fX6_setKeep (a1 : Int32) (σ : Sto) : Option KP :=
  (fX6_needRange a1 1 100 σ).bind fun r1 =>
  if r1 = 0 then
    (fX6_keepForUndo σ).bind fun r4 =>
    klet (su r4 25 2 a1) fun σ7 =>
    some (0, (r4 25 2), σ7)
  else some (r1, 0, σ)
set_option maxHeartbeats 4000000 in
set_option maxRecDepth 100000 in
theorem tX6_setKeep (sh : KSh) (hk : KAG sh) (l : Launch) (hst : l.stackTraces = false) (a1 : Int32) (σ : Sto) (r : KP) (h : fX6_setKeep a1 σ = some r) (hnt : r.1 = 0) : CT sh l mX6_setKeep yX6_setKeep [.ref 0, .int a1] σ (r.1, .int r.2.1, r.2.2) := by
  refine kct [(0, .ref 0), (1, .int a1)] hst (by decide +kernel) rfl rfl (Nat.le_of_ble_eq_true rfl) ?_
  rw [fX6_setKeep] at h
  refine kv_iload_n (pc := 0) 1 dX6_setKeep_0 rfl rfl ?_
  refine kv_iconst (pc := 1) (v := 1) dX6_setKeep_1 (by decide) ?_
  refine kv_bipush (pc := 2) (v := 100) dX6_setKeep_2 (by decide) ?_
  refine kv_cSn (pc := 4) [.int a1, .int 1, .int 100] (fun r1 => (r1, .int 0, σ)) (fun r1 => []) (fun r1 => σ) 7 0 0 h (fun r1 g2 hnt => tX6_needRange sh hk l hst a1 1 100 σ r1 g2 hnt) dX6_setKeep_4 rfl yw_X6_needRange lk_X6_80 (by decide) (Nat.le_of_ble_eq_true rfl) (by decide) (fun _ => rfl) (fun _ => rfl) ⟨rfl, rfl, rfl⟩ (fun r h => Decidable.byContradiction (fun h9 => by rw [if_neg h9] at h; cases h; exact h9 hnt)) (fun r1 g2 z3 h => ?_)
  rw [if_pos z3] at h
  refine kv_aload_n (pc := 7) 0 dX6_setKeep_7 rfl rfl ?_
  refine kv_cV (pc := 8) [] (fun r4 => (0, .int 0, r4)) (fun r4 => []) (fun r4 => r4) 11 0 0 h (fun r4 g5 => tX6_keepForUndo sh hk l hst  σ r4 g5) dX6_setKeep_8 rfl (ks_0 hk) rfl yw_X6_keepForUndo lk_X6_263 (by decide) (Nat.le_of_ble_eq_true rfl) (by decide) (fun _ => rfl) (fun _ => rfl) ⟨rfl, rfl, rfl⟩ (fun _ _ h0 => absurd rfl h0) (fun r4 g5 z6 h => ?_)
  refine kv_aload_n (pc := 11) 0 dX6_setKeep_11 rfl rfl ?_
  refine kv_getR (pc := 12) (q2 := 25) dX6_setKeep_12 (ks_0 hk) rfl (i := 0) (by decide) rfl fl_X6_12 rfl rfl ?_
  refine kv_getI (pc := 15) dX6_setKeep_15 (ks_25 hk) rfl (i := 2) (by decide) rfl fl_X6_119 rfl ?_
  refine kv_istore_n (pc := 18) [(2, .int (r4 25 2)), (0, .ref 0), (1, .int a1)] dX6_setKeep_18 rfl (by decide) rfl ?_
  refine kv_aload_n (pc := 19) 1 dX6_setKeep_19 rfl rfl ?_
  refine kv_getR (pc := 20) (q2 := 25) dX6_setKeep_20 (ks_0 hk) rfl (i := 0) (by decide) rfl fl_X6_12 rfl rfl ?_
  refine kv_iload_n (pc := 23) 2 dX6_setKeep_23 rfl rfl ?_
  refine kv_put (pc := 24) tyX5 tyX5_ok nmX5 dX6_setKeep_24 (ks_25 hk) rfl (i := 2) (by decide) rfl fl_X6_119 rfl rfl rfl rfl rfl ?_
  refine kv_let h (fun σ7 h => ?_)
  refine kv_iload_n (pc := 27) 0 dX6_setKeep_27 rfl rfl ?_
  exact kv_iret (pc := 28) dX6_setKeep_28 rfl (by cases h; rfl) (by decide) (by decide)
theorem yw_X6_setKeep : KMV yX6_setKeep mX6_setKeep RX6 1 := ⟨⟨rfl, by decide +kernel, by decide +kernel, by decide +kernel⟩, ⟨rfl, rfl⟩, kg_in 1152 (by decide +kernel) (by decide +kernel), kg_in 1153 (by decide +kernel) (by decide +kernel), kg_in 47 (by decide +kernel) (by decide +kernel), kg_in 1154 (by decide +kernel) (by decide +kernel)⟩
theorem dX6_moves_0 : decode cX6_moves 0 = .ok (.aload_n 0, 1) := by decide +kernel
theorem dX6_moves_1 : decode cX6_moves 1 = .ok (.invokevirtual 280, 3) := by decide +kernel
theorem dX6_moves_4 : decode cX6_moves 4 = .ok (.ireturn, 1) := by decide +kernel
abbrev mX6_moves : KM := (RX6, cX6_moves, 1, (some .int), { frames := 7, cells := 0, slots := 0, locals := 157 }, 0, 0)
def fX6_moves (σ : Sto) : Option (Int32 × Sto) :=
  (fX6_movesOfNextTick σ).bind fun r1 =>
  some (r1.1, r1.2)
set_option maxHeartbeats 4000000 in
set_option maxRecDepth 100000 in
theorem tX6_moves (sh : KSh) (hk : KAG sh) (l : Launch) (hst : l.stackTraces = false) (σ : Sto) (r : (Int32 × Sto)) (h : fX6_moves σ = some r) : CT sh l mX6_moves yX6_moves [.ref 0] σ (0, .int r.1, r.2) := by
  refine kct [(0, .ref 0)] hst (by decide +kernel) rfl rfl (Nat.le_of_ble_eq_true rfl) ?_
  rw [fX6_moves] at h
  refine kv_aload_n (pc := 0) 0 dX6_moves_0 rfl rfl ?_
  refine kv_cV (pc := 1) [] (fun r1 => (0, .int r1.1, r1.2)) (fun r1 => (.int r1.1 :: [])) (fun r1 => r1.2) 4 0 0 h (fun r1 g2 => tX6_movesOfNextTick sh hk l hst  σ r1 g2) dX6_moves_1 rfl (ks_0 hk) rfl yw_X6_movesOfNextTick lk_X6_280 (by decide) (Nat.le_of_ble_eq_true rfl) (by decide) (fun _ => rfl) (fun _ => rfl) ⟨rfl, rfl, rfl⟩ (fun _ _ h0 => absurd rfl h0) (fun r1 g2 z3 h => ?_)
  exact kv_iret (pc := 4) dX6_moves_4 rfl (by cases h; rfl) (by decide) (by decide)
theorem yw_X6_moves : KMV yX6_moves mX6_moves RX6 0 := ⟨⟨rfl, by decide +kernel, by decide +kernel, by decide +kernel⟩, ⟨rfl, rfl⟩, kg_in 739 (by decide +kernel) (by decide +kernel), kg_in 740 (by decide +kernel) (by decide +kernel), kg_in 47 (by decide +kernel) (by decide +kernel), kg_in 741 (by decide +kernel) (by decide +kernel)⟩
theorem dX6_restsAt_0 : decode cX6_restsAt 0 = .ok (.aload_n 0, 1) := by decide +kernel
theorem dX6_restsAt_1 : decode cX6_restsAt 1 = .ok (.iload_n 1, 1) := by decide +kernel
theorem dX6_restsAt_2 : decode cX6_restsAt 2 = .ok (.invokevirtual 153, 3) := by decide +kernel
theorem dX6_restsAt_5 : decode cX6_restsAt 5 = .ok (.aload_n 0, 1) := by decide +kernel
theorem dX6_restsAt_6 : decode cX6_restsAt 6 = .ok (.getfield 12, 3) := by decide +kernel
theorem dX6_restsAt_9 : decode cX6_restsAt 9 = .ok (.iload_n 1, 1) := by decide +kernel
theorem dX6_restsAt_10 : decode cX6_restsAt 10 = .ok (.invokevirtual 166, 3) := by decide +kernel
theorem dX6_restsAt_13 : decode cX6_restsAt 13 = .ok (.iconst (-1), 1) := by decide +kernel
theorem dX6_restsAt_14 : decode cX6_restsAt 14 = .ok (.if_icmp .ne 11, 3) := by decide +kernel
theorem dX6_restsAt_17 : decode cX6_restsAt 17 = .ok (.new 69, 3) := by decide +kernel
theorem dX6_restsAt_20 : decode cX6_restsAt 20 = .ok (.dup, 1) := by decide +kernel
theorem dX6_restsAt_21 : decode cX6_restsAt 21 = .ok (.invokespecial 71, 3) := by decide +kernel
theorem dX6_restsAt_24 : decode cX6_restsAt 24 = .ok (.athrow, 1) := by decide +kernel
theorem dX6_restsAt_25 : decode cX6_restsAt 25 = .ok (.aload_n 0, 1) := by decide +kernel
theorem dX6_restsAt_26 : decode cX6_restsAt 26 = .ok (.getfield 16, 3) := by decide +kernel
theorem dX6_restsAt_29 : decode cX6_restsAt 29 = .ok (.aload_n 0, 1) := by decide +kernel
theorem dX6_restsAt_30 : decode cX6_restsAt 30 = .ok (.getfield 12, 3) := by decide +kernel
theorem dX6_restsAt_33 : decode cX6_restsAt 33 = .ok (.invokevirtual 88, 3) := by decide +kernel
theorem dX6_restsAt_36 : decode cX6_restsAt 36 = .ok (.aload_n 0, 1) := by decide +kernel
theorem dX6_restsAt_37 : decode cX6_restsAt 37 = .ok (.invokevirtual 289, 3) := by decide +kernel
theorem dX6_restsAt_40 : decode cX6_restsAt 40 = .ok (.pop, 1) := by decide +kernel
theorem dX6_restsAt_41 : decode cX6_restsAt 41 = .ok (.aload_n 0, 1) := by decide +kernel
theorem dX6_restsAt_42 : decode cX6_restsAt 42 = .ok (.getfield 16, 3) := by decide +kernel
theorem dX6_restsAt_45 : decode cX6_restsAt 45 = .ok (.iload_n 1, 1) := by decide +kernel
theorem dX6_restsAt_46 : decode cX6_restsAt 46 = .ok (.invokevirtual 166, 3) := by decide +kernel
theorem dX6_restsAt_49 : decode cX6_restsAt 49 = .ok (.iload_n 2, 1) := by decide +kernel
theorem dX6_restsAt_50 : decode cX6_restsAt 50 = .ok (.invokestatic 169, 3) := by decide +kernel
theorem dX6_restsAt_53 : decode cX6_restsAt 53 = .ok (.ireturn, 1) := by decide +kernel
abbrev mX6_restsAt : KM := (RX6, cX6_restsAt, 3, (some .int), { frames := 7, cells := 0, slots := 0, locals := 158 }, 0, 0)
def fX6_restsAt (a1 : Int32) (a2 : Int32) (σ : Sto) : Option KP :=
  (fX6_needChip a1 σ).bind fun r1 =>
  if r1 = 0 then
    (fX5_cellOf 25 a1 σ).bind fun r4 =>
    if r4 = (-1) then
      some (2, 0, σ)
    else
      (fX5_copyFrom 34 25 σ).bind fun r7 =>
      (fX6_settleTrial r7).bind fun r10 =>
      (fX5_cellOf 34 a1 r10.2).bind fun r13 =>
      some (0, (fX6_told r13 a2), r10.2)
  else some (r1, 0, σ)
set_option maxHeartbeats 4000000 in
set_option maxRecDepth 100000 in
theorem tX6_restsAt (sh : KSh) (hk : KAG sh) (l : Launch) (hst : l.stackTraces = false) (a1 : Int32) (a2 : Int32) (σ : Sto) (r : KP) (h : fX6_restsAt a1 a2 σ = some r) (hnt : r.1 = 0) : CT sh l mX6_restsAt yX6_restsAt [.ref 0, .int a1, .int a2] σ (r.1, .int r.2.1, r.2.2) := by
  refine kct [(0, .ref 0), (1, .int a1), (2, .int a2)] hst (by decide +kernel) rfl rfl (Nat.le_of_ble_eq_true rfl) ?_
  rw [fX6_restsAt] at h
  refine kv_aload_n (pc := 0) 0 dX6_restsAt_0 rfl rfl ?_
  refine kv_iload_n (pc := 1) 1 dX6_restsAt_1 rfl rfl ?_
  refine kv_cVn (pc := 2) [.int a1] (fun r1 => (r1, .int 0, σ)) (fun r1 => []) (fun r1 => σ) 5 0 0 h (fun r1 g2 hnt => tX6_needChip sh hk l hst a1 σ r1 g2 hnt) dX6_restsAt_2 rfl (ks_0 hk) rfl yw_X6_needChip lk_X6_153 (by decide) (Nat.le_of_ble_eq_true rfl) (by decide) (fun _ => rfl) (fun _ => rfl) ⟨rfl, rfl, rfl⟩ (fun r h => Decidable.byContradiction (fun h9 => by rw [if_neg h9] at h; cases h; exact h9 hnt)) (fun r1 g2 z3 h => ?_)
  rw [if_pos z3] at h
  refine kv_aload_n (pc := 5) 0 dX6_restsAt_5 rfl rfl ?_
  refine kv_getR (pc := 6) (q2 := 25) dX6_restsAt_6 (ks_0 hk) rfl (i := 0) (by decide) rfl fl_X6_12 rfl rfl ?_
  refine kv_iload_n (pc := 9) 1 dX6_restsAt_9 rfl rfl ?_
  refine kv_cV (pc := 10) [.int a1] (fun r4 => (0, .int r4, σ)) (fun r4 => (.int r4 :: [])) (fun r4 => σ) 13 0 0 h (fun r4 g5 => tX5_cellOf sh (kwf_of hk) l hst 25 (ks_25 hk) a1 σ r4 g5) dX6_restsAt_10 rfl (ks_25 hk) rfl yw_X5_cellOf lk_X6_166 (by decide) (Nat.le_of_ble_eq_true rfl) (by decide) (fun _ => rfl) (fun _ => rfl) ⟨rfl, rfl, rfl⟩ (fun _ _ h0 => absurd rfl h0) (fun r4 g5 z6 h => ?_)
  refine kv_iconst (pc := 13) (v := (-1)) dX6_restsAt_13 (by decide) ?_
  refine kv_icmp_ne (pc := 14) (tgt := 25) dX6_restsAt_14 (by decide) h (fun h => ?_) (fun h => ?_)
  · refine kv_aload_n (pc := 25) 0 dX6_restsAt_25 rfl rfl ?_
    refine kv_getR (pc := 26) (q2 := 34) dX6_restsAt_26 (ks_0 hk) rfl (i := 1) (by decide) rfl fl_X6_16 rfl rfl ?_
    refine kv_aload_n (pc := 29) 0 dX6_restsAt_29 rfl rfl ?_
    refine kv_getR (pc := 30) (q2 := 25) dX6_restsAt_30 (ks_0 hk) rfl (i := 0) (by decide) rfl fl_X6_12 rfl rfl ?_
    refine kv_cV (pc := 33) [.ref 25] (fun r7 => (0, .int 0, r7)) (fun r7 => []) (fun r7 => r7) 36 0 0 h (fun r7 g8 => tX5_copyFrom sh (kwf_of hk) l hst 34 (ks_34 hk) 25 (ks_25 hk) σ r7 g8) dX6_restsAt_33 rfl (ks_34 hk) rfl yw_X5_copyFrom lk_X6_88 (by decide) (Nat.le_of_ble_eq_true rfl) (by decide) (fun _ => rfl) (fun _ => rfl) ⟨rfl, rfl, rfl⟩ (fun _ _ h0 => absurd rfl h0) (fun r7 g8 z9 h => ?_)
    refine kv_aload_n (pc := 36) 0 dX6_restsAt_36 rfl rfl ?_
    refine kv_cV (pc := 37) [] (fun r10 => (0, .int r10.1, r10.2)) (fun r10 => (.int r10.1 :: [])) (fun r10 => r10.2) 40 0 0 h (fun r10 g11 => tX6_settleTrial sh hk l hst  r7 r10 g11) dX6_restsAt_37 rfl (ks_0 hk) rfl yw_X6_settleTrial lk_X6_289 (by decide) (Nat.le_of_ble_eq_true rfl) (by decide) (fun _ => rfl) (fun _ => rfl) ⟨rfl, rfl, rfl⟩ (fun _ _ h0 => absurd rfl h0) (fun r10 g11 z12 h => ?_)
    refine kv_pop (pc := 40) dX6_restsAt_40 rfl ?_
    refine kv_aload_n (pc := 41) 0 dX6_restsAt_41 rfl rfl ?_
    refine kv_getR (pc := 42) (q2 := 34) dX6_restsAt_42 (ks_0 hk) rfl (i := 1) (by decide) rfl fl_X6_16 rfl rfl ?_
    refine kv_iload_n (pc := 45) 1 dX6_restsAt_45 rfl rfl ?_
    refine kv_cV (pc := 46) [.int a1] (fun r13 => (0, .int r13, r10.2)) (fun r13 => (.int r13 :: [])) (fun r13 => r10.2) 49 0 0 h (fun r13 g14 => tX5_cellOf sh (kwf_of hk) l hst 34 (ks_34 hk) a1 r10.2 r13 g14) dX6_restsAt_46 rfl (ks_34 hk) rfl yw_X5_cellOf lk_X6_166 (by decide) (Nat.le_of_ble_eq_true rfl) (by decide) (fun _ => rfl) (fun _ => rfl) ⟨rfl, rfl, rfl⟩ (fun _ _ h0 => absurd rfl h0) (fun r13 g14 z15 h => ?_)
    refine kv_iload_n (pc := 49) 2 dX6_restsAt_49 rfl rfl ?_
    refine kv_tS (pc := 50) (v := .int (fX6_told r13 a2)) [.int r13, .int a2] (.int (fX6_told r13 a2) :: []) 53 0 0 (tX6_told sh hk l hst r13 a2 r10.2) dX6_restsAt_50 rfl yw_X6_told lk_X6_169 (by decide) (Nat.le_of_ble_eq_true rfl) (by decide) rfl ⟨rfl, rfl, rfl⟩ ?_
    exact kv_iret (pc := 53) dX6_restsAt_53 rfl (by cases h; rfl) (by decide) (by decide)
  · cases h; exact absurd (show (2 : Nat) = 0 from hnt) (by decide)
theorem yw_X6_restsAt : KMV yX6_restsAt mX6_restsAt RX6 2 := ⟨⟨rfl, by decide +kernel, by decide +kernel, by decide +kernel⟩, ⟨rfl, rfl⟩, kg_in 1121 (by decide +kernel) (by decide +kernel), kg_in 1122 (by decide +kernel) (by decide +kernel), kg_in 47 (by decide +kernel) (by decide +kernel), kg_in 1123 (by decide +kernel) (by decide +kernel)⟩
theorem dX6_settled_0 : decode cX6_settled 0 = .ok (.iload_n 1, 1) := by decide +kernel
theorem dX6_settled_1 : decode cX6_settled 1 = .ok (.iconst 0, 1) := by decide +kernel
theorem dX6_settled_2 : decode cX6_settled 2 = .ok (.bipush 7, 2) := by decide +kernel
theorem dX6_settled_4 : decode cX6_settled 4 = .ok (.invokestatic 80, 3) := by decide +kernel
theorem dX6_settled_7 : decode cX6_settled 7 = .ok (.iload_n 2, 1) := by decide +kernel
theorem dX6_settled_8 : decode cX6_settled 8 = .ok (.iconst 0, 1) := by decide +kernel
theorem dX6_settled_9 : decode cX6_settled 9 = .ok (.iconst 5, 1) := by decide +kernel
theorem dX6_settled_10 : decode cX6_settled 10 = .ok (.invokestatic 80, 3) := by decide +kernel
theorem dX6_settled_13 : decode cX6_settled 13 = .ok (.aload_n 0, 1) := by decide +kernel
theorem dX6_settled_14 : decode cX6_settled 14 = .ok (.getfield 16, 3) := by decide +kernel
theorem dX6_settled_17 : decode cX6_settled 17 = .ok (.aload_n 0, 1) := by decide +kernel
theorem dX6_settled_18 : decode cX6_settled 18 = .ok (.getfield 12, 3) := by decide +kernel
theorem dX6_settled_21 : decode cX6_settled 21 = .ok (.invokevirtual 88, 3) := by decide +kernel
theorem dX6_settled_24 : decode cX6_settled 24 = .ok (.aload_n 0, 1) := by decide +kernel
theorem dX6_settled_25 : decode cX6_settled 25 = .ok (.getfield 16, 3) := by decide +kernel
theorem dX6_settled_28 : decode cX6_settled 28 = .ok (.iload_n 1, 1) := by decide +kernel
theorem dX6_settled_29 : decode cX6_settled 29 = .ok (.invokevirtual 286, 3) := by decide +kernel
theorem dX6_settled_32 : decode cX6_settled 32 = .ok (.aload_n 0, 1) := by decide +kernel
theorem dX6_settled_33 : decode cX6_settled 33 = .ok (.invokevirtual 289, 3) := by decide +kernel
theorem dX6_settled_36 : decode cX6_settled 36 = .ok (.istore_n 3, 1) := by decide +kernel
theorem dX6_settled_37 : decode cX6_settled 37 = .ok (.aload_n 0, 1) := by decide +kernel
theorem dX6_settled_38 : decode cX6_settled 38 = .ok (.getfield 44, 3) := by decide +kernel
theorem dX6_settled_41 : decode cX6_settled 41 = .ok (.aload_n 0, 1) := by decide +kernel
theorem dX6_settled_42 : decode cX6_settled 42 = .ok (.getfield 16, 3) := by decide +kernel
theorem dX6_settled_45 : decode cX6_settled 45 = .ok (.invokevirtual 206, 3) := by decide +kernel
theorem dX6_settled_48 : decode cX6_settled 48 = .ok (.iload_n 2, 1) := by decide +kernel
theorem dX6_settled_49 : decode cX6_settled 49 = .ok (.tableswitch 99 0 4 #[35, 37, 53, 69, 84], 35) := by decide +kernel
theorem dX6_settled_84 : decode cX6_settled 84 = .ok (.iload_n 3, 1) := by decide +kernel
theorem dX6_settled_85 : decode cX6_settled 85 = .ok (.ireturn, 1) := by decide +kernel
theorem dX6_settled_86 : decode cX6_settled 86 = .ok (.aload_n 0, 1) := by decide +kernel
theorem dX6_settled_87 : decode cX6_settled 87 = .ok (.getfield 16, 3) := by decide +kernel
theorem dX6_settled_90 : decode cX6_settled 90 = .ok (.getfield 141, 3) := by decide +kernel
theorem dX6_settled_93 : decode cX6_settled 93 = .ok (.aload_n 0, 1) := by decide +kernel
theorem dX6_settled_94 : decode cX6_settled 94 = .ok (.getfield 12, 3) := by decide +kernel
theorem dX6_settled_97 : decode cX6_settled 97 = .ok (.getfield 141, 3) := by decide +kernel
theorem dX6_settled_100 : decode cX6_settled 100 = .ok (.isub, 1) := by decide +kernel
theorem dX6_settled_101 : decode cX6_settled 101 = .ok (.ireturn, 1) := by decide +kernel
theorem dX6_settled_102 : decode cX6_settled 102 = .ok (.aload_n 0, 1) := by decide +kernel
theorem dX6_settled_103 : decode cX6_settled 103 = .ok (.getfield 44, 3) := by decide +kernel
theorem dX6_settled_106 : decode cX6_settled 106 = .ok (.aload_n 0, 1) := by decide +kernel
theorem dX6_settled_107 : decode cX6_settled 107 = .ok (.getfield 16, 3) := by decide +kernel
theorem dX6_settled_110 : decode cX6_settled 110 = .ok (.getfield 104, 3) := by decide +kernel
theorem dX6_settled_113 : decode cX6_settled 113 = .ok (.iconst 0, 1) := by decide +kernel
theorem dX6_settled_114 : decode cX6_settled 114 = .ok (.invokevirtual 218, 3) := by decide +kernel
theorem dX6_settled_117 : decode cX6_settled 117 = .ok (.ireturn, 1) := by decide +kernel
theorem dX6_settled_118 : decode cX6_settled 118 = .ok (.aload_n 0, 1) := by decide +kernel
theorem dX6_settled_119 : decode cX6_settled 119 = .ok (.getfield 44, 3) := by decide +kernel
theorem dX6_settled_122 : decode cX6_settled 122 = .ok (.aload_n 0, 1) := by decide +kernel
theorem dX6_settled_123 : decode cX6_settled 123 = .ok (.getfield 16, 3) := by decide +kernel
theorem dX6_settled_126 : decode cX6_settled 126 = .ok (.getfield 104, 3) := by decide +kernel
theorem dX6_settled_129 : decode cX6_settled 129 = .ok (.invokevirtual 225, 3) := by decide +kernel
theorem dX6_settled_132 : decode cX6_settled 132 = .ok (.ireturn, 1) := by decide +kernel
theorem dX6_settled_133 : decode cX6_settled 133 = .ok (.aload_n 0, 1) := by decide +kernel
theorem dX6_settled_134 : decode cX6_settled 134 = .ok (.getfield 44, 3) := by decide +kernel
theorem dX6_settled_137 : decode cX6_settled 137 = .ok (.aload_n 0, 1) := by decide +kernel
theorem dX6_settled_138 : decode cX6_settled 138 = .ok (.getfield 16, 3) := by decide +kernel
theorem dX6_settled_141 : decode cX6_settled 141 = .ok (.getfield 104, 3) := by decide +kernel
theorem dX6_settled_144 : decode cX6_settled 144 = .ok (.invokestatic 233, 3) := by decide +kernel
theorem dX6_settled_147 : decode cX6_settled 147 = .ok (.ireturn, 1) := by decide +kernel
theorem dX6_settled_148 : decode cX6_settled 148 = .ok (.aload_n 0, 1) := by decide +kernel
theorem dX6_settled_149 : decode cX6_settled 149 = .ok (.getfield 16, 3) := by decide +kernel
theorem dX6_settled_152 : decode cX6_settled 152 = .ok (.invokevirtual 302, 3) := by decide +kernel
theorem dX6_settled_155 : decode cX6_settled 155 = .ok (.ireturn, 1) := by decide +kernel
abbrev mX6_settled : KM := (RX6, cX6_settled, 4, (some .int), { frames := 7, cells := 0, slots := 0, locals := 158 }, 0, 0)
def fX6_settled (a1 : Int32) (a2 : Int32) (σ : Sto) : Option KP :=
  (fX6_needRange a1 0 7 σ).bind fun r1 =>
  if r1 = 0 then
    (fX6_needRange a2 0 5 σ).bind fun r4 =>
    if r4 = 0 then
      (fX5_copyFrom 34 25 σ).bind fun r7 =>
      (some (fX5_turnBy 34 a1 r7)).bind fun r10 =>
      (fX6_settleTrial r10).bind fun r13 =>
      (fX3_look 7 34 r13.2).bind fun r16 =>
      if a2 = 0 then
        some (0, r13.1, r16)
      else
        if a2 = 1 then
          some (0, ((r16 34 5) - (r16 25 5)), r16)
        else
          if a2 = 2 then
            (fX3_countRegions 7 35 0 r16).bind fun r22 =>
            some (0, r22.1, r22.2)
          else
            if a2 = 3 then
              (fX3_countEdges 7 35 r16).bind fun r26 =>
              some (0, r26, r16)
            else
              if a2 = 4 then
                (fX6_mapsOf 7 35 r16).bind fun r30 =>
                some (0, r30, r16)
              else
                (fX5_sumOfDepths 34 r16).bind fun r33 =>
                some (0, r33, r16)
    else some (r4, 0, σ)
  else some (r1, 0, σ)
set_option maxHeartbeats 4000000 in
set_option maxRecDepth 100000 in
theorem tX6_settled (sh : KSh) (hk : KAG sh) (l : Launch) (hst : l.stackTraces = false) (a1 : Int32) (a2 : Int32) (σ : Sto) (r : KP) (h : fX6_settled a1 a2 σ = some r) (hnt : r.1 = 0) : CT sh l mX6_settled yX6_settled [.ref 0, .int a1, .int a2] σ (r.1, .int r.2.1, r.2.2) := by
  refine kct [(0, .ref 0), (1, .int a1), (2, .int a2)] hst (by decide +kernel) rfl rfl (Nat.le_of_ble_eq_true rfl) ?_
  rw [fX6_settled] at h
  refine kv_iload_n (pc := 0) 1 dX6_settled_0 rfl rfl ?_
  refine kv_iconst (pc := 1) (v := 0) dX6_settled_1 (by decide) ?_
  refine kv_bipush (pc := 2) (v := 7) dX6_settled_2 (by decide) ?_
  refine kv_cSn (pc := 4) [.int a1, .int 0, .int 7] (fun r1 => (r1, .int 0, σ)) (fun r1 => []) (fun r1 => σ) 7 0 0 h (fun r1 g2 hnt => tX6_needRange sh hk l hst a1 0 7 σ r1 g2 hnt) dX6_settled_4 rfl yw_X6_needRange lk_X6_80 (by decide) (Nat.le_of_ble_eq_true rfl) (by decide) (fun _ => rfl) (fun _ => rfl) ⟨rfl, rfl, rfl⟩ (fun r h => Decidable.byContradiction (fun h9 => by rw [if_neg h9] at h; cases h; exact h9 hnt)) (fun r1 g2 z3 h => ?_)
  rw [if_pos z3] at h
  refine kv_iload_n (pc := 7) 2 dX6_settled_7 rfl rfl ?_
  refine kv_iconst (pc := 8) (v := 0) dX6_settled_8 (by decide) ?_
  refine kv_iconst (pc := 9) (v := 5) dX6_settled_9 (by decide) ?_
  refine kv_cSn (pc := 10) [.int a2, .int 0, .int 5] (fun r4 => (r4, .int 0, σ)) (fun r4 => []) (fun r4 => σ) 13 0 0 h (fun r4 g5 hnt => tX6_needRange sh hk l hst a2 0 5 σ r4 g5 hnt) dX6_settled_10 rfl yw_X6_needRange lk_X6_80 (by decide) (Nat.le_of_ble_eq_true rfl) (by decide) (fun _ => rfl) (fun _ => rfl) ⟨rfl, rfl, rfl⟩ (fun r h => Decidable.byContradiction (fun h9 => by rw [if_neg h9] at h; cases h; exact h9 hnt)) (fun r4 g5 z6 h => ?_)
  rw [if_pos z6] at h
  refine kv_aload_n (pc := 13) 0 dX6_settled_13 rfl rfl ?_
  refine kv_getR (pc := 14) (q2 := 34) dX6_settled_14 (ks_0 hk) rfl (i := 1) (by decide) rfl fl_X6_16 rfl rfl ?_
  refine kv_aload_n (pc := 17) 0 dX6_settled_17 rfl rfl ?_
  refine kv_getR (pc := 18) (q2 := 25) dX6_settled_18 (ks_0 hk) rfl (i := 0) (by decide) rfl fl_X6_12 rfl rfl ?_
  refine kv_cV (pc := 21) [.ref 25] (fun r7 => (0, .int 0, r7)) (fun r7 => []) (fun r7 => r7) 24 0 0 h (fun r7 g8 => tX5_copyFrom sh (kwf_of hk) l hst 34 (ks_34 hk) 25 (ks_25 hk) σ r7 g8) dX6_settled_21 rfl (ks_34 hk) rfl yw_X5_copyFrom lk_X6_88 (by decide) (Nat.le_of_ble_eq_true rfl) (by decide) (fun _ => rfl) (fun _ => rfl) ⟨rfl, rfl, rfl⟩ (fun _ _ h0 => absurd rfl h0) (fun r7 g8 z9 h => ?_)
  refine kv_aload_n (pc := 24) 0 dX6_settled_24 rfl rfl ?_
  refine kv_getR (pc := 25) (q2 := 34) dX6_settled_25 (ks_0 hk) rfl (i := 1) (by decide) rfl fl_X6_16 rfl rfl ?_
  refine kv_iload_n (pc := 28) 1 dX6_settled_28 rfl rfl ?_
  refine kv_cV (pc := 29) [.int a1] (fun r10 => (0, .int 0, r10)) (fun r10 => []) (fun r10 => r10) 32 0 0 h (fun r10 g11 => by cases g11; exact tX5_turnBy sh (kwf_of hk) l hst 34 (ks_34 hk) a1 r7) dX6_settled_29 rfl (ks_34 hk) rfl yw_X5_turnBy lk_X6_286 (by decide) (Nat.le_of_ble_eq_true rfl) (by decide) (fun _ => rfl) (fun _ => rfl) ⟨rfl, rfl, rfl⟩ (fun _ _ h0 => absurd rfl h0) (fun r10 g11 z12 h => ?_)
  refine kv_aload_n (pc := 32) 0 dX6_settled_32 rfl rfl ?_
  refine kv_cV (pc := 33) [] (fun r13 => (0, .int r13.1, r13.2)) (fun r13 => (.int r13.1 :: [])) (fun r13 => r13.2) 36 0 0 h (fun r13 g14 => tX6_settleTrial sh hk l hst  r10 r13 g14) dX6_settled_33 rfl (ks_0 hk) rfl yw_X6_settleTrial lk_X6_289 (by decide) (Nat.le_of_ble_eq_true rfl) (by decide) (fun _ => rfl) (fun _ => rfl) ⟨rfl, rfl, rfl⟩ (fun _ _ h0 => absurd rfl h0) (fun r13 g14 z15 h => ?_)
  refine kv_istore_n (pc := 36) [(3, .int r13.1), (0, .ref 0), (1, .int a1), (2, .int a2)] dX6_settled_36 rfl (by decide) rfl ?_
  refine kv_aload_n (pc := 37) 1 dX6_settled_37 rfl rfl ?_
  refine kv_getR (pc := 38) (q2 := 7) dX6_settled_38 (ks_0 hk) rfl (i := 9) (by decide) rfl fl_X6_44 rfl rfl ?_
  refine kv_aload_n (pc := 41) 1 dX6_settled_41 rfl rfl ?_
  refine kv_getR (pc := 42) (q2 := 34) dX6_settled_42 (ks_0 hk) rfl (i := 1) (by decide) rfl fl_X6_16 rfl rfl ?_
  refine kv_cV (pc := 45) [.ref 34] (fun r16 => (0, .int 0, r16)) (fun r16 => []) (fun r16 => r16) 48 0 0 h (fun r16 g17 => tX3_look sh (kwf_of hk) l hst 7 (ks_7 hk) 34 (ks_34 hk) r13.2 r16 g17) dX6_settled_45 rfl (ks_7 hk) rfl yw_X3_look lk_X6_206 (by decide) (Nat.le_of_ble_eq_true rfl) (by decide) (fun _ => rfl) (fun _ => rfl) ⟨rfl, rfl, rfl⟩ (fun _ _ h0 => absurd rfl h0) (fun r16 g17 z18 h => ?_)
  refine kv_iload_n (pc := 48) 3 dX6_settled_48 rfl rfl ?_
  by_cases e19 : a2 = 0
  · rw [if_pos e19] at h
    refine kv_tableIn (pc := 49) (off := 35) (tgt := 84) dX6_settled_49 (by rw [e19]; decide) (by rw [e19]; decide) (by rw [e19]; rfl) (by decide) ?_
    refine kv_iload_n (pc := 84) 0 dX6_settled_84 rfl rfl ?_
    exact kv_iret (pc := 85) dX6_settled_85 rfl (by cases h; rfl) (by decide) (by decide)
  · rw [if_neg e19] at h
    by_cases e20 : a2 = 1
    · rw [if_pos e20] at h
      refine kv_tableIn (pc := 49) (off := 37) (tgt := 86) dX6_settled_49 (by rw [e20]; decide) (by rw [e20]; decide) (by rw [e20]; rfl) (by decide) ?_
      refine kv_aload_n (pc := 86) 1 dX6_settled_86 rfl rfl ?_
      refine kv_getR (pc := 87) (q2 := 34) dX6_settled_87 (ks_0 hk) rfl (i := 1) (by decide) rfl fl_X6_16 rfl rfl ?_
      refine kv_getI (pc := 90) dX6_settled_90 (ks_34 hk) rfl (i := 5) (by decide) rfl fl_X6_141 rfl ?_
      refine kv_aload_n (pc := 93) 1 dX6_settled_93 rfl rfl ?_
      refine kv_getR (pc := 94) (q2 := 25) dX6_settled_94 (ks_0 hk) rfl (i := 0) (by decide) rfl fl_X6_12 rfl rfl ?_
      refine kv_getI (pc := 97) dX6_settled_97 (ks_25 hk) rfl (i := 5) (by decide) rfl fl_X6_141 rfl ?_
      refine kv_isub (pc := 100) dX6_settled_100 ?_
      exact kv_iret (pc := 101) dX6_settled_101 rfl (by cases h; rfl) (by decide) (by decide)
    · rw [if_neg e20] at h
      by_cases e21 : a2 = 2
      · rw [if_pos e21] at h
        refine kv_tableIn (pc := 49) (off := 53) (tgt := 102) dX6_settled_49 (by rw [e21]; decide) (by rw [e21]; decide) (by rw [e21]; rfl) (by decide) ?_
        refine kv_aload_n (pc := 102) 1 dX6_settled_102 rfl rfl ?_
        refine kv_getR (pc := 103) (q2 := 7) dX6_settled_103 (ks_0 hk) rfl (i := 9) (by decide) rfl fl_X6_44 rfl rfl ?_
        refine kv_aload_n (pc := 106) 1 dX6_settled_106 rfl rfl ?_
        refine kv_getR (pc := 107) (q2 := 34) dX6_settled_107 (ks_0 hk) rfl (i := 1) (by decide) rfl fl_X6_16 rfl rfl ?_
        refine kv_getR (pc := 110) (q2 := 35) dX6_settled_110 (ks_34 hk) rfl (i := 0) (by decide) rfl fl_X6_104 rfl rfl ?_
        refine kv_iconst (pc := 113) (v := 0) dX6_settled_113 (by decide) ?_
        refine kv_cV (pc := 114) [.ref 35, .int 0] (fun r22 => (0, .int r22.1, r22.2)) (fun r22 => (.int r22.1 :: [])) (fun r22 => r22.2) 117 0 0 h (fun r22 g23 => tX3_countRegions sh (kwf_of hk) l hst 7 (ks_7 hk) 35 (ks_35 hk) 0 r16 r22 g23) dX6_settled_114 rfl (ks_7 hk) rfl yw_X3_countRegions lk_X6_218 (by decide) (Nat.le_of_ble_eq_true rfl) (by decide) (fun _ => rfl) (fun _ => rfl) ⟨rfl, rfl, rfl⟩ (fun _ _ h0 => absurd rfl h0) (fun r22 g23 z24 h => ?_)
        exact kv_iret (pc := 117) dX6_settled_117 rfl (by cases h; rfl) (by decide) (by decide)
      · rw [if_neg e21] at h
        by_cases e25 : a2 = 3
        · rw [if_pos e25] at h
          refine kv_tableIn (pc := 49) (off := 69) (tgt := 118) dX6_settled_49 (by rw [e25]; decide) (by rw [e25]; decide) (by rw [e25]; rfl) (by decide) ?_
          refine kv_aload_n (pc := 118) 1 dX6_settled_118 rfl rfl ?_
          refine kv_getR (pc := 119) (q2 := 7) dX6_settled_119 (ks_0 hk) rfl (i := 9) (by decide) rfl fl_X6_44 rfl rfl ?_
          refine kv_aload_n (pc := 122) 1 dX6_settled_122 rfl rfl ?_
          refine kv_getR (pc := 123) (q2 := 34) dX6_settled_123 (ks_0 hk) rfl (i := 1) (by decide) rfl fl_X6_16 rfl rfl ?_
          refine kv_getR (pc := 126) (q2 := 35) dX6_settled_126 (ks_34 hk) rfl (i := 0) (by decide) rfl fl_X6_104 rfl rfl ?_
          refine kv_cV (pc := 129) [.ref 35] (fun r26 => (0, .int r26, r16)) (fun r26 => (.int r26 :: [])) (fun r26 => r16) 132 0 0 h (fun r26 g27 => tX3_countEdges sh (kwf_of hk) l hst 7 (ks_7 hk) 35 (ks_35 hk) r16 r26 g27) dX6_settled_129 rfl (ks_7 hk) rfl yw_X3_countEdges lk_X6_225 (by decide) (Nat.le_of_ble_eq_true rfl) (by decide) (fun _ => rfl) (fun _ => rfl) ⟨rfl, rfl, rfl⟩ (fun _ _ h0 => absurd rfl h0) (fun r26 g27 z28 h => ?_)
          exact kv_iret (pc := 132) dX6_settled_132 rfl (by cases h; rfl) (by decide) (by decide)
        · rw [if_neg e25] at h
          by_cases e29 : a2 = 4
          · rw [if_pos e29] at h
            refine kv_tableIn (pc := 49) (off := 84) (tgt := 133) dX6_settled_49 (by rw [e29]; decide) (by rw [e29]; decide) (by rw [e29]; rfl) (by decide) ?_
            refine kv_aload_n (pc := 133) 1 dX6_settled_133 rfl rfl ?_
            refine kv_getR (pc := 134) (q2 := 7) dX6_settled_134 (ks_0 hk) rfl (i := 9) (by decide) rfl fl_X6_44 rfl rfl ?_
            refine kv_aload_n (pc := 137) 1 dX6_settled_137 rfl rfl ?_
            refine kv_getR (pc := 138) (q2 := 34) dX6_settled_138 (ks_0 hk) rfl (i := 1) (by decide) rfl fl_X6_16 rfl rfl ?_
            refine kv_getR (pc := 141) (q2 := 35) dX6_settled_141 (ks_34 hk) rfl (i := 0) (by decide) rfl fl_X6_104 rfl rfl ?_
            refine kv_cS (pc := 144) [.ref 7, .ref 35] (fun r30 => (0, .int r30, r16)) (fun r30 => (.int r30 :: [])) (fun r30 => r16) 147 0 0 h (fun r30 g31 => tX6_mapsOf sh hk l hst 7 (ks_7 hk) 35 (ks_35 hk) r16 r30 g31) dX6_settled_144 rfl yw_X6_mapsOf lk_X6_233 (by decide) (Nat.le_of_ble_eq_true rfl) (by decide) (fun _ => rfl) (fun _ => rfl) ⟨rfl, rfl, rfl⟩ (fun _ _ h0 => absurd rfl h0) (fun r30 g31 z32 h => ?_)
            exact kv_iret (pc := 147) dX6_settled_147 rfl (by cases h; rfl) (by decide) (by decide)
          · rw [if_neg e29] at h
            have ne19 : ¬ a2.toInt = 0 := lv_neT e19 (by decide)
            have ne20 : ¬ a2.toInt = 1 := lv_neT e20 (by decide)
            have ne21 : ¬ a2.toInt = 2 := lv_neT e21 (by decide)
            have ne25 : ¬ a2.toInt = 3 := lv_neT e25 (by decide)
            have ne29 : ¬ a2.toInt = 4 := lv_neT e29 (by decide)
            refine kv_tableOut (pc := 49) (tgt := 148) dX6_settled_49 (by omega) (by decide) ?_
            refine kv_aload_n (pc := 148) 1 dX6_settled_148 rfl rfl ?_
            refine kv_getR (pc := 149) (q2 := 34) dX6_settled_149 (ks_0 hk) rfl (i := 1) (by decide) rfl fl_X6_16 rfl rfl ?_
            refine kv_cV (pc := 152) [] (fun r33 => (0, .int r33, r16)) (fun r33 => (.int r33 :: [])) (fun r33 => r16) 155 0 0 h (fun r33 g34 => tX5_sumOfDepths sh (kwf_of hk) l hst 34 (ks_34 hk) r16 r33 g34) dX6_settled_152 rfl (ks_34 hk) rfl yw_X5_sumOfDepths lk_X6_302 (by decide) (Nat.le_of_ble_eq_true rfl) (by decide) (fun _ => rfl) (fun _ => rfl) ⟨rfl, rfl, rfl⟩ (fun _ _ h0 => absurd rfl h0) (fun r33 g34 z35 h => ?_)
            exact kv_iret (pc := 155) dX6_settled_155 rfl (by cases h; rfl) (by decide) (by decide)
theorem yw_X6_settled : KMV yX6_settled mX6_settled RX6 2 := ⟨⟨rfl, by decide +kernel, by decide +kernel, by decide +kernel⟩, ⟨rfl, rfl⟩, kg_in 1103 (by decide +kernel) (by decide +kernel), kg_in 1104 (by decide +kernel) (by decide +kernel), kg_in 47 (by decide +kernel) (by decide +kernel), kg_in 1105 (by decide +kernel) (by decide +kernel)⟩
theorem dX6_undo_0 : decode cX6_undo 0 = .ok (.aload_n 0, 1) := by decide +kernel
theorem dX6_undo_1 : decode cX6_undo 1 = .ok (.getfield 92, 3) := by decide +kernel
theorem dX6_undo_4 : decode cX6_undo 4 = .ok (.ifCond .ne 5, 3) := by decide +kernel
theorem dX6_undo_7 : decode cX6_undo 7 = .ok (.iconst (-1), 1) := by decide +kernel
theorem dX6_undo_8 : decode cX6_undo 8 = .ok (.ireturn, 1) := by decide +kernel
theorem dX6_undo_9 : decode cX6_undo 9 = .ok (.aload_n 0, 1) := by decide +kernel
theorem dX6_undo_10 : decode cX6_undo 10 = .ok (.aload_n 0, 1) := by decide +kernel
theorem dX6_undo_11 : decode cX6_undo 11 = .ok (.getfield 322, 3) := by decide +kernel
theorem dX6_undo_14 : decode cX6_undo 14 = .ok (.iconst 1, 1) := by decide +kernel
theorem dX6_undo_15 : decode cX6_undo 15 = .ok (.isub, 1) := by decide +kernel
theorem dX6_undo_16 : decode cX6_undo 16 = .ok (.bipush 7, 2) := by decide +kernel
theorem dX6_undo_18 : decode cX6_undo 18 = .ok (.iand, 1) := by decide +kernel
theorem dX6_undo_19 : decode cX6_undo 19 = .ok (.putfield 322, 3) := by decide +kernel
theorem dX6_undo_22 : decode cX6_undo 22 = .ok (.aload_n 0, 1) := by decide +kernel
theorem dX6_undo_23 : decode cX6_undo 23 = .ok (.dup, 1) := by decide +kernel
theorem dX6_undo_24 : decode cX6_undo 24 = .ok (.getfield 92, 3) := by decide +kernel
theorem dX6_undo_27 : decode cX6_undo 27 = .ok (.iconst 1, 1) := by decide +kernel
theorem dX6_undo_28 : decode cX6_undo 28 = .ok (.isub, 1) := by decide +kernel
theorem dX6_undo_29 : decode cX6_undo 29 = .ok (.putfield 92, 3) := by decide +kernel
theorem dX6_undo_32 : decode cX6_undo 32 = .ok (.aload_n 0, 1) := by decide +kernel
theorem dX6_undo_33 : decode cX6_undo 33 = .ok (.getfield 12, 3) := by decide +kernel
theorem dX6_undo_36 : decode cX6_undo 36 = .ok (.aload_n 0, 1) := by decide +kernel
theorem dX6_undo_37 : decode cX6_undo 37 = .ok (.getfield 19, 3) := by decide +kernel
theorem dX6_undo_40 : decode cX6_undo 40 = .ok (.aload_n 0, 1) := by decide +kernel
theorem dX6_undo_41 : decode cX6_undo 41 = .ok (.getfield 322, 3) := by decide +kernel
theorem dX6_undo_44 : decode cX6_undo 44 = .ok (.aaload, 1) := by decide +kernel
theorem dX6_undo_45 : decode cX6_undo 45 = .ok (.invokevirtual 88, 3) := by decide +kernel
theorem dX6_undo_48 : decode cX6_undo 48 = .ok (.aload_n 0, 1) := by decide +kernel
theorem dX6_undo_49 : decode cX6_undo 49 = .ok (.getfield 92, 3) := by decide +kernel
theorem dX6_undo_52 : decode cX6_undo 52 = .ok (.ireturn, 1) := by decide +kernel
abbrev mX6_undo : KM := (RX6, cX6_undo, 1, (some .int), { frames := 3, cells := 0, slots := 0, locals := 106 }, 0, 0)
def fX6_undo (σ : Sto) : Option (Int32 × Sto) :=
  if (σ 0 4) = 0 then
    some ((-1), σ)
  else
    klet (su σ 0 3 (((σ 0 3) - 1) &&& 7)) fun σ1 =>
    klet (su σ1 0 4 ((σ1 0 4) - 1)) fun σ2 =>
    if kin (σ2 0 3) 8 = true then
      (fX5_copyFrom 25 (43 + 9 * (σ2 0 3).toNatClampNeg) σ2).bind fun r4 =>
      some ((r4 0 4), r4)
    else none
set_option maxHeartbeats 4000000 in
set_option maxRecDepth 100000 in
theorem tX6_undo (sh : KSh) (hk : KAG sh) (l : Launch) (hst : l.stackTraces = false) (σ : Sto) (r : (Int32 × Sto)) (h : fX6_undo σ = some r) : CT sh l mX6_undo yX6_undo [.ref 0] σ (0, .int r.1, r.2) := by
  refine kct [(0, .ref 0)] hst (by decide +kernel) rfl rfl (Nat.le_of_ble_eq_true rfl) ?_
  rw [fX6_undo] at h
  refine kv_aload_n (pc := 0) 0 dX6_undo_0 rfl rfl ?_
  refine kv_getI (pc := 1) dX6_undo_1 (ks_0 hk) rfl (i := 4) (by decide) rfl fl_X6_92 rfl ?_
  refine kv_if_ne (pc := 4) (tgt := 9) dX6_undo_4 (by decide) h (fun h => ?_) (fun h => ?_)
  · refine kv_aload_n (pc := 9) 0 dX6_undo_9 rfl rfl ?_
    refine kv_aload_n (pc := 10) 0 dX6_undo_10 rfl rfl ?_
    refine kv_getI (pc := 11) dX6_undo_11 (ks_0 hk) rfl (i := 3) (by decide) rfl fl_X6_322 rfl ?_
    refine kv_iconst (pc := 14) (v := 1) dX6_undo_14 (by decide) ?_
    refine kv_isub (pc := 15) dX6_undo_15 ?_
    refine kv_bipush (pc := 16) (v := 7) dX6_undo_16 (by decide) ?_
    refine kv_iand (pc := 18) dX6_undo_18 ?_
    refine kv_put (pc := 19) tyX6 tyX6_ok nmX6 dX6_undo_19 (ks_0 hk) rfl (i := 3) (by decide) rfl fl_X6_322 rfl rfl rfl rfl rfl ?_
    refine kv_let h (fun σ1 h => ?_)
    refine kv_aload_n (pc := 22) 0 dX6_undo_22 rfl rfl ?_
    refine kv_dup (pc := 23) dX6_undo_23 rfl ?_
    refine kv_getI (pc := 24) dX6_undo_24 (ks_0 hk) rfl (i := 4) (by decide) rfl fl_X6_92 rfl ?_
    refine kv_iconst (pc := 27) (v := 1) dX6_undo_27 (by decide) ?_
    refine kv_isub (pc := 28) dX6_undo_28 ?_
    refine kv_put (pc := 29) tyX6 tyX6_ok nmX6 dX6_undo_29 (ks_0 hk) rfl (i := 4) (by decide) rfl fl_X6_92 rfl rfl rfl rfl rfl ?_
    refine kv_let h (fun σ2 h => ?_)
    refine kv_aload_n (pc := 32) 0 dX6_undo_32 rfl rfl ?_
    refine kv_getR (pc := 33) (q2 := 25) dX6_undo_33 (ks_0 hk) rfl (i := 0) (by decide) rfl fl_X6_12 rfl rfl ?_
    refine kv_aload_n (pc := 36) 0 dX6_undo_36 rfl rfl ?_
    refine kv_getR (pc := 37) (q2 := 1) dX6_undo_37 (ks_0 hk) rfl (i := 2) (by decide) rfl fl_X6_19 rfl rfl ?_
    refine kv_aload_n (pc := 40) 0 dX6_undo_40 rfl rfl ?_
    refine kv_getI (pc := 41) dX6_undo_41 (ks_0 hk) rfl (i := 3) (by decide) rfl fl_X6_322 rfl ?_
    refine kv_aald (pc := 44) (b := 40) dX6_undo_44 (ks_1 hk) h (fun c3 h => ?_)
    refine kv_cV (pc := 45) [.ref (43 + 9 * (σ2 0 3).toNatClampNeg)] (fun r4 => (0, .int 0, r4)) (fun r4 => []) (fun r4 => r4) 48 0 0 h (fun r4 g5 => tX5_copyFrom sh (kwf_of hk) l hst 25 (ks_25 hk) (43 + 9 * (σ2 0 3).toNatClampNeg) (ksa_past hk c3) σ2 r4 g5) dX6_undo_45 rfl (ks_25 hk) rfl yw_X5_copyFrom lk_X6_88 (by decide) (Nat.le_of_ble_eq_true rfl) (by decide) (fun _ => rfl) (fun _ => rfl) ⟨rfl, rfl, rfl⟩ (fun _ _ h0 => absurd rfl h0) (fun r4 g5 z6 h => ?_)
    refine kv_aload_n (pc := 48) 0 dX6_undo_48 rfl rfl ?_
    refine kv_getI (pc := 49) dX6_undo_49 (ks_0 hk) rfl (i := 4) (by decide) rfl fl_X6_92 rfl ?_
    exact kv_iret (pc := 52) dX6_undo_52 rfl (by cases h; rfl) (by decide) (by decide)
  · refine kv_iconst (pc := 7) (v := (-1)) dX6_undo_7 (by decide) ?_
    exact kv_iret (pc := 8) dX6_undo_8 rfl (by cases h; rfl) (by decide) (by decide)
theorem yw_X6_undo : KMV yX6_undo mX6_undo RX6 0 := ⟨⟨rfl, by decide +kernel, by decide +kernel, by decide +kernel⟩, ⟨rfl, rfl⟩, kg_in 1117 (by decide +kernel) (by decide +kernel), kg_in 1118 (by decide +kernel) (by decide +kernel), kg_in 47 (by decide +kernel) (by decide +kernel), kg_in 1119 (by decide +kernel) (by decide +kernel)⟩
theorem dX6_save_0 : decode cX6_save 0 = .ok (.iload_n 1, 1) := by decide +kernel
theorem dX6_save_1 : decode cX6_save 1 = .ok (.iconst 0, 1) := by decide +kernel
theorem dX6_save_2 : decode cX6_save 2 = .ok (.iconst 1, 1) := by decide +kernel
theorem dX6_save_3 : decode cX6_save 3 = .ok (.invokestatic 80, 3) := by decide +kernel
theorem dX6_save_6 : decode cX6_save 6 = .ok (.aload_n 0, 1) := by decide +kernel
theorem dX6_save_7 : decode cX6_save 7 = .ok (.getfield 23, 3) := by decide +kernel
theorem dX6_save_10 : decode cX6_save 10 = .ok (.iload_n 1, 1) := by decide +kernel
theorem dX6_save_11 : decode cX6_save 11 = .ok (.aaload, 1) := by decide +kernel
theorem dX6_save_12 : decode cX6_save 12 = .ok (.aload_n 0, 1) := by decide +kernel
theorem dX6_save_13 : decode cX6_save 13 = .ok (.getfield 12, 3) := by decide +kernel
theorem dX6_save_16 : decode cX6_save 16 = .ok (.invokevirtual 88, 3) := by decide +kernel
theorem dX6_save_19 : decode cX6_save 19 = .ok (.aload_n 0, 1) := by decide +kernel
theorem dX6_save_20 : decode cX6_save 20 = .ok (.getfield 26, 3) := by decide +kernel
theorem dX6_save_23 : decode cX6_save 23 = .ok (.iload_n 1, 1) := by decide +kernel
theorem dX6_save_24 : decode cX6_save 24 = .ok (.iconst 1, 1) := by decide +kernel
theorem dX6_save_25 : decode cX6_save 25 = .ok (.bastore, 1) := by decide +kernel
theorem dX6_save_26 : decode cX6_save 26 = .ok (.return_, 1) := by decide +kernel
abbrev mX6_save : KM := (RX6, cX6_save, 2, none, { frames := 7, cells := 0, slots := 0, locals := 111 }, 0, 0)
def fX6_save (a1 : Int32) (σ : Sto) : Option KP :=
  (fX6_needRange a1 0 1 σ).bind fun r1 =>
  if r1 = 0 then
    if kin a1 2 = true then
      (fX5_copyFrom (115 + 9 * a1.toNatClampNeg) 25 σ).bind fun r5 =>
      if kin a1 2 = true then
        klet (su r5 3 a1.toNatClampNeg 1) fun σ8 =>
        some (0, 0, σ8)
      else none
    else none
  else some (r1, 0, σ)
set_option maxHeartbeats 4000000 in
set_option maxRecDepth 100000 in
theorem tX6_save (sh : KSh) (hk : KAG sh) (l : Launch) (hst : l.stackTraces = false) (a1 : Int32) (σ : Sto) (r : KP) (h : fX6_save a1 σ = some r) (hnt : r.1 = 0) : CT sh l mX6_save yX6_save [.ref 0, .int a1] σ (r.1, .int r.2.1, r.2.2) := by
  refine kct [(0, .ref 0), (1, .int a1)] hst (by decide +kernel) rfl rfl (Nat.le_of_ble_eq_true rfl) ?_
  rw [fX6_save] at h
  refine kv_iload_n (pc := 0) 1 dX6_save_0 rfl rfl ?_
  refine kv_iconst (pc := 1) (v := 0) dX6_save_1 (by decide) ?_
  refine kv_iconst (pc := 2) (v := 1) dX6_save_2 (by decide) ?_
  refine kv_cSn (pc := 3) [.int a1, .int 0, .int 1] (fun r1 => (r1, .int 0, σ)) (fun r1 => []) (fun r1 => σ) 6 0 0 h (fun r1 g2 hnt => tX6_needRange sh hk l hst a1 0 1 σ r1 g2 hnt) dX6_save_3 rfl yw_X6_needRange lk_X6_80 (by decide) (Nat.le_of_ble_eq_true rfl) (by decide) (fun _ => rfl) (fun _ => rfl) ⟨rfl, rfl, rfl⟩ (fun r h => Decidable.byContradiction (fun h9 => by rw [if_neg h9] at h; cases h; exact h9 hnt)) (fun r1 g2 z3 h => ?_)
  rw [if_pos z3] at h
  refine kv_aload_n (pc := 6) 0 dX6_save_6 rfl rfl ?_
  refine kv_getR (pc := 7) (q2 := 2) dX6_save_7 (ks_0 hk) rfl (i := 5) (by decide) rfl fl_X6_23 rfl rfl ?_
  refine kv_iload_n (pc := 10) 1 dX6_save_10 rfl rfl ?_
  refine kv_aald (pc := 11) (b := 112) dX6_save_11 (ks_2 hk) h (fun c4 h => ?_)
  refine kv_aload_n (pc := 12) 0 dX6_save_12 rfl rfl ?_
  refine kv_getR (pc := 13) (q2 := 25) dX6_save_13 (ks_0 hk) rfl (i := 0) (by decide) rfl fl_X6_12 rfl rfl ?_
  refine kv_cV (pc := 16) [.ref 25] (fun r5 => (0, .int 0, r5)) (fun r5 => []) (fun r5 => r5) 19 0 0 h (fun r5 g6 => tX5_copyFrom sh (kwf_of hk) l hst (115 + 9 * a1.toNatClampNeg) (ksa_slot hk c4) 25 (ks_25 hk) σ r5 g6) dX6_save_16 rfl (ksa_slot hk c4) rfl yw_X5_copyFrom lk_X6_88 (by decide) (Nat.le_of_ble_eq_true rfl) (by decide) (fun _ => rfl) (fun _ => rfl) ⟨rfl, rfl, rfl⟩ (fun _ _ h0 => absurd rfl h0) (fun r5 g6 z7 h => ?_)
  refine kv_aload_n (pc := 19) 0 dX6_save_19 rfl rfl ?_
  refine kv_getR (pc := 20) (q2 := 3) dX6_save_20 (ks_0 hk) rfl (i := 6) (by decide) rfl fl_X6_26 rfl rfl ?_
  refine kv_iload_n (pc := 23) 1 dX6_save_23 rfl rfl ?_
  refine kv_iconst (pc := 24) (v := 1) dX6_save_24 (by decide) ?_
  refine kv_zast (pc := 25) dX6_save_25 (ks_3 hk) rfl h (fun h => ?_)
  refine kv_let h (fun σ8 h => ?_)
  exact kv_vret (pc := 26) (v := .int 0) dX6_save_26 rfl (by cases h; rfl) (by decide) (by decide)
theorem yw_X6_save : KMV yX6_save mX6_save RX6 1 := ⟨⟨rfl, by decide +kernel, by decide +kernel, by decide +kernel⟩, ⟨rfl, rfl⟩, kg_in 1051 (by decide +kernel) (by decide +kernel), kg_in 1052 (by decide +kernel) (by decide +kernel), kg_in 47 (by decide +kernel) (by decide +kernel), kg_in 1053 (by decide +kernel) (by decide +kernel)⟩
