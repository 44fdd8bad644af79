theorem dL_pick_0 : decode cL_pick 0 = .ok (.iload_n 1, 1) := by decide +kernel
theorem dL_pick_1 : decode cL_pick 1 = .ok (.aload_n 0, 1) := by decide +kernel
theorem dL_pick_2 : decode cL_pick 2 = .ok (.arraylength, 1) := by decide +kernel
theorem dL_pick_3 : decode cL_pick 3 = .ok (.if_icmp .ge 9, 3) := by decide +kernel
theorem dL_pick_6 : decode cL_pick 6 = .ok (.aload_n 0, 1) := by decide +kernel
theorem dL_pick_7 : decode cL_pick 7 = .ok (.iload_n 1, 1) := by decide +kernel
theorem dL_pick_8 : decode cL_pick 8 = .ok (.iaload, 1) := by decide +kernel
theorem dL_pick_9 : decode cL_pick 9 = .ok (.goto 9, 3) := by decide +kernel
theorem dL_pick_12 : decode cL_pick 12 = .ok (.bipush 97, 2) := by decide +kernel
theorem dL_pick_14 : decode cL_pick 14 = .ok (.iload_n 1, 1) := by decide +kernel
theorem dL_pick_15 : decode cL_pick 15 = .ok (.imul, 1) := by decide +kernel
theorem dL_pick_16 : decode cL_pick 16 = .ok (.iconst 5, 1) := by decide +kernel
theorem dL_pick_17 : decode cL_pick 17 = .ok (.iadd, 1) := by decide +kernel
theorem dL_pick_18 : decode cL_pick 18 = .ok (.ldc 7, 2) := by decide +kernel
theorem dL_pick_20 : decode cL_pick 20 = .ok (.iand, 1) := by decide +kernel
theorem dL_pick_21 : decode cL_pick 21 = .ok (.ireturn, 1) := by decide +kernel
abbrev mL_pick : KM := (RL, cL_pick, 2, (some .int), { frames := 0, cells := 0, slots := 0, locals := 0 }, 0, 0)
def fL_pick (sh : KSh) (a1 : Int32) : Option Int32 :=
  if (nI (scl sh)) ≤ a1 then
    some (((97 * a1) + 5) &&& 2147483647)
  else
    if kin a1 (scl sh) = true then
      some ((scx sh a1.toNatClampNeg) &&& 2147483647)
    else none
set_option maxHeartbeats 4000000 in
set_option maxRecDepth 100000 in
theorem tL_pick (sh : KSh) (hk : KAG sh) (l : Launch) (hst : l.stackTraces = false) (a1 : Int32) (σ : Sto) (r : Int32) (h : fL_pick sh a1 = some r) : CT sh l mL_pick yL_pick [.ref 3100, .int a1] σ (0, .int r, σ) := by
  refine kct [(0, .ref 3100), (1, .int a1)] hst (by decide +kernel) rfl rfl (Nat.le_of_ble_eq_true rfl) ?_
  rw [fL_pick] at h
  refine kv_iload_n (pc := 0) 1 dL_pick_0 rfl rfl ?_
  refine kv_aload_n (pc := 1) 0 dL_pick_1 rfl rfl ?_
  refine kv_sclen (pc := 2) dL_pick_2 ?_
  refine kv_icmp_ge (pc := 3) (tgt := 12) dL_pick_3 (by decide) h (fun h => ?_) (fun h => ?_)
  · refine kv_bipush (pc := 12) (v := 97) dL_pick_12 (by decide) ?_
    refine kv_iload_n (pc := 14) 1 dL_pick_14 rfl rfl ?_
    refine kv_imul (pc := 15) dL_pick_15 ?_
    refine kv_iconst (pc := 16) (v := 5) dL_pick_16 (by decide) ?_
    refine kv_iadd (pc := 17) dL_pick_17 ?_
    refine kv_ldci (pc := 18) (v := 2147483647) dL_pick_18 kc_L_7 ?_
    refine kv_iand (pc := 20) dL_pick_20 ?_
    exact kv_iret (pc := 21) dL_pick_21 rfl (by cases h; rfl) (by decide) (by decide)
  · refine kv_aload_n (pc := 6) 0 dL_pick_6 rfl rfl ?_
    refine kv_iload_n (pc := 7) 1 dL_pick_7 rfl rfl ?_
    refine kv_scld (pc := 8) dL_pick_8 h (fun h => ?_)
    refine kv_goto (pc := 9) (tgt := 18) dL_pick_9 (by decide) ?_
    refine kv_ldci (pc := 18) (v := 2147483647) dL_pick_18 kc_L_7 ?_
    refine kv_iand (pc := 20) dL_pick_20 ?_
    exact kv_iret (pc := 21) dL_pick_21 rfl (by cases h; rfl) (by decide) (by decide)
theorem yw_L_pick : KMS yL_pick mL_pick 2 := ⟨⟨by decide +kernel, by decide +kernel, by decide +kernel⟩, ⟨rfl, rfl⟩, kg_in 829 (by decide +kernel) (by decide +kernel), kg_in 45 (by decide +kernel) (by decide +kernel), kg_in 830 (by decide +kernel) (by decide +kernel)⟩
theorem dX7_next_0 : decode cX7_next 0 = .ok (.aload_n 0, 1) := by decide +kernel
theorem dX7_next_1 : decode cX7_next 1 = .ok (.dup, 1) := by decide +kernel
theorem dX7_next_2 : decode cX7_next 2 = .ok (.getfield 13, 3) := by decide +kernel
theorem dX7_next_5 : decode cX7_next 5 = .ok (.iconst 1, 1) := by decide +kernel
theorem dX7_next_6 : decode cX7_next 6 = .ok (.iadd, 1) := by decide +kernel
theorem dX7_next_7 : decode cX7_next 7 = .ok (.putfield 13, 3) := by decide +kernel
theorem dX7_next_10 : decode cX7_next 10 = .ok (.aload_n 0, 1) := by decide +kernel
theorem dX7_next_11 : decode cX7_next 11 = .ok (.getfield 7, 3) := by decide +kernel
theorem dX7_next_14 : decode cX7_next 14 = .ok (.aload_n 0, 1) := by decide +kernel
theorem dX7_next_15 : decode cX7_next 15 = .ok (.getfield 13, 3) := by decide +kernel
theorem dX7_next_18 : decode cX7_next 18 = .ok (.invokestatic 17, 3) := by decide +kernel
theorem dX7_next_21 : decode cX7_next 21 = .ok (.iload_n 1, 1) := by decide +kernel
theorem dX7_next_22 : decode cX7_next 22 = .ok (.irem, 1) := by decide +kernel
theorem dX7_next_23 : decode cX7_next 23 = .ok (.ireturn, 1) := by decide +kernel
abbrev mX7_next : KM := (RX7, cX7_next, 2, (some .int), { frames := 1, cells := 0, slots := 0, locals := 21 }, 0, 0)
def fX7_next (sh : KSh) (a1 : Int32) (σ : Sto) : Option (Int32 × Sto) :=
  klet (su σ 133 1 ((σ 133 1) + 1)) fun σ1 =>
  (fL_pick sh (σ1 133 1)).bind fun r2 =>
  if a1 = 0 then none else
  some ((krem r2 a1), σ1)
set_option maxHeartbeats 4000000 in
set_option maxRecDepth 100000 in
theorem tX7_next (sh : KSh) (hk : KAG sh) (l : Launch) (hst : l.stackTraces = false) (a1 : Int32) (σ : Sto) (r : (Int32 × Sto)) (h : fX7_next sh a1 σ = some r) : CT sh l mX7_next yX7_next [.ref 133, .int a1] σ (0, .int r.1, r.2) := by
  refine kct [(0, .ref 133), (1, .int a1)] hst (by decide +kernel) rfl rfl (Nat.le_of_ble_eq_true rfl) ?_
  rw [fX7_next] at h
  refine kv_aload_n (pc := 0) 0 dX7_next_0 rfl rfl ?_
  refine kv_dup (pc := 1) dX7_next_1 rfl ?_
  refine kv_getI (pc := 2) dX7_next_2 (ks_133 hk) rfl (i := 1) (by decide) rfl fl_X7_13 rfl ?_
  refine kv_iconst (pc := 5) (v := 1) dX7_next_5 (by decide) ?_
  refine kv_iadd (pc := 6) dX7_next_6 ?_
  refine kv_put (pc := 7) tyX7 tyX7_ok nmX7 dX7_next_7 (ks_133 hk) rfl (i := 1) (by decide) rfl fl_X7_13 rfl rfl rfl rfl rfl ?_
  refine kv_let h (fun σ1 h => ?_)
  refine kv_aload_n (pc := 10) 0 dX7_next_10 rfl rfl ?_
  refine kv_getR (pc := 11) (q2 := 3100) dX7_next_11 (ks_133 hk) rfl (i := 0) (by decide) rfl fl_X7_7 rfl rfl ?_
  refine kv_aload_n (pc := 14) 0 dX7_next_14 rfl rfl ?_
  refine kv_getI (pc := 15) dX7_next_15 (ks_133 hk) rfl (i := 1) (by decide) rfl fl_X7_13 rfl ?_
  refine kv_cSN (pc := 18) [.ref 3100, .int (σ1 133 1)] (fun r2 => (0, .int r2, σ1)) (fun r2 => (.int r2 :: [])) (fun r2 => σ1) 21 0 0 h (fun r2 g3 => tL_pick sh hk l hst (σ1 133 1) σ1 r2 g3) dX7_next_18 rfl yw_L_pick rfl (by decide) (Nat.le_of_ble_eq_true rfl) (by decide) (fun _ => rfl) (fun _ => rfl) ⟨rfl, rfl, rfl⟩ (fun _ _ h0 => absurd rfl h0) (fun r2 g3 z4 h => ?_)
  refine kv_iload_n (pc := 21) 1 dX7_next_21 rfl rfl ?_
  obtain ⟨c5, h⟩ := knz h
  refine kv_irem (pc := 22) dX7_next_22 c5 ?_
  exact kv_iret (pc := 23) dX7_next_23 rfl (by cases h; rfl) (by decide) (by decide)
theorem yw_X7_next : KMV yX7_next mX7_next RX7 1 := ⟨⟨rfl, by decide +kernel, by decide +kernel, by decide +kernel⟩, ⟨rfl, rfl⟩, kg_in 825 (by decide +kernel) (by decide +kernel), kg_in 826 (by decide +kernel) (by decide +kernel), kg_in 46 (by decide +kernel) (by decide +kernel), kg_in 827 (by decide +kernel) (by decide +kernel)⟩
theorem dL_feed_0 : decode cL_feed 0 = .ok (.aload_n 0, 1) := by decide +kernel
theorem dL_feed_1 : decode cL_feed 1 = .ok (.iconst 0, 1) := by decide +kernel
theorem dL_feed_2 : decode cL_feed 2 = .ok (.invokevirtual 8, 3) := by decide +kernel
theorem dL_feed_5 : decode cL_feed 5 = .ok (.istore_n 2, 1) := by decide +kernel
theorem dL_feed_6 : decode cL_feed 6 = .ok (.iconst 0, 1) := by decide +kernel
theorem dL_feed_7 : decode cL_feed 7 = .ok (.istore_n 3, 1) := by decide +kernel
theorem dL_feed_8 : decode cL_feed 8 = .ok (.iload_n 3, 1) := by decide +kernel
theorem dL_feed_9 : decode cL_feed 9 = .ok (.aload_n 1, 1) := by decide +kernel
theorem dL_feed_10 : decode cL_feed 10 = .ok (.invokevirtual 14, 3) := by decide +kernel
theorem dL_feed_13 : decode cL_feed 13 = .ok (.if_icmp .ge 64, 3) := by decide +kernel
theorem dL_feed_16 : decode cL_feed 16 = .ok (.iconst 0, 1) := by decide +kernel
theorem dL_feed_17 : decode cL_feed 17 = .ok (.istore 4, 2) := by decide +kernel
theorem dL_feed_19 : decode cL_feed 19 = .ok (.iload_n 3, 1) := by decide +kernel
theorem dL_feed_20 : decode cL_feed 20 = .ok (.istore 5, 2) := by decide +kernel
theorem dL_feed_22 : decode cL_feed 22 = .ok (.iload 5, 2) := by decide +kernel
theorem dL_feed_24 : decode cL_feed 24 = .ok (.iload_n 3, 1) := by decide +kernel
theorem dL_feed_25 : decode cL_feed 25 = .ok (.iconst 4, 1) := by decide +kernel
theorem dL_feed_26 : decode cL_feed 26 = .ok (.iadd, 1) := by decide +kernel
theorem dL_feed_27 : decode cL_feed 27 = .ok (.if_icmp .ge 37, 3) := by decide +kernel
theorem dL_feed_30 : decode cL_feed 30 = .ok (.iload 4, 2) := by decide +kernel
theorem dL_feed_32 : decode cL_feed 32 = .ok (.bipush 8, 2) := by decide +kernel
theorem dL_feed_34 : decode cL_feed 34 = .ok (.ishl, 1) := by decide +kernel
theorem dL_feed_35 : decode cL_feed 35 = .ok (.iload 5, 2) := by decide +kernel
theorem dL_feed_37 : decode cL_feed 37 = .ok (.aload_n 1, 1) := by decide +kernel
theorem dL_feed_38 : decode cL_feed 38 = .ok (.invokevirtual 14, 3) := by decide +kernel
theorem dL_feed_41 : decode cL_feed 41 = .ok (.if_icmp .ge 12, 3) := by decide +kernel
theorem dL_feed_44 : decode cL_feed 44 = .ok (.aload_n 1, 1) := by decide +kernel
theorem dL_feed_45 : decode cL_feed 45 = .ok (.iload 5, 2) := by decide +kernel
theorem dL_feed_47 : decode cL_feed 47 = .ok (.invokevirtual 20, 3) := by decide +kernel
theorem dL_feed_50 : decode cL_feed 50 = .ok (.goto 5, 3) := by decide +kernel
theorem dL_feed_53 : decode cL_feed 53 = .ok (.bipush 32, 2) := by decide +kernel
theorem dL_feed_55 : decode cL_feed 55 = .ok (.ior, 1) := by decide +kernel
theorem dL_feed_56 : decode cL_feed 56 = .ok (.istore 4, 2) := by decide +kernel
theorem dL_feed_58 : decode cL_feed 58 = .ok (.iinc 5 1, 3) := by decide +kernel
theorem dL_feed_61 : decode cL_feed 61 = .ok (.goto (-39), 3) := by decide +kernel
theorem dL_feed_64 : decode cL_feed 64 = .ok (.aload_n 0, 1) := by decide +kernel
theorem dL_feed_65 : decode cL_feed 65 = .ok (.iload 4, 2) := by decide +kernel
theorem dL_feed_67 : decode cL_feed 67 = .ok (.invokevirtual 24, 3) := by decide +kernel
theorem dL_feed_70 : decode cL_feed 70 = .ok (.istore_n 2, 1) := by decide +kernel
theorem dL_feed_71 : decode cL_feed 71 = .ok (.iinc 3 4, 3) := by decide +kernel
theorem dL_feed_74 : decode cL_feed 74 = .ok (.goto (-66), 3) := by decide +kernel
theorem dL_feed_77 : decode cL_feed 77 = .ok (.aload_n 0, 1) := by decide +kernel
theorem dL_feed_78 : decode cL_feed 78 = .ok (.aload_n 1, 1) := by decide +kernel
theorem dL_feed_79 : decode cL_feed 79 = .ok (.invokevirtual 14, 3) := by decide +kernel
theorem dL_feed_82 : decode cL_feed 82 = .ok (.invokevirtual 8, 3) := by decide +kernel
theorem dL_feed_85 : decode cL_feed 85 = .ok (.istore_n 2, 1) := by decide +kernel
theorem dL_feed_86 : decode cL_feed 86 = .ok (.return_, 1) := by decide +kernel
abbrev mL_feed : KM := (RL, cL_feed, 6, none, { frames := 8, cells := 0, slots := 0, locals := 132 }, 0, 0)
def fL_feed_L55 (sh : KSh) (K8 : Int32 → Sto → Option Sto) (K22 : Int32 → Int32 → Int32 → Sto → Option Sto) (v3 : Int32) (v5 : Int32) (s0 : Int32) (s1 : Int32) (σ : Sto) : Option Sto :=
  K22 v3 (s1 ||| s0) (v5 + 1) σ
def fL_feed_L22 (sh : KSh) (K8 : Int32 → Sto → Option Sto) : Nat → Int32 → Int32 → Int32 → Sto → Option Sto
  | 0, _, _, _, _ => none
  | fu + 1, v3, v4, v5, σ =>
    if (v3 + 4) ≤ v5 then
      (fX6_appendText v4 σ).bind fun r7 =>
      if r7.1 = 0 then
        K8 (v3 + 4) r7.2.2
      else none
    else
      if (nI (dyb sh).length) ≤ v5 then
        fL_feed_L55 sh K8 (fL_feed_L22 sh K8 fu) v3 v5 32 (v4 <<< (8 &&& 31)) σ
      else
        if kin v5 (dyb sh).length = true then
          fL_feed_L55 sh K8 (fL_feed_L22 sh K8 fu) v3 v5 (kschz sh 9 v5) (v4 <<< (8 &&& 31)) σ
        else none
def fL_feed_L8 (sh : KSh) : Nat → Int32 → Sto → Option Sto
  | 0, _, _ => none
  | fu + 1, v3, σ =>
    if (nI (dyb sh).length) ≤ v3 then
      (fX6_truncateText (nI (dyb sh).length) σ).bind fun r4 =>
      if r4.1 = 0 then
        some r4.2.2
      else none
    else
      fL_feed_L22 sh (fL_feed_L8 sh fu) kFU v3 0 v3 σ
def fL_feed (sh : KSh) (σ : Sto) : Option Sto :=
  (fX6_truncateText 0 σ).bind fun r1 =>
  if r1.1 = 0 then
    fL_feed_L8 sh kFU 0 r1.2.2
  else none
set_option maxHeartbeats 4000000 in
set_option maxRecDepth 100000 in
theorem wL_feed_L55 (sh : KSh) (hk : KAG sh) (l : Launch) (hst : l.stackTraces = false) (hd : ktx sh 9 = true) (K8 : Int32 → Sto → Option Sto) (hK8 : ∀ (v3 : Int32), ∀ (σ : Sto), ∀ (r : Sto), K8 v3 σ = some r → VV sh l mL_feed 0 0 8 [(0, .ref 0), (1, .ref 2009), (3, .int v3)] [] σ (0, .int 0, r)) (K22 : Int32 → Int32 → Int32 → Sto → Option Sto) (hK22 : ∀ (v3 : Int32), ∀ (v4 : Int32), ∀ (v5 : Int32), ∀ (σ : Sto), ∀ (r : Sto), K22 v3 v4 v5 σ = some r → VV sh l mL_feed 0 0 22 [(0, .ref 0), (1, .ref 2009), (3, .int v3), (4, .int v4), (5, .int v5)] [] σ (0, .int 0, r)) : ∀ (v3 : Int32), ∀ (v5 : Int32), ∀ (s0 : Int32), ∀ (s1 : Int32), ∀ (σ : Sto), ∀ (r : Sto), fL_feed_L55 sh K8 K22 v3 v5 s0 s1 σ = some r → VV sh l mL_feed 0 0 55 [(0, .ref 0), (1, .ref 2009), (3, .int v3), (5, .int v5)] [.int s0, .int s1] σ (0, .int 0, r) := by
  intro v3 v5 s0 s1 σ r h
  rw [fL_feed_L55] at h
  refine kv_ior (pc := 55) dL_feed_55 ?_
  refine kv_istore (pc := 56) [(4, .int (s1 ||| s0)), (0, .ref 0), (1, .ref 2009), (3, .int v3), (5, .int v5)] dL_feed_56 (by decide) rfl ?_
  refine kv_iinc (pc := 58) (v := v5 + 1) 4 [(5, .int (v5 + 1)), (4, .int (s1 ||| s0)), (0, .ref 0), (1, .ref 2009), (3, .int v3)] dL_feed_58 rfl rfl (by decide) rfl ?_
  refine kv_goto (pc := 61) (tgt := 22) dL_feed_61 (by decide) ?_
  refine kv_sub (pc := 22) [(0, .ref 0), (1, .ref 2009), (3, .int v3), (4, .int (s1 ||| s0)), (5, .int (v5 + 1))] [2, 3, 4, 1, 0] rfl ?_
  exact hK22 v3 (s1 ||| s0) (v5 + 1) σ r h
set_option maxHeartbeats 4000000 in
set_option maxRecDepth 100000 in
theorem wL_feed_L22 (sh : KSh) (hk : KAG sh) (l : Launch) (hst : l.stackTraces = false) (hd : ktx sh 9 = true) (K8 : Int32 → Sto → Option Sto) (hK8 : ∀ (v3 : Int32), ∀ (σ : Sto), ∀ (r : Sto), K8 v3 σ = some r → VV sh l mL_feed 0 0 8 [(0, .ref 0), (1, .ref 2009), (3, .int v3)] [] σ (0, .int 0, r)) : ∀ (fu : Nat), ∀ (v3 : Int32), ∀ (v4 : Int32), ∀ (v5 : Int32), ∀ (σ : Sto), ∀ (r : Sto), fL_feed_L22 sh K8 fu v3 v4 v5 σ = some r → VV sh l mL_feed 0 0 22 [(0, .ref 0), (1, .ref 2009), (3, .int v3), (4, .int v4), (5, .int v5)] [] σ (0, .int 0, r) := by
  intro fu
  induction fu with
  | zero => intro v3 v4 v5 σ r h; rw [fL_feed_L22] at h; cases h
  | succ fu ih =>
    intro v3 v4 v5 σ r h
    rw [fL_feed_L22] at h
    refine kv_iload (pc := 22) 4 dL_feed_22 rfl ?_
    refine kv_iload_n (pc := 24) 2 dL_feed_24 rfl rfl ?_
    refine kv_iconst (pc := 25) (v := 4) dL_feed_25 (by decide) ?_
    refine kv_iadd (pc := 26) dL_feed_26 ?_
    refine kv_icmp_ge (pc := 27) (tgt := 64) dL_feed_27 (by decide) h (fun h => ?_) (fun h => ?_)
    · refine kv_aload_n (pc := 64) 0 dL_feed_64 rfl rfl ?_
      refine kv_iload (pc := 65) 3 dL_feed_65 rfl ?_
      refine kv_cVn (pc := 67) [.int v4] (fun r7 => (r7.1, .int r7.2.1, r7.2.2)) (fun r7 => (.int r7.2.1 :: [])) (fun r7 => r7.2.2) 70 0 0 h (fun r7 g8 hnt => tX6_appendText sh hk l hst v4 σ r7 g8 hnt) dL_feed_67 rfl (ks_0 hk) rfl yw_X6_appendText lk_L_24 (by decide) (Nat.le_of_ble_eq_true rfl) (by decide) (fun _ => rfl) (fun _ => rfl) ⟨rfl, rfl, rfl⟩ (fun r h => Decidable.byContradiction (fun h9 => by rw [if_neg h9] at h; cases h)) (fun r7 g8 z9 h => ?_)
      rw [if_pos z9] at h
      refine kv_istore_n (pc := 70) [(2, .int r7.2.1), (0, .ref 0), (1, .ref 2009), (3, .int v3), (4, .int v4), (5, .int v5)] dL_feed_70 rfl (by decide) rfl ?_
      refine kv_iinc (pc := 71) (v := v3 + 4) 3 [(3, .int (v3 + 4)), (2, .int r7.2.1), (0, .ref 0), (1, .ref 2009), (4, .int v4), (5, .int v5)] dL_feed_71 rfl rfl (by decide) rfl ?_
      refine kv_goto (pc := 74) (tgt := 8) dL_feed_74 (by decide) ?_
      refine kv_sub (pc := 8) [(0, .ref 0), (1, .ref 2009), (3, .int (v3 + 4))] [2, 3, 0] rfl ?_
      exact hK8 (v3 + 4) r7.2.2 r h
    · refine kv_iload (pc := 30) 3 dL_feed_30 rfl ?_
      refine kv_bipush (pc := 32) (v := 8) dL_feed_32 (by decide) ?_
      refine kv_ishl (pc := 34) dL_feed_34 ?_
      refine kv_iload (pc := 35) 4 dL_feed_35 rfl ?_
      refine kv_aload_n (pc := 37) 1 dL_feed_37 rfl rfl ?_
      refine kv_dlen (pc := 38) hst 41 hd dL_feed_38 lk_L_14 (by decide) (Nat.le_of_ble_eq_true rfl) (by decide) rfl ?_
      refine kv_icmp_ge (pc := 41) (tgt := 53) dL_feed_41 (by decide) h (fun h => ?_) (fun h => ?_)
      · refine kv_bipush (pc := 53) (v := 32) dL_feed_53 (by decide) ?_
        refine kv_sub (pc := 55) [(0, .ref 0), (1, .ref 2009), (3, .int v3), (5, .int v5)] [0, 1, 2, 4] rfl ?_
        exact wL_feed_L55 sh hk l hst hd K8 hK8 (fL_feed_L22 sh K8 fu) ih v3 v5 32 (v4 <<< (8 &&& 31)) σ r h
      · refine kv_aload_n (pc := 44) 1 dL_feed_44 rfl rfl ?_
        refine kv_iload (pc := 45) 4 dL_feed_45 rfl ?_
        refine kv_dchr (pc := 47) hst 50 hd dL_feed_47 lk_L_20 (by decide) (Nat.le_of_ble_eq_true rfl) (by decide) rfl h (fun h => ?_)
        refine kv_goto (pc := 50) (tgt := 55) dL_feed_50 (by decide) ?_
        refine kv_sub (pc := 55) [(0, .ref 0), (1, .ref 2009), (3, .int v3), (5, .int v5)] [0, 1, 2, 4] rfl ?_
        exact wL_feed_L55 sh hk l hst hd K8 hK8 (fL_feed_L22 sh K8 fu) ih v3 v5 (kschz sh 9 v5) (v4 <<< (8 &&& 31)) σ r h
set_option maxHeartbeats 4000000 in
set_option maxRecDepth 100000 in
theorem wL_feed_L8 (sh : KSh) (hk : KAG sh) (l : Launch) (hst : l.stackTraces = false) (hd : ktx sh 9 = true) : ∀ (fu : Nat), ∀ (v3 : Int32), ∀ (σ : Sto), ∀ (r : Sto), fL_feed_L8 sh fu v3 σ = some r → VV sh l mL_feed 0 0 8 [(0, .ref 0), (1, .ref 2009), (3, .int v3)] [] σ (0, .int 0, r) := by
  intro fu
  induction fu with
  | zero => intro v3 σ r h; rw [fL_feed_L8] at h; cases h
  | succ fu ih =>
    intro v3 σ r h
    rw [fL_feed_L8] at h
    refine kv_iload_n (pc := 8) 2 dL_feed_8 rfl rfl ?_
    refine kv_aload_n (pc := 9) 1 dL_feed_9 rfl rfl ?_
    refine kv_dlen (pc := 10) hst 13 hd dL_feed_10 lk_L_14 (by decide) (Nat.le_of_ble_eq_true rfl) (by decide) rfl ?_
    refine kv_icmp_ge (pc := 13) (tgt := 77) dL_feed_13 (by decide) h (fun h => ?_) (fun h => ?_)
    · refine kv_aload_n (pc := 77) 0 dL_feed_77 rfl rfl ?_
      refine kv_aload_n (pc := 78) 1 dL_feed_78 rfl rfl ?_
      refine kv_dlen (pc := 79) hst 82 hd dL_feed_79 lk_L_14 (by decide) (Nat.le_of_ble_eq_true rfl) (by decide) rfl ?_
      refine kv_cVn (pc := 82) [.int (nI (dyb sh).length)] (fun r4 => (r4.1, .int r4.2.1, r4.2.2)) (fun r4 => (.int r4.2.1 :: [])) (fun r4 => r4.2.2) 85 0 0 h (fun r4 g5 hnt => tX6_truncateText sh hk l hst (nI (dyb sh).length) σ r4 g5 hnt) dL_feed_82 rfl (ks_0 hk) rfl yw_X6_truncateText lk_L_8 (by decide) (Nat.le_of_ble_eq_true rfl) (by decide) (fun _ => rfl) (fun _ => rfl) ⟨rfl, rfl, rfl⟩ (fun r h => Decidable.byContradiction (fun h9 => by rw [if_neg h9] at h; cases h)) (fun r4 g5 z6 h => ?_)
      rw [if_pos z6] at h
      refine kv_istore_n (pc := 85) [(2, .int r4.2.1), (0, .ref 0), (1, .ref 2009), (3, .int v3)] dL_feed_85 rfl (by decide) rfl ?_
      exact kv_vret (pc := 86) (v := .int 0) dL_feed_86 rfl (by cases h; rfl) (by decide) (by decide)
    · refine kv_iconst (pc := 16) (v := 0) dL_feed_16 (by decide) ?_
      refine kv_istore (pc := 17) [(4, .int 0), (0, .ref 0), (1, .ref 2009), (3, .int v3)] dL_feed_17 (by decide) rfl ?_
      refine kv_iload_n (pc := 19) 3 dL_feed_19 rfl rfl ?_
      refine kv_istore (pc := 20) [(5, .int v3), (4, .int 0), (0, .ref 0), (1, .ref 2009), (3, .int v3)] dL_feed_20 (by decide) rfl ?_
      refine kv_sub (pc := 22) [(0, .ref 0), (1, .ref 2009), (3, .int v3), (4, .int 0), (5, .int v3)] [2, 3, 4, 1, 0] rfl ?_
      exact wL_feed_L22 sh hk l hst hd (fL_feed_L8 sh fu) ih kFU v3 0 v3 σ r h
set_option maxHeartbeats 4000000 in
set_option maxRecDepth 100000 in
theorem tL_feed (sh : KSh) (hk : KAG sh) (l : Launch) (hst : l.stackTraces = false) (hd : ktx sh 9 = true) (σ : Sto) (r : Sto) (h : fL_feed sh σ = some r) : CT sh l mL_feed yL_feed [.ref 0, .ref 2009] σ (0, .int 0, r) := by
  refine kct [(0, .ref 0), (1, .ref 2009)] hst (by decide +kernel) rfl rfl (Nat.le_of_ble_eq_true rfl) ?_
  rw [fL_feed] at h
  refine kv_aload_n (pc := 0) 0 dL_feed_0 rfl rfl ?_
  refine kv_iconst (pc := 1) (v := 0) dL_feed_1 (by decide) ?_
  refine kv_cVn (pc := 2) [.int 0] (fun r1 => (r1.1, .int r1.2.1, r1.2.2)) (fun r1 => (.int r1.2.1 :: [])) (fun r1 => r1.2.2) 5 0 0 h (fun r1 g2 hnt => tX6_truncateText sh hk l hst 0 σ r1 g2 hnt) dL_feed_2 rfl (ks_0 hk) rfl yw_X6_truncateText lk_L_8 (by decide) (Nat.le_of_ble_eq_true rfl) (by decide) (fun _ => rfl) (fun _ => rfl) ⟨rfl, rfl, rfl⟩ (fun r h => Decidable.byContradiction (fun h9 => by rw [if_neg h9] at h; cases h)) (fun r1 g2 z3 h => ?_)
  rw [if_pos z3] at h
  refine kv_istore_n (pc := 5) [(2, .int r1.2.1), (0, .ref 0), (1, .ref 2009)] dL_feed_5 rfl (by decide) rfl ?_
  refine kv_iconst (pc := 6) (v := 0) dL_feed_6 (by decide) ?_
  refine kv_istore_n (pc := 7) [(3, .int 0), (2, .int r1.2.1), (0, .ref 0), (1, .ref 2009)] dL_feed_7 rfl (by decide) rfl ?_
  refine kv_sub (pc := 8) [(0, .ref 0), (1, .ref 2009), (3, .int 0)] [2, 3, 0] rfl ?_
  exact wL_feed_L8 sh hk l hst hd kFU 0 r1.2.2 r h
theorem dL_angle_0 : decode cL_angle 0 = .ok (.iload_n 0, 1) := by decide +kernel
theorem dL_angle_1 : decode cL_angle 1 = .ok (.ifCond .ne 7, 3) := by decide +kernel
theorem dL_angle_4 : decode cL_angle 4 = .ok (.sipush 180, 3) := by decide +kernel
theorem dL_angle_7 : decode cL_angle 7 = .ok (.ireturn, 1) := by decide +kernel
theorem dL_angle_8 : decode cL_angle 8 = .ok (.iload_n 0, 1) := by decide +kernel
theorem dL_angle_9 : decode cL_angle 9 = .ok (.iconst 1, 1) := by decide +kernel
theorem dL_angle_10 : decode cL_angle 10 = .ok (.if_icmp .ne 6, 3) := by decide +kernel
theorem dL_angle_13 : decode cL_angle 13 = .ok (.bipush 90, 2) := by decide +kernel
theorem dL_angle_15 : decode cL_angle 15 = .ok (.ireturn, 1) := by decide +kernel
theorem dL_angle_16 : decode cL_angle 16 = .ok (.iload_n 0, 1) := by decide +kernel
theorem dL_angle_17 : decode cL_angle 17 = .ok (.iconst 2, 1) := by decide +kernel
theorem dL_angle_18 : decode cL_angle 18 = .ok (.if_icmp .ne 6, 3) := by decide +kernel
theorem dL_angle_21 : decode cL_angle 21 = .ok (.bipush 45, 2) := by decide +kernel
theorem dL_angle_23 : decode cL_angle 23 = .ok (.ireturn, 1) := by decide +kernel
theorem dL_angle_24 : decode cL_angle 24 = .ok (.iload_n 0, 1) := by decide +kernel
theorem dL_angle_25 : decode cL_angle 25 = .ok (.iconst 3, 1) := by decide +kernel
theorem dL_angle_26 : decode cL_angle 26 = .ok (.if_icmp .ne 8, 3) := by decide +kernel
theorem dL_angle_29 : decode cL_angle 29 = .ok (.bipush 60, 2) := by decide +kernel
theorem dL_angle_31 : decode cL_angle 31 = .ok (.goto 5, 3) := by decide +kernel
theorem dL_angle_34 : decode cL_angle 34 = .ok (.bipush 30, 2) := by decide +kernel
theorem dL_angle_36 : decode cL_angle 36 = .ok (.ireturn, 1) := by decide +kernel
abbrev mL_angle : KM := (RL, cL_angle, 1, (some .int), { frames := 0, cells := 0, slots := 0, locals := 0 }, 0, 0)
def fL_angle (a0 : Int32) : Option Int32 :=
  if a0 = 0 then
    some 180
  else
    if a0 = 1 then
      some 90
    else
      if a0 = 2 then
        some 45
      else
        if a0 = 3 then
          some 60
        else
          some 30
set_option maxHeartbeats 4000000 in
set_option maxRecDepth 100000 in
theorem tL_angle (sh : KSh) (hk : KAG sh) (l : Launch) (hst : l.stackTraces = false) (a0 : Int32) (σ : Sto) (r : Int32) (h : fL_angle a0 = some r) : CT sh l mL_angle yL_angle [.int a0] σ (0, .int r, σ) := by
  refine kct [(0, .int a0)] hst (by decide +kernel) rfl rfl (Nat.le_of_ble_eq_true rfl) ?_
  rw [fL_angle] at h
  refine kv_iload_n (pc := 0) 0 dL_angle_0 rfl rfl ?_
  refine kv_if_ne (pc := 1) (tgt := 8) dL_angle_1 (by decide) h (fun h => ?_) (fun h => ?_)
  · refine kv_iload_n (pc := 8) 0 dL_angle_8 rfl rfl ?_
    refine kv_iconst (pc := 9) (v := 1) dL_angle_9 (by decide) ?_
    refine kv_icmp_ne (pc := 10) (tgt := 16) dL_angle_10 (by decide) h (fun h => ?_) (fun h => ?_)
    · refine kv_iload_n (pc := 16) 0 dL_angle_16 rfl rfl ?_
      refine kv_iconst (pc := 17) (v := 2) dL_angle_17 (by decide) ?_
      refine kv_icmp_ne (pc := 18) (tgt := 24) dL_angle_18 (by decide) h (fun h => ?_) (fun h => ?_)
      · refine kv_iload_n (pc := 24) 0 dL_angle_24 rfl rfl ?_
        refine kv_iconst (pc := 25) (v := 3) dL_angle_25 (by decide) ?_
        refine kv_icmp_ne (pc := 26) (tgt := 34) dL_angle_26 (by decide) h (fun h => ?_) (fun h => ?_)
        · refine kv_bipush (pc := 34) (v := 30) dL_angle_34 (by decide) ?_
          exact kv_iret (pc := 36) dL_angle_36 rfl (by cases h; rfl) (by decide) (by decide)
        · refine kv_bipush (pc := 29) (v := 60) dL_angle_29 (by decide) ?_
          refine kv_goto (pc := 31) (tgt := 36) dL_angle_31 (by decide) ?_
          exact kv_iret (pc := 36) dL_angle_36 rfl (by cases h; rfl) (by decide) (by decide)
      · refine kv_bipush (pc := 21) (v := 45) dL_angle_21 (by decide) ?_
        exact kv_iret (pc := 23) dL_angle_23 rfl (by cases h; rfl) (by decide) (by decide)
    · refine kv_bipush (pc := 13) (v := 90) dL_angle_13 (by decide) ?_
      exact kv_iret (pc := 15) dL_angle_15 rfl (by cases h; rfl) (by decide) (by decide)
  · refine kv_sipush (pc := 4) (v := 180) dL_angle_4 (by decide) ?_
    exact kv_iret (pc := 7) dL_angle_7 rfl (by cases h; rfl) (by decide) (by decide)
theorem dL_isHex_0 : decode cL_isHex 0 = .ok (.aload_n 0, 1) := by decide +kernel
theorem dL_isHex_1 : decode cL_isHex 1 = .ok (.bipush 14, 2) := by decide +kernel
theorem dL_isHex_3 : decode cL_isHex 3 = .ok (.invokevirtual 27, 3) := by decide +kernel
theorem dL_isHex_6 : decode cL_isHex 6 = .ok (.bipush 6, 2) := by decide +kernel
theorem dL_isHex_8 : decode cL_isHex 8 = .ok (.if_icmp .ne 7, 3) := by decide +kernel
theorem dL_isHex_11 : decode cL_isHex 11 = .ok (.iconst 1, 1) := by decide +kernel
theorem dL_isHex_12 : decode cL_isHex 12 = .ok (.goto 4, 3) := by decide +kernel
theorem dL_isHex_15 : decode cL_isHex 15 = .ok (.iconst 0, 1) := by decide +kernel
theorem dL_isHex_16 : decode cL_isHex 16 = .ok (.ireturn, 1) := by decide +kernel
abbrev mL_isHex : KM := (RL, cL_isHex, 1, (some .boolean), { frames := 8, cells := 0, slots := 0, locals := 156 }, 0, 0)
def fL_isHex (σ : Sto) : Option (Bool × Sto) :=
  (fX6_count 14 σ).bind fun r1 =>
  if r1.1 = 0 then
    if r1.2.1 = 6 then
      some (true, r1.2.2)
    else
      some (false, r1.2.2)
  else none
set_option maxHeartbeats 4000000 in
set_option maxRecDepth 100000 in
theorem tL_isHex (sh : KSh) (hk : KAG sh) (l : Launch) (hst : l.stackTraces = false) (σ : Sto) (r : (Bool × Sto)) (h : fL_isHex σ = some r) : CT sh l mL_isHex yL_isHex [.ref 0] σ (0, .int (kb r.1), r.2) := by
  refine kct [(0, .ref 0)] hst (by decide +kernel) rfl rfl (Nat.le_of_ble_eq_true rfl) ?_
  rw [fL_isHex] at h
  refine kv_aload_n (pc := 0) 0 dL_isHex_0 rfl rfl ?_
  refine kv_bipush (pc := 1) (v := 14) dL_isHex_1 (by decide) ?_
  refine kv_cVn (pc := 3) [.int 14] (fun r1 => (r1.1, .int r1.2.1, r1.2.2)) (fun r1 => (.int r1.2.1 :: [])) (fun r1 => r1.2.2) 6 0 0 h (fun r1 g2 hnt => tX6_count sh hk l hst 14 σ r1 g2 hnt) dL_isHex_3 rfl (ks_0 hk) rfl yw_X6_count lk_L_27 (by decide) (Nat.le_of_ble_eq_true rfl) (by decide) (fun _ => rfl) (fun _ => rfl) ⟨rfl, rfl, rfl⟩ (fun r h => Decidable.byContradiction (fun h9 => by rw [if_neg h9] at h; cases h)) (fun r1 g2 z3 h => ?_)
  rw [if_pos z3] at h
  refine kv_bipush (pc := 6) (v := 6) dL_isHex_6 (by decide) ?_
  refine kv_icmp_ne (pc := 8) (tgt := 15) dL_isHex_8 (by decide) h (fun h => ?_) (fun h => ?_)
  · refine kv_iconst (pc := 15) (v := 0) dL_isHex_15 (by decide) ?_
    exact kv_zret (pc := 16) dL_isHex_16 rfl rfl (by cases h; rfl) (by decide) (by decide)
  · refine kv_iconst (pc := 11) (v := 1) dL_isHex_11 (by decide) ?_
    refine kv_goto (pc := 12) (tgt := 16) dL_isHex_12 (by decide) ?_
    exact kv_zret (pc := 16) dL_isHex_16 rfl rfl (by cases h; rfl) (by decide) (by decide)
theorem yw_L_isHex : KMS yL_isHex mL_isHex 1 := ⟨⟨by decide +kernel, by decide +kernel, by decide +kernel⟩, ⟨rfl, rfl⟩, kg_in 881 (by decide +kernel) (by decide +kernel), kg_in 45 (by decide +kernel) (by decide +kernel), kg_in 882 (by decide +kernel) (by decide +kernel)⟩
theorem dL_size_0 : decode cL_size 0 = .ok (.iload_n 0, 1) := by decide +kernel
theorem dL_size_1 : decode cL_size 1 = .ok (.ifCond .ge 8, 3) := by decide +kernel
theorem dL_size_4 : decode cL_size 4 = .ok (.iload_n 0, 1) := by decide +kernel
theorem dL_size_5 : decode cL_size 5 = .ok (.ineg, 1) := by decide +kernel
theorem dL_size_6 : decode cL_size 6 = .ok (.goto 4, 3) := by decide +kernel
theorem dL_size_9 : decode cL_size 9 = .ok (.iload_n 0, 1) := by decide +kernel
theorem dL_size_10 : decode cL_size 10 = .ok (.ireturn, 1) := by decide +kernel
abbrev mL_size : KM := (RL, cL_size, 1, (some .int), { frames := 0, cells := 0, slots := 0, locals := 0 }, 0, 0)
def fL_size (a0 : Int32) : Option Int32 :=
  if 0 ≤ a0 then
    some a0
  else
    some (-a0)
set_option maxHeartbeats 4000000 in
set_option maxRecDepth 100000 in
theorem tL_size (sh : KSh) (hk : KAG sh) (l : Launch) (hst : l.stackTraces = false) (a0 : Int32) (σ : Sto) (r : Int32) (h : fL_size a0 = some r) : CT sh l mL_size yL_size [.int a0] σ (0, .int r, σ) := by
  refine kct [(0, .int a0)] hst (by decide +kernel) rfl rfl (Nat.le_of_ble_eq_true rfl) ?_
  rw [fL_size] at h
  refine kv_iload_n (pc := 0) 0 dL_size_0 rfl rfl ?_
  refine kv_if_ge (pc := 1) (tgt := 9) dL_size_1 (by decide) h (fun h => ?_) (fun h => ?_)
  · refine kv_iload_n (pc := 9) 0 dL_size_9 rfl rfl ?_
    exact kv_iret (pc := 10) dL_size_10 rfl (by cases h; rfl) (by decide) (by decide)
  · refine kv_iload_n (pc := 4) 0 dL_size_4 rfl rfl ?_
    refine kv_ineg (pc := 5) dL_size_5 ?_
    refine kv_goto (pc := 6) (tgt := 10) dL_size_6 (by decide) ?_
    exact kv_iret (pc := 10) dL_size_10 rfl (by cases h; rfl) (by decide) (by decide)
theorem yw_L_size : KMS yL_size mL_size 1 := ⟨⟨by decide +kernel, by decide +kernel, by decide +kernel⟩, ⟨rfl, rfl⟩, kg_in 878 (by decide +kernel) (by decide +kernel), kg_in 45 (by decide +kernel) (by decide +kernel), kg_in 879 (by decide +kernel) (by decide +kernel)⟩
theorem dL_isNear_0 : decode cL_isNear 0 = .ok (.aload_n 0, 1) := by decide +kernel
theorem dL_isNear_1 : decode cL_isNear 1 = .ok (.iconst 1, 1) := by decide +kernel
theorem dL_isNear_2 : decode cL_isNear 2 = .ok (.invokevirtual 27, 3) := by decide +kernel
theorem dL_isNear_5 : decode cL_isNear 5 = .ok (.istore_n 3, 1) := by decide +kernel
theorem dL_isNear_6 : decode cL_isNear 6 = .ok (.iload_n 1, 1) := by decide +kernel
theorem dL_isNear_7 : decode cL_isNear 7 = .ok (.invokestatic 30, 3) := by decide +kernel
theorem dL_isNear_10 : decode cL_isNear 10 = .ok (.iload_n 3, 1) := by decide +kernel
theorem dL_isNear_11 : decode cL_isNear 11 = .ok (.if_icmp .gt 32, 3) := by decide +kernel
theorem dL_isNear_14 : decode cL_isNear 14 = .ok (.iload_n 2, 1) := by decide +kernel
theorem dL_isNear_15 : decode cL_isNear 15 = .ok (.invokestatic 30, 3) := by decide +kernel
theorem dL_isNear_18 : decode cL_isNear 18 = .ok (.iload_n 3, 1) := by decide +kernel
theorem dL_isNear_19 : decode cL_isNear 19 = .ok (.if_icmp .gt 24, 3) := by decide +kernel
theorem dL_isNear_22 : decode cL_isNear 22 = .ok (.aload_n 0, 1) := by decide +kernel
theorem dL_isNear_23 : decode cL_isNear 23 = .ok (.invokestatic 35, 3) := by decide +kernel
theorem dL_isNear_26 : decode cL_isNear 26 = .ok (.ifCond .eq 13, 3) := by decide +kernel
theorem dL_isNear_29 : decode cL_isNear 29 = .ok (.iload_n 1, 1) := by decide +kernel
theorem dL_isNear_30 : decode cL_isNear 30 = .ok (.iload_n 2, 1) := by decide +kernel
theorem dL_isNear_31 : decode cL_isNear 31 = .ok (.iadd, 1) := by decide +kernel
theorem dL_isNear_32 : decode cL_isNear 32 = .ok (.invokestatic 30, 3) := by decide +kernel
theorem dL_isNear_35 : decode cL_isNear 35 = .ok (.iload_n 3, 1) := by decide +kernel
theorem dL_isNear_36 : decode cL_isNear 36 = .ok (.if_icmp .gt 7, 3) := by decide +kernel
theorem dL_isNear_39 : decode cL_isNear 39 = .ok (.iconst 1, 1) := by decide +kernel
theorem dL_isNear_40 : decode cL_isNear 40 = .ok (.goto 4, 3) := by decide +kernel
theorem dL_isNear_43 : decode cL_isNear 43 = .ok (.iconst 0, 1) := by decide +kernel
theorem dL_isNear_44 : decode cL_isNear 44 = .ok (.ireturn, 1) := by decide +kernel
abbrev mL_isNear : KM := (RL, cL_isNear, 4, (some .boolean), { frames := 9, cells := 0, slots := 0, locals := 176 }, 0, 0)
def fL_isNear (a1 : Int32) (a2 : Int32) (σ : Sto) : Option (Bool × Sto) :=
  (fX6_count 1 σ).bind fun r1 =>
  if r1.1 = 0 then
    (fL_size a1).bind fun r4 =>
    if r1.2.1 < r4 then
      some (false, r1.2.2)
    else
      (fL_size a2).bind fun r7 =>
      if r1.2.1 < r7 then
        some (false, r1.2.2)
      else
        (fL_isHex r1.2.2).bind fun r10 =>
        if r10.1 = true then
          (fL_size (a1 + a2)).bind fun r13 =>
          if r1.2.1 < r13 then
            some (false, r10.2)
          else
            some (true, r10.2)
        else
          some (true, r10.2)
  else none
set_option maxHeartbeats 4000000 in
set_option maxRecDepth 100000 in
theorem tL_isNear (sh : KSh) (hk : KAG sh) (l : Launch) (hst : l.stackTraces = false) (a1 : Int32) (a2 : Int32) (σ : Sto) (r : (Bool × Sto)) (h : fL_isNear a1 a2 σ = some r) : CT sh l mL_isNear yL_isNear [.ref 0, .int a1, .int a2] σ (0, .int (kb r.1), r.2) := by
  refine kct [(0, .ref 0), (1, .int a1), (2, .int a2)] hst (by decide +kernel) rfl rfl (Nat.le_of_ble_eq_true rfl) ?_
  rw [fL_isNear] at h
  refine kv_aload_n (pc := 0) 0 dL_isNear_0 rfl rfl ?_
  refine kv_iconst (pc := 1) (v := 1) dL_isNear_1 (by decide) ?_
  refine kv_cVn (pc := 2) [.int 1] (fun r1 => (r1.1, .int r1.2.1, r1.2.2)) (fun r1 => (.int r1.2.1 :: [])) (fun r1 => r1.2.2) 5 0 0 h (fun r1 g2 hnt => tX6_count sh hk l hst 1 σ r1 g2 hnt) dL_isNear_2 rfl (ks_0 hk) rfl yw_X6_count lk_L_27 (by decide) (Nat.le_of_ble_eq_true rfl) (by decide) (fun _ => rfl) (fun _ => rfl) ⟨rfl, rfl, rfl⟩ (fun r h => Decidable.byContradiction (fun h9 => by rw [if_neg h9] at h; cases h)) (fun r1 g2 z3 h => ?_)
  rw [if_pos z3] at h
  refine kv_istore_n (pc := 5) [(3, .int r1.2.1), (0, .ref 0), (1, .int a1), (2, .int a2)] dL_isNear_5 rfl (by decide) rfl ?_
  refine kv_iload_n (pc := 6) 2 dL_isNear_6 rfl rfl ?_
  refine kv_cS (pc := 7) [.int a1] (fun r4 => (0, .int r4, r1.2.2)) (fun r4 => (.int r4 :: [])) (fun r4 => r1.2.2) 10 0 0 h (fun r4 g5 => tL_size sh hk l hst a1 r1.2.2 r4 g5) dL_isNear_7 rfl yw_L_size lk_L_30 (by decide) (Nat.le_of_ble_eq_true rfl) (by decide) (fun _ => rfl) (fun _ => rfl) ⟨rfl, rfl, rfl⟩ (fun _ _ h0 => absurd rfl h0) (fun r4 g5 z6 h => ?_)
  refine kv_iload_n (pc := 10) 0 dL_isNear_10 rfl rfl ?_
  refine kv_icmp_gt (pc := 11) (tgt := 43) dL_isNear_11 (by decide) h (fun h => ?_) (fun h => ?_)
  · refine kv_iconst (pc := 43) (v := 0) dL_isNear_43 (by decide) ?_
    exact kv_zret (pc := 44) dL_isNear_44 rfl rfl (by cases h; rfl) (by decide) (by decide)
  · refine kv_iload_n (pc := 14) 3 dL_isNear_14 rfl rfl ?_
    refine kv_cS (pc := 15) [.int a2] (fun r7 => (0, .int r7, r1.2.2)) (fun r7 => (.int r7 :: [])) (fun r7 => r1.2.2) 18 0 0 h (fun r7 g8 => tL_size sh hk l hst a2 r1.2.2 r7 g8) dL_isNear_15 rfl yw_L_size lk_L_30 (by decide) (Nat.le_of_ble_eq_true rfl) (by decide) (fun _ => rfl) (fun _ => rfl) ⟨rfl, rfl, rfl⟩ (fun _ _ h0 => absurd rfl h0) (fun r7 g8 z9 h => ?_)
    refine kv_iload_n (pc := 18) 0 dL_isNear_18 rfl rfl ?_
    refine kv_icmp_gt (pc := 19) (tgt := 43) dL_isNear_19 (by decide) h (fun h => ?_) (fun h => ?_)
    · refine kv_iconst (pc := 43) (v := 0) dL_isNear_43 (by decide) ?_
      exact kv_zret (pc := 44) dL_isNear_44 rfl rfl (by cases h; rfl) (by decide) (by decide)
    · refine kv_aload_n (pc := 22) 1 dL_isNear_22 rfl rfl ?_
      refine kv_cS (pc := 23) [.ref 0] (fun r10 => (0, .int (kb r10.1), r10.2)) (fun r10 => (.int (kb r10.1) :: [])) (fun r10 => r10.2) 26 0 0 h (fun r10 g11 => tL_isHex sh hk l hst  r1.2.2 r10 g11) dL_isNear_23 rfl yw_L_isHex lk_L_35 (by decide) (Nat.le_of_ble_eq_true rfl) (by decide) (fun _ => rfl) (fun _ => rfl) ⟨rfl, rfl, rfl⟩ (fun _ _ h0 => absurd rfl h0) (fun r10 g11 z12 h => ?_)
      refine kv_ifb_eq (pc := 26) (tgt := 39) dL_isNear_26 (by decide) h (fun h => ?_) (fun h => ?_)
      · refine kv_iconst (pc := 39) (v := 1) dL_isNear_39 (by decide) ?_
        refine kv_goto (pc := 40) (tgt := 44) dL_isNear_40 (by decide) ?_
        exact kv_zret (pc := 44) dL_isNear_44 rfl rfl (by cases h; rfl) (by decide) (by decide)
      · refine kv_iload_n (pc := 29) 2 dL_isNear_29 rfl rfl ?_
        refine kv_iload_n (pc := 30) 3 dL_isNear_30 rfl rfl ?_
        refine kv_iadd (pc := 31) dL_isNear_31 ?_
        refine kv_cS (pc := 32) [.int (a1 + a2)] (fun r13 => (0, .int r13, r10.2)) (fun r13 => (.int r13 :: [])) (fun r13 => r10.2) 35 0 0 h (fun r13 g14 => tL_size sh hk l hst (a1 + a2) r10.2 r13 g14) dL_isNear_32 rfl yw_L_size lk_L_30 (by decide) (Nat.le_of_ble_eq_true rfl) (by decide) (fun _ => rfl) (fun _ => rfl) ⟨rfl, rfl, rfl⟩ (fun _ _ h0 => absurd rfl h0) (fun r13 g14 z15 h => ?_)
        refine kv_iload_n (pc := 35) 0 dL_isNear_35 rfl rfl ?_
        refine kv_icmp_gt (pc := 36) (tgt := 43) dL_isNear_36 (by decide) h (fun h => ?_) (fun h => ?_)
        · refine kv_iconst (pc := 43) (v := 0) dL_isNear_43 (by decide) ?_
          exact kv_zret (pc := 44) dL_isNear_44 rfl rfl (by cases h; rfl) (by decide) (by decide)
        · refine kv_iconst (pc := 39) (v := 1) dL_isNear_39 (by decide) ?_
          refine kv_goto (pc := 40) (tgt := 44) dL_isNear_40 (by decide) ?_
          exact kv_zret (pc := 44) dL_isNear_44 rfl rfl (by cases h; rfl) (by decide) (by decide)
theorem yw_L_isNear : KMS yL_isNear mL_isNear 3 := ⟨⟨by decide +kernel, by decide +kernel, by decide +kernel⟩, ⟨rfl, rfl⟩, kg_in 875 (by decide +kernel) (by decide +kernel), kg_in 45 (by decide +kernel) (by decide +kernel), kg_in 876 (by decide +kernel) (by decide +kernel)⟩
theorem dL_isBox_0 : decode cL_isBox 0 = .ok (.aload_n 0, 1) := by decide +kernel
theorem dL_isBox_1 : decode cL_isBox 1 = .ok (.iload_n 1, 1) := by decide +kernel
theorem dL_isBox_2 : decode cL_isBox 2 = .ok (.iload_n 2, 1) := by decide +kernel
theorem dL_isBox_3 : decode cL_isBox 3 = .ok (.invokestatic 39, 3) := by decide +kernel
theorem dL_isBox_6 : decode cL_isBox 6 = .ok (.ifCond .ne 5, 3) := by decide +kernel
theorem dL_isBox_9 : decode cL_isBox 9 = .ok (.iconst 0, 1) := by decide +kernel
theorem dL_isBox_10 : decode cL_isBox 10 = .ok (.ireturn, 1) := by decide +kernel
theorem dL_isBox_11 : decode cL_isBox 11 = .ok (.aload_n 0, 1) := by decide +kernel
theorem dL_isBox_12 : decode cL_isBox 12 = .ok (.iconst 0, 1) := by decide +kernel
theorem dL_isBox_13 : decode cL_isBox 13 = .ok (.invokevirtual 27, 3) := by decide +kernel
theorem dL_isBox_16 : decode cL_isBox 16 = .ok (.istore_n 3, 1) := by decide +kernel
theorem dL_isBox_17 : decode cL_isBox 17 = .ok (.iload_n 3, 1) := by decide +kernel
theorem dL_isBox_18 : decode cL_isBox 18 = .ok (.sipush 180, 3) := by decide +kernel
theorem dL_isBox_21 : decode cL_isBox 21 = .ok (.if_icmp .ne 13, 3) := by decide +kernel
theorem dL_isBox_24 : decode cL_isBox 24 = .ok (.iload_n 2, 1) := by decide +kernel
theorem dL_isBox_25 : decode cL_isBox 25 = .ok (.ifCond .lt 7, 3) := by decide +kernel
theorem dL_isBox_28 : decode cL_isBox 28 = .ok (.iconst 1, 1) := by decide +kernel
theorem dL_isBox_29 : decode cL_isBox 29 = .ok (.goto 4, 3) := by decide +kernel
theorem dL_isBox_32 : decode cL_isBox 32 = .ok (.iconst 0, 1) := by decide +kernel
theorem dL_isBox_33 : decode cL_isBox 33 = .ok (.ireturn, 1) := by decide +kernel
theorem dL_isBox_34 : decode cL_isBox 34 = .ok (.iload_n 3, 1) := by decide +kernel
theorem dL_isBox_35 : decode cL_isBox 35 = .ok (.bipush 90, 2) := by decide +kernel
theorem dL_isBox_37 : decode cL_isBox 37 = .ok (.if_icmp .eq 9, 3) := by decide +kernel
theorem dL_isBox_40 : decode cL_isBox 40 = .ok (.iload_n 3, 1) := by decide +kernel
theorem dL_isBox_41 : decode cL_isBox 41 = .ok (.bipush 60, 2) := by decide +kernel
theorem dL_isBox_43 : decode cL_isBox 43 = .ok (.if_icmp .ne 19, 3) := by decide +kernel
theorem dL_isBox_46 : decode cL_isBox 46 = .ok (.iload_n 1, 1) := by decide +kernel
theorem dL_isBox_47 : decode cL_isBox 47 = .ok (.ifCond .lt 11, 3) := by decide +kernel
theorem dL_isBox_50 : decode cL_isBox 50 = .ok (.iload_n 2, 1) := by decide +kernel
theorem dL_isBox_51 : decode cL_isBox 51 = .ok (.ifCond .lt 7, 3) := by decide +kernel
theorem dL_isBox_54 : decode cL_isBox 54 = .ok (.iconst 1, 1) := by decide +kernel
theorem dL_isBox_55 : decode cL_isBox 55 = .ok (.goto 21, 3) := by decide +kernel
theorem dL_isBox_58 : decode cL_isBox 58 = .ok (.iconst 0, 1) := by decide +kernel
theorem dL_isBox_59 : decode cL_isBox 59 = .ok (.goto 17, 3) := by decide +kernel
theorem dL_isBox_62 : decode cL_isBox 62 = .ok (.iload_n 2, 1) := by decide +kernel
theorem dL_isBox_63 : decode cL_isBox 63 = .ok (.ifCond .lt 12, 3) := by decide +kernel
theorem dL_isBox_66 : decode cL_isBox 66 = .ok (.iload_n 1, 1) := by decide +kernel
theorem dL_isBox_67 : decode cL_isBox 67 = .ok (.iload_n 2, 1) := by decide +kernel
theorem dL_isBox_68 : decode cL_isBox 68 = .ok (.if_icmp .lt 7, 3) := by decide +kernel
theorem dL_isBox_71 : decode cL_isBox 71 = .ok (.iconst 1, 1) := by decide +kernel
theorem dL_isBox_72 : decode cL_isBox 72 = .ok (.goto 4, 3) := by decide +kernel
theorem dL_isBox_75 : decode cL_isBox 75 = .ok (.iconst 0, 1) := by decide +kernel
theorem dL_isBox_76 : decode cL_isBox 76 = .ok (.ireturn, 1) := by decide +kernel
abbrev mL_isBox : KM := (RL, cL_isBox, 4, (some .boolean), { frames := 10, cells := 0, slots := 0, locals := 199 }, 0, 0)
def fL_isBox_L46 (a1 : Int32) (a2 : Int32) (σ : Sto) : Option (Bool × Sto) :=
  if a1 < 0 then
    some (false, σ)
  else
    if a2 < 0 then
      some (false, σ)
    else
      some (true, σ)
def fL_isBox (a1 : Int32) (a2 : Int32) (σ : Sto) : Option (Bool × Sto) :=
  (fL_isNear a1 a2 σ).bind fun r1 =>
  if r1.1 = true then
    (fX6_count 0 r1.2).bind fun r4 =>
    if r4.1 = 0 then
      if r4.2.1 = 180 then
        if a2 < 0 then
          some (false, r4.2.2)
        else
          some (true, r4.2.2)
      else
        if r4.2.1 = 90 then
          fL_isBox_L46 a1 a2 r4.2.2
        else
          if r4.2.1 = 60 then
            fL_isBox_L46 a1 a2 r4.2.2
          else
            if a2 < 0 then
              some (false, r4.2.2)
            else
              if a1 < a2 then
                some (false, r4.2.2)
              else
                some (true, r4.2.2)
    else none
  else
    some (false, r1.2)
set_option maxHeartbeats 4000000 in
set_option maxRecDepth 100000 in
theorem wL_isBox_L46 (sh : KSh) (hk : KAG sh) (l : Launch) (hst : l.stackTraces = false) (a1 : Int32) (a2 : Int32) : ∀ (σ : Sto), ∀ (r : (Bool × Sto)), fL_isBox_L46 a1 a2 σ = some r → VV sh l mL_isBox 0 0 46 [(1, .int a1), (2, .int a2)] [] σ (0, .int (kb r.1), r.2) := by
  intro σ r h
  rw [fL_isBox_L46] at h
  refine kv_iload_n (pc := 46) 0 dL_isBox_46 rfl rfl ?_
  refine kv_if_lt (pc := 47) (tgt := 58) dL_isBox_47 (by decide) h (fun h => ?_) (fun h => ?_)
  · refine kv_iconst (pc := 58) (v := 0) dL_isBox_58 (by decide) ?_
    refine kv_goto (pc := 59) (tgt := 76) dL_isBox_59 (by decide) ?_
    exact kv_zret (pc := 76) dL_isBox_76 rfl rfl (by cases h; rfl) (by decide) (by decide)
  · refine kv_iload_n (pc := 50) 1 dL_isBox_50 rfl rfl ?_
    refine kv_if_lt (pc := 51) (tgt := 58) dL_isBox_51 (by decide) h (fun h => ?_) (fun h => ?_)
    · refine kv_iconst (pc := 58) (v := 0) dL_isBox_58 (by decide) ?_
      refine kv_goto (pc := 59) (tgt := 76) dL_isBox_59 (by decide) ?_
      exact kv_zret (pc := 76) dL_isBox_76 rfl rfl (by cases h; rfl) (by decide) (by decide)
    · refine kv_iconst (pc := 54) (v := 1) dL_isBox_54 (by decide) ?_
      refine kv_goto (pc := 55) (tgt := 76) dL_isBox_55 (by decide) ?_
      exact kv_zret (pc := 76) dL_isBox_76 rfl rfl (by cases h; rfl) (by decide) (by decide)
set_option maxHeartbeats 4000000 in
set_option maxRecDepth 100000 in
theorem tL_isBox (sh : KSh) (hk : KAG sh) (l : Launch) (hst : l.stackTraces = false) (a1 : Int32) (a2 : Int32) (σ : Sto) (r : (Bool × Sto)) (h : fL_isBox a1 a2 σ = some r) : CT sh l mL_isBox yL_isBox [.ref 0, .int a1, .int a2] σ (0, .int (kb r.1), r.2) := by
  refine kct [(0, .ref 0), (1, .int a1), (2, .int a2)] hst (by decide +kernel) rfl rfl (Nat.le_of_ble_eq_true rfl) ?_
  rw [fL_isBox] at h
  refine kv_aload_n (pc := 0) 0 dL_isBox_0 rfl rfl ?_
  refine kv_iload_n (pc := 1) 1 dL_isBox_1 rfl rfl ?_
  refine kv_iload_n (pc := 2) 2 dL_isBox_2 rfl rfl ?_
  refine kv_cS (pc := 3) [.ref 0, .int a1, .int a2] (fun r1 => (0, .int (kb r1.1), r1.2)) (fun r1 => (.int (kb r1.1) :: [])) (fun r1 => r1.2) 6 0 0 h (fun r1 g2 => tL_isNear sh hk l hst a1 a2 σ r1 g2) dL_isBox_3 rfl yw_L_isNear lk_L_39 (by decide) (Nat.le_of_ble_eq_true rfl) (by decide) (fun _ => rfl) (fun _ => rfl) ⟨rfl, rfl, rfl⟩ (fun _ _ h0 => absurd rfl h0) (fun r1 g2 z3 h => ?_)
  refine kv_ifb_ne (pc := 6) (tgt := 11) dL_isBox_6 (by decide) h (fun h => ?_) (fun h => ?_)
  · refine kv_aload_n (pc := 11) 0 dL_isBox_11 rfl rfl ?_
    refine kv_iconst (pc := 12) (v := 0) dL_isBox_12 (by decide) ?_
    refine kv_cVn (pc := 13) [.int 0] (fun r4 => (r4.1, .int r4.2.1, r4.2.2)) (fun r4 => (.int r4.2.1 :: [])) (fun r4 => r4.2.2) 16 0 0 h (fun r4 g5 hnt => tX6_count sh hk l hst 0 r1.2 r4 g5 hnt) dL_isBox_13 rfl (ks_0 hk) rfl yw_X6_count lk_L_27 (by decide) (Nat.le_of_ble_eq_true rfl) (by decide) (fun _ => rfl) (fun _ => rfl) ⟨rfl, rfl, rfl⟩ (fun r h => Decidable.byContradiction (fun h9 => by rw [if_neg h9] at h; cases h)) (fun r4 g5 z6 h => ?_)
    rw [if_pos z6] at h
    refine kv_istore_n (pc := 16) [(3, .int r4.2.1), (0, .ref 0), (1, .int a1), (2, .int a2)] dL_isBox_16 rfl (by decide) rfl ?_
    refine kv_iload_n (pc := 17) 0 dL_isBox_17 rfl rfl ?_
    refine kv_sipush (pc := 18) (v := 180) dL_isBox_18 (by decide) ?_
    refine kv_icmp_ne (pc := 21) (tgt := 34) dL_isBox_21 (by decide) h (fun h => ?_) (fun h => ?_)
    · refine kv_iload_n (pc := 34) 0 dL_isBox_34 rfl rfl ?_
      refine kv_bipush (pc := 35) (v := 90) dL_isBox_35 (by decide) ?_
      refine kv_icmp_eq (pc := 37) (tgt := 46) dL_isBox_37 (by decide) h (fun h => ?_) (fun h => ?_)
      · refine kv_sub (pc := 46) [(1, .int a1), (2, .int a2)] [2, 3] rfl ?_
        exact wL_isBox_L46 sh hk l hst a1 a2 r4.2.2 r h
      · refine kv_iload_n (pc := 40) 0 dL_isBox_40 rfl rfl ?_
        refine kv_bipush (pc := 41) (v := 60) dL_isBox_41 (by decide) ?_
        refine kv_icmp_ne (pc := 43) (tgt := 62) dL_isBox_43 (by decide) h (fun h => ?_) (fun h => ?_)
        · refine kv_iload_n (pc := 62) 3 dL_isBox_62 rfl rfl ?_
          refine kv_if_lt (pc := 63) (tgt := 75) dL_isBox_63 (by decide) h (fun h => ?_) (fun h => ?_)
          · refine kv_iconst (pc := 75) (v := 0) dL_isBox_75 (by decide) ?_
            exact kv_zret (pc := 76) dL_isBox_76 rfl rfl (by cases h; rfl) (by decide) (by decide)
          · refine kv_iload_n (pc := 66) 2 dL_isBox_66 rfl rfl ?_
            refine kv_iload_n (pc := 67) 3 dL_isBox_67 rfl rfl ?_
            refine kv_icmp_lt (pc := 68) (tgt := 75) dL_isBox_68 (by decide) h (fun h => ?_) (fun h => ?_)
            · refine kv_iconst (pc := 75) (v := 0) dL_isBox_75 (by decide) ?_
              exact kv_zret (pc := 76) dL_isBox_76 rfl rfl (by cases h; rfl) (by decide) (by decide)
            · refine kv_iconst (pc := 71) (v := 1) dL_isBox_71 (by decide) ?_
              refine kv_goto (pc := 72) (tgt := 76) dL_isBox_72 (by decide) ?_
              exact kv_zret (pc := 76) dL_isBox_76 rfl rfl (by cases h; rfl) (by decide) (by decide)
        · refine kv_sub (pc := 46) [(1, .int a1), (2, .int a2)] [2, 3] rfl ?_
          exact wL_isBox_L46 sh hk l hst a1 a2 r4.2.2 r h
    · refine kv_iload_n (pc := 24) 3 dL_isBox_24 rfl rfl ?_
      refine kv_if_lt (pc := 25) (tgt := 32) dL_isBox_25 (by decide) h (fun h => ?_) (fun h => ?_)
      · refine kv_iconst (pc := 32) (v := 0) dL_isBox_32 (by decide) ?_
        exact kv_zret (pc := 33) dL_isBox_33 rfl rfl (by cases h; rfl) (by decide) (by decide)
      · refine kv_iconst (pc := 28) (v := 1) dL_isBox_28 (by decide) ?_
        refine kv_goto (pc := 29) (tgt := 33) dL_isBox_29 (by decide) ?_
        exact kv_zret (pc := 33) dL_isBox_33 rfl rfl (by cases h; rfl) (by decide) (by decide)
  · refine kv_iconst (pc := 9) (v := 0) dL_isBox_9 (by decide) ?_
    exact kv_zret (pc := 10) dL_isBox_10 rfl rfl (by cases h; rfl) (by decide) (by decide)
theorem yw_L_isBox : KMS yL_isBox mL_isBox 3 := ⟨⟨by decide +kernel, by decide +kernel, by decide +kernel⟩, ⟨rfl, rfl⟩, kg_in 931 (by decide +kernel) (by decide +kernel), kg_in 45 (by decide +kernel) (by decide +kernel), kg_in 932 (by decide +kernel) (by decide +kernel)⟩
theorem dL_isPicture_0 : decode cL_isPicture 0 = .ok (.aload_n 0, 1) := by decide +kernel
theorem dL_isPicture_1 : decode cL_isPicture 1 = .ok (.iconst 1, 1) := by decide +kernel
theorem dL_isPicture_2 : decode cL_isPicture 2 = .ok (.invokevirtual 27, 3) := by decide +kernel
theorem dL_isPicture_5 : decode cL_isPicture 5 = .ok (.istore_n 1, 1) := by decide +kernel
theorem dL_isPicture_6 : decode cL_isPicture 6 = .ok (.iconst 0, 1) := by decide +kernel
theorem dL_isPicture_7 : decode cL_isPicture 7 = .ok (.istore_n 2, 1) := by decide +kernel
theorem dL_isPicture_8 : decode cL_isPicture 8 = .ok (.iconst 0, 1) := by decide +kernel
theorem dL_isPicture_9 : decode cL_isPicture 9 = .ok (.istore_n 3, 1) := by decide +kernel
theorem dL_isPicture_10 : decode cL_isPicture 10 = .ok (.iconst 0, 1) := by decide +kernel
theorem dL_isPicture_11 : decode cL_isPicture 11 = .ok (.istore 4, 2) := by decide +kernel
theorem dL_isPicture_13 : decode cL_isPicture 13 = .ok (.iconst 0, 1) := by decide +kernel
theorem dL_isPicture_14 : decode cL_isPicture 14 = .ok (.istore 5, 2) := by decide +kernel
theorem dL_isPicture_16 : decode cL_isPicture 16 = .ok (.iconst 0, 1) := by decide +kernel
theorem dL_isPicture_17 : decode cL_isPicture 17 = .ok (.istore 6, 2) := by decide +kernel
theorem dL_isPicture_19 : decode cL_isPicture 19 = .ok (.iconst 0, 1) := by decide +kernel
theorem dL_isPicture_20 : decode cL_isPicture 20 = .ok (.istore 7, 2) := by decide +kernel
theorem dL_isPicture_22 : decode cL_isPicture 22 = .ok (.bipush 10, 2) := by decide +kernel
theorem dL_isPicture_24 : decode cL_isPicture 24 = .ok (.newarray .int, 2) := by decide +kernel
theorem dL_isPicture_26 : decode cL_isPicture 26 = .ok (.astore 8, 2) := by decide +kernel
theorem dL_isPicture_28 : decode cL_isPicture 28 = .ok (.iload_n 1, 1) := by decide +kernel
theorem dL_isPicture_29 : decode cL_isPicture 29 = .ok (.ineg, 1) := by decide +kernel
theorem dL_isPicture_30 : decode cL_isPicture 30 = .ok (.istore 9, 2) := by decide +kernel
theorem dL_isPicture_32 : decode cL_isPicture 32 = .ok (.iload 9, 2) := by decide +kernel
theorem dL_isPicture_34 : decode cL_isPicture 34 = .ok (.iload_n 1, 1) := by decide +kernel
theorem dL_isPicture_35 : decode cL_isPicture 35 = .ok (.if_icmp .gt 393, 3) := by decide +kernel
theorem dL_isPicture_38 : decode cL_isPicture 38 = .ok (.iload_n 1, 1) := by decide +kernel
theorem dL_isPicture_39 : decode cL_isPicture 39 = .ok (.ineg, 1) := by decide +kernel
theorem dL_isPicture_40 : decode cL_isPicture 40 = .ok (.istore 10, 2) := by decide +kernel
theorem dL_isPicture_42 : decode cL_isPicture 42 = .ok (.iload 10, 2) := by decide +kernel
theorem dL_isPicture_44 : decode cL_isPicture 44 = .ok (.iload_n 1, 1) := by decide +kernel
theorem dL_isPicture_45 : decode cL_isPicture 45 = .ok (.if_icmp .gt 377, 3) := by decide +kernel
theorem dL_isPicture_48 : decode cL_isPicture 48 = .ok (.aload_n 0, 1) := by decide +kernel
theorem dL_isPicture_49 : decode cL_isPicture 49 = .ok (.iload 9, 2) := by decide +kernel
theorem dL_isPicture_51 : decode cL_isPicture 51 = .ok (.iload 10, 2) := by decide +kernel
theorem dL_isPicture_53 : decode cL_isPicture 53 = .ok (.invokestatic 39, 3) := by decide +kernel
theorem dL_isPicture_56 : decode cL_isPicture 56 = .ok (.ifCond .ne 6, 3) := by decide +kernel
theorem dL_isPicture_59 : decode cL_isPicture 59 = .ok (.goto 357, 3) := by decide +kernel
theorem dL_isPicture_62 : decode cL_isPicture 62 = .ok (.iinc 2 1, 3) := by decide +kernel
theorem dL_isPicture_65 : decode cL_isPicture 65 = .ok (.aload_n 0, 1) := by decide +kernel
theorem dL_isPicture_66 : decode cL_isPicture 66 = .ok (.iload 9, 2) := by decide +kernel
theorem dL_isPicture_68 : decode cL_isPicture 68 = .ok (.iload 10, 2) := by decide +kernel
theorem dL_isPicture_70 : decode cL_isPicture 70 = .ok (.invokevirtual 43, 3) := by decide +kernel
theorem dL_isPicture_73 : decode cL_isPicture 73 = .ok (.istore 11, 2) := by decide +kernel
theorem dL_isPicture_75 : decode cL_isPicture 75 = .ok (.aload 8, 2) := by decide +kernel
theorem dL_isPicture_77 : decode cL_isPicture 77 = .ok (.iload 11, 2) := by decide +kernel
theorem dL_isPicture_79 : decode cL_isPicture 79 = .ok (.dup2, 1) := by decide +kernel
theorem dL_isPicture_80 : decode cL_isPicture 80 = .ok (.iaload, 1) := by decide +kernel
theorem dL_isPicture_81 : decode cL_isPicture 81 = .ok (.iconst 1, 1) := by decide +kernel
theorem dL_isPicture_82 : decode cL_isPicture 82 = .ok (.iadd, 1) := by decide +kernel
theorem dL_isPicture_83 : decode cL_isPicture 83 = .ok (.iastore, 1) := by decide +kernel
theorem dL_isPicture_84 : decode cL_isPicture 84 = .ok (.aload_n 0, 1) := by decide +kernel
theorem dL_isPicture_85 : decode cL_isPicture 85 = .ok (.iload 9, 2) := by decide +kernel
theorem dL_isPicture_87 : decode cL_isPicture 87 = .ok (.iload 10, 2) := by decide +kernel
theorem dL_isPicture_89 : decode cL_isPicture 89 = .ok (.invokevirtual 47, 3) := by decide +kernel
theorem dL_isPicture_92 : decode cL_isPicture 92 = .ok (.istore 12, 2) := by decide +kernel
theorem dL_isPicture_94 : decode cL_isPicture 94 = .ok (.aload_n 0, 1) := by decide +kernel
theorem dL_isPicture_95 : decode cL_isPicture 95 = .ok (.iload 9, 2) := by decide +kernel
theorem dL_isPicture_97 : decode cL_isPicture 97 = .ok (.iload 10, 2) := by decide +kernel
theorem dL_isPicture_99 : decode cL_isPicture 99 = .ok (.iconst 0, 1) := by decide +kernel
theorem dL_isPicture_100 : decode cL_isPicture 100 = .ok (.invokevirtual 50, 3) := by decide +kernel
theorem dL_isPicture_103 : decode cL_isPicture 103 = .ok (.istore 13, 2) := by decide +kernel
theorem dL_isPicture_105 : decode cL_isPicture 105 = .ok (.aload_n 0, 1) := by decide +kernel
theorem dL_isPicture_106 : decode cL_isPicture 106 = .ok (.iload 9, 2) := by decide +kernel
theorem dL_isPicture_108 : decode cL_isPicture 108 = .ok (.iload 10, 2) := by decide +kernel
theorem dL_isPicture_110 : decode cL_isPicture 110 = .ok (.iconst 1, 1) := by decide +kernel
theorem dL_isPicture_111 : decode cL_isPicture 111 = .ok (.invokevirtual 50, 3) := by decide +kernel
theorem dL_isPicture_114 : decode cL_isPicture 114 = .ok (.istore 14, 2) := by decide +kernel
theorem dL_isPicture_116 : decode cL_isPicture 116 = .ok (.iload 12, 2) := by decide +kernel
theorem dL_isPicture_118 : decode cL_isPicture 118 = .ok (.ifCond .ne 7, 3) := by decide +kernel
theorem dL_isPicture_121 : decode cL_isPicture 121 = .ok (.iconst 1, 1) := by decide +kernel
theorem dL_isPicture_122 : decode cL_isPicture 122 = .ok (.goto 4, 3) := by decide +kernel
theorem dL_isPicture_125 : decode cL_isPicture 125 = .ok (.iconst 0, 1) := by decide +kernel
theorem dL_isPicture_126 : decode cL_isPicture 126 = .ok (.aload_n 0, 1) := by decide +kernel
theorem dL_isPicture_127 : decode cL_isPicture 127 = .ok (.iload 9, 2) := by decide +kernel
theorem dL_isPicture_129 : decode cL_isPicture 129 = .ok (.iload 10, 2) := by decide +kernel
theorem dL_isPicture_131 : decode cL_isPicture 131 = .ok (.invokestatic 54, 3) := by decide +kernel
theorem dL_isPicture_134 : decode cL_isPicture 134 = .ok (.if_icmp .ne 55, 3) := by decide +kernel
theorem dL_isPicture_137 : decode cL_isPicture 137 = .ok (.iload 12, 2) := by decide +kernel
theorem dL_isPicture_139 : decode cL_isPicture 139 = .ok (.iconst (-1), 1) := by decide +kernel
theorem dL_isPicture_140 : decode cL_isPicture 140 = .ok (.if_icmp .ne 7, 3) := by decide +kernel
theorem dL_isPicture_143 : decode cL_isPicture 143 = .ok (.iconst 1, 1) := by decide +kernel
theorem dL_isPicture_144 : decode cL_isPicture 144 = .ok (.goto 4, 3) := by decide +kernel
theorem dL_isPicture_147 : decode cL_isPicture 147 = .ok (.iconst 0, 1) := by decide +kernel
theorem dL_isPicture_148 : decode cL_isPicture 148 = .ok (.iload 13, 2) := by decide +kernel
theorem dL_isPicture_150 : decode cL_isPicture 150 = .ok (.bipush (-100), 2) := by decide +kernel
theorem dL_isPicture_152 : decode cL_isPicture 152 = .ok (.if_icmp .ne 7, 3) := by decide +kernel
theorem dL_isPicture_155 : decode cL_isPicture 155 = .ok (.iconst 1, 1) := by decide +kernel
theorem dL_isPicture_156 : decode cL_isPicture 156 = .ok (.goto 4, 3) := by decide +kernel
theorem dL_isPicture_159 : decode cL_isPicture 159 = .ok (.iconst 0, 1) := by decide +kernel
theorem dL_isPicture_160 : decode cL_isPicture 160 = .ok (.if_icmp .ne 29, 3) := by decide +kernel
theorem dL_isPicture_163 : decode cL_isPicture 163 = .ok (.iload 12, 2) := by decide +kernel
theorem dL_isPicture_165 : decode cL_isPicture 165 = .ok (.iconst (-1), 1) := by decide +kernel
theorem dL_isPicture_166 : decode cL_isPicture 166 = .ok (.if_icmp .ne 7, 3) := by decide +kernel
theorem dL_isPicture_169 : decode cL_isPicture 169 = .ok (.iconst 1, 1) := by decide +kernel
theorem dL_isPicture_170 : decode cL_isPicture 170 = .ok (.goto 4, 3) := by decide +kernel
theorem dL_isPicture_173 : decode cL_isPicture 173 = .ok (.iconst 0, 1) := by decide +kernel
theorem dL_isPicture_174 : decode cL_isPicture 174 = .ok (.iload 14, 2) := by decide +kernel
theorem dL_isPicture_176 : decode cL_isPicture 176 = .ok (.bipush (-100), 2) := by decide +kernel
theorem dL_isPicture_178 : decode cL_isPicture 178 = .ok (.if_icmp .ne 7, 3) := by decide +kernel
theorem dL_isPicture_181 : decode cL_isPicture 181 = .ok (.iconst 1, 1) := by decide +kernel
theorem dL_isPicture_182 : decode cL_isPicture 182 = .ok (.goto 4, 3) := by decide +kernel
theorem dL_isPicture_185 : decode cL_isPicture 185 = .ok (.iconst 0, 1) := by decide +kernel
theorem dL_isPicture_186 : decode cL_isPicture 186 = .ok (.if_icmp .eq 5, 3) := by decide +kernel
theorem dL_isPicture_189 : decode cL_isPicture 189 = .ok (.iconst 0, 1) := by decide +kernel
theorem dL_isPicture_190 : decode cL_isPicture 190 = .ok (.ireturn, 1) := by decide +kernel
theorem dL_isPicture_191 : decode cL_isPicture 191 = .ok (.iload 12, 2) := by decide +kernel
theorem dL_isPicture_193 : decode cL_isPicture 193 = .ok (.iconst (-1), 1) := by decide +kernel
theorem dL_isPicture_194 : decode cL_isPicture 194 = .ok (.if_icmp .ne 21, 3) := by decide +kernel
theorem dL_isPicture_197 : decode cL_isPicture 197 = .ok (.iload 11, 2) := by decide +kernel
theorem dL_isPicture_199 : decode cL_isPicture 199 = .ok (.ifCond .ne 14, 3) := by decide +kernel
theorem dL_isPicture_202 : decode cL_isPicture 202 = .ok (.aload_n 0, 1) := by decide +kernel
theorem dL_isPicture_203 : decode cL_isPicture 203 = .ok (.iload 9, 2) := by decide +kernel
theorem dL_isPicture_205 : decode cL_isPicture 205 = .ok (.iload 10, 2) := by decide +kernel
theorem dL_isPicture_207 : decode cL_isPicture 207 = .ok (.invokevirtual 57, 3) := by decide +kernel
theorem dL_isPicture_210 : decode cL_isPicture 210 = .ok (.ifCond .eq 206, 3) := by decide +kernel
theorem dL_isPicture_213 : decode cL_isPicture 213 = .ok (.iconst 0, 1) := by decide +kernel
theorem dL_isPicture_214 : decode cL_isPicture 214 = .ok (.ireturn, 1) := by decide +kernel
theorem dL_isPicture_215 : decode cL_isPicture 215 = .ok (.iinc 4 1, 3) := by decide +kernel
theorem dL_isPicture_218 : decode cL_isPicture 218 = .ok (.sipush 1000, 3) := by decide +kernel
theorem dL_isPicture_221 : decode cL_isPicture 221 = .ok (.istore 15, 2) := by decide +kernel
theorem dL_isPicture_223 : decode cL_isPicture 223 = .ok (.iconst 0, 1) := by decide +kernel
theorem dL_isPicture_224 : decode cL_isPicture 224 = .ok (.istore 16, 2) := by decide +kernel
theorem dL_isPicture_226 : decode cL_isPicture 226 = .ok (.iload 16, 2) := by decide +kernel
theorem dL_isPicture_228 : decode cL_isPicture 228 = .ok (.iload 12, 2) := by decide +kernel
theorem dL_isPicture_230 : decode cL_isPicture 230 = .ok (.if_icmp .ge 22, 3) := by decide +kernel
theorem dL_isPicture_233 : decode cL_isPicture 233 = .ok (.iload 15, 2) := by decide +kernel
theorem dL_isPicture_235 : decode cL_isPicture 235 = .ok (.aload_n 0, 1) := by decide +kernel
theorem dL_isPicture_236 : decode cL_isPicture 236 = .ok (.iconst 3, 1) := by decide +kernel
theorem dL_isPicture_237 : decode cL_isPicture 237 = .ok (.invokevirtual 27, 3) := by decide +kernel
theorem dL_isPicture_240 : decode cL_isPicture 240 = .ok (.imul, 1) := by decide +kernel
theorem dL_isPicture_241 : decode cL_isPicture 241 = .ok (.bipush 100, 2) := by decide +kernel
theorem dL_isPicture_243 : decode cL_isPicture 243 = .ok (.idiv, 1) := by decide +kernel
theorem dL_isPicture_244 : decode cL_isPicture 244 = .ok (.istore 15, 2) := by decide +kernel
theorem dL_isPicture_246 : decode cL_isPicture 246 = .ok (.iinc 16 1, 3) := by decide +kernel
theorem dL_isPicture_249 : decode cL_isPicture 249 = .ok (.goto (-23), 3) := by decide +kernel
theorem dL_isPicture_252 : decode cL_isPicture 252 = .ok (.aload_n 0, 1) := by decide +kernel
theorem dL_isPicture_253 : decode cL_isPicture 253 = .ok (.iload 9, 2) := by decide +kernel
theorem dL_isPicture_255 : decode cL_isPicture 255 = .ok (.iload 10, 2) := by decide +kernel
theorem dL_isPicture_257 : decode cL_isPicture 257 = .ok (.invokevirtual 57, 3) := by decide +kernel
theorem dL_isPicture_260 : decode cL_isPicture 260 = .ok (.iload 15, 2) := by decide +kernel
theorem dL_isPicture_262 : decode cL_isPicture 262 = .ok (.if_icmp .ne 33, 3) := by decide +kernel
theorem dL_isPicture_265 : decode cL_isPicture 265 = .ok (.aload_n 0, 1) := by decide +kernel
theorem dL_isPicture_266 : decode cL_isPicture 266 = .ok (.iload 13, 2) := by decide +kernel
theorem dL_isPicture_268 : decode cL_isPicture 268 = .ok (.iload 14, 2) := by decide +kernel
theorem dL_isPicture_270 : decode cL_isPicture 270 = .ok (.invokestatic 54, 3) := by decide +kernel
theorem dL_isPicture_273 : decode cL_isPicture 273 = .ok (.ifCond .eq 22, 3) := by decide +kernel
theorem dL_isPicture_276 : decode cL_isPicture 276 = .ok (.iload 12, 2) := by decide +kernel
theorem dL_isPicture_278 : decode cL_isPicture 278 = .ok (.ifCond .ne 19, 3) := by decide +kernel
theorem dL_isPicture_281 : decode cL_isPicture 281 = .ok (.iload 13, 2) := by decide +kernel
theorem dL_isPicture_283 : decode cL_isPicture 283 = .ok (.iload 9, 2) := by decide +kernel
theorem dL_isPicture_285 : decode cL_isPicture 285 = .ok (.if_icmp .ne 10, 3) := by decide +kernel
theorem dL_isPicture_288 : decode cL_isPicture 288 = .ok (.iload 14, 2) := by decide +kernel
theorem dL_isPicture_290 : decode cL_isPicture 290 = .ok (.iload 10, 2) := by decide +kernel
theorem dL_isPicture_292 : decode cL_isPicture 292 = .ok (.if_icmp .eq 5, 3) := by decide +kernel
theorem dL_isPicture_295 : decode cL_isPicture 295 = .ok (.iconst 0, 1) := by decide +kernel
theorem dL_isPicture_296 : decode cL_isPicture 296 = .ok (.ireturn, 1) := by decide +kernel
theorem dL_isPicture_297 : decode cL_isPicture 297 = .ok (.aload_n 0, 1) := by decide +kernel
theorem dL_isPicture_298 : decode cL_isPicture 298 = .ok (.iload 13, 2) := by decide +kernel
theorem dL_isPicture_300 : decode cL_isPicture 300 = .ok (.iload 14, 2) := by decide +kernel
theorem dL_isPicture_302 : decode cL_isPicture 302 = .ok (.invokevirtual 60, 3) := by decide +kernel
theorem dL_isPicture_305 : decode cL_isPicture 305 = .ok (.istore 16, 2) := by decide +kernel
theorem dL_isPicture_307 : decode cL_isPicture 307 = .ok (.iload 11, 2) := by decide +kernel
theorem dL_isPicture_309 : decode cL_isPicture 309 = .ok (.iload 16, 2) := by decide +kernel
theorem dL_isPicture_311 : decode cL_isPicture 311 = .ok (.iconst (-1), 1) := by decide +kernel
theorem dL_isPicture_312 : decode cL_isPicture 312 = .ok (.if_icmp .ne 7, 3) := by decide +kernel
theorem dL_isPicture_315 : decode cL_isPicture 315 = .ok (.iconst 0, 1) := by decide +kernel
theorem dL_isPicture_316 : decode cL_isPicture 316 = .ok (.goto 10, 3) := by decide +kernel
theorem dL_isPicture_319 : decode cL_isPicture 319 = .ok (.aload_n 0, 1) := by decide +kernel
theorem dL_isPicture_320 : decode cL_isPicture 320 = .ok (.iload 16, 2) := by decide +kernel
theorem dL_isPicture_322 : decode cL_isPicture 322 = .ok (.iconst 1, 1) := by decide +kernel
theorem dL_isPicture_323 : decode cL_isPicture 323 = .ok (.invokevirtual 63, 3) := by decide +kernel
theorem dL_isPicture_326 : decode cL_isPicture 326 = .ok (.if_icmp .ne 32, 3) := by decide +kernel
theorem dL_isPicture_329 : decode cL_isPicture 329 = .ok (.iload 16, 2) := by decide +kernel
theorem dL_isPicture_331 : decode cL_isPicture 331 = .ok (.ifCond .lt 29, 3) := by decide +kernel
theorem dL_isPicture_334 : decode cL_isPicture 334 = .ok (.aload_n 0, 1) := by decide +kernel
theorem dL_isPicture_335 : decode cL_isPicture 335 = .ok (.iload 16, 2) := by decide +kernel
theorem dL_isPicture_337 : decode cL_isPicture 337 = .ok (.iconst 3, 1) := by decide +kernel
theorem dL_isPicture_338 : decode cL_isPicture 338 = .ok (.invokevirtual 63, 3) := by decide +kernel
theorem dL_isPicture_341 : decode cL_isPicture 341 = .ok (.iload 13, 2) := by decide +kernel
theorem dL_isPicture_343 : decode cL_isPicture 343 = .ok (.if_icmp .ne 15, 3) := by decide +kernel
theorem dL_isPicture_346 : decode cL_isPicture 346 = .ok (.aload_n 0, 1) := by decide +kernel
theorem dL_isPicture_347 : decode cL_isPicture 347 = .ok (.iload 16, 2) := by decide +kernel
theorem dL_isPicture_349 : decode cL_isPicture 349 = .ok (.iconst 4, 1) := by decide +kernel
theorem dL_isPicture_350 : decode cL_isPicture 350 = .ok (.invokevirtual 63, 3) := by decide +kernel
theorem dL_isPicture_353 : decode cL_isPicture 353 = .ok (.iload 14, 2) := by decide +kernel
theorem dL_isPicture_355 : decode cL_isPicture 355 = .ok (.if_icmp .eq 5, 3) := by decide +kernel
theorem dL_isPicture_358 : decode cL_isPicture 358 = .ok (.iconst 0, 1) := by decide +kernel
theorem dL_isPicture_359 : decode cL_isPicture 359 = .ok (.ireturn, 1) := by decide +kernel
theorem dL_isPicture_360 : decode cL_isPicture 360 = .ok (.iload 7, 2) := by decide +kernel
theorem dL_isPicture_362 : decode cL_isPicture 362 = .ok (.iload 11, 2) := by decide +kernel
theorem dL_isPicture_364 : decode cL_isPicture 364 = .ok (.ifCond .ne 7, 3) := by decide +kernel
theorem dL_isPicture_367 : decode cL_isPicture 367 = .ok (.iconst 0, 1) := by decide +kernel
theorem dL_isPicture_368 : decode cL_isPicture 368 = .ok (.goto 5, 3) := by decide +kernel
theorem dL_isPicture_371 : decode cL_isPicture 371 = .ok (.iload 15, 2) := by decide +kernel
theorem dL_isPicture_373 : decode cL_isPicture 373 = .ok (.iadd, 1) := by decide +kernel
theorem dL_isPicture_374 : decode cL_isPicture 374 = .ok (.istore 7, 2) := by decide +kernel
theorem dL_isPicture_376 : decode cL_isPicture 376 = .ok (.iload 12, 2) := by decide +kernel
theorem dL_isPicture_378 : decode cL_isPicture 378 = .ok (.ifCond .le 6, 3) := by decide +kernel
theorem dL_isPicture_381 : decode cL_isPicture 381 = .ok (.goto 35, 3) := by decide +kernel
theorem dL_isPicture_384 : decode cL_isPicture 384 = .ok (.iinc 3 1, 3) := by decide +kernel
theorem dL_isPicture_387 : decode cL_isPicture 387 = .ok (.iload 5, 2) := by decide +kernel
theorem dL_isPicture_389 : decode cL_isPicture 389 = .ok (.aload_n 0, 1) := by decide +kernel
theorem dL_isPicture_390 : decode cL_isPicture 390 = .ok (.iload 9, 2) := by decide +kernel
theorem dL_isPicture_392 : decode cL_isPicture 392 = .ok (.iload 10, 2) := by decide +kernel
theorem dL_isPicture_394 : decode cL_isPicture 394 = .ok (.invokevirtual 66, 3) := by decide +kernel
theorem dL_isPicture_397 : decode cL_isPicture 397 = .ok (.iadd, 1) := by decide +kernel
theorem dL_isPicture_398 : decode cL_isPicture 398 = .ok (.istore 5, 2) := by decide +kernel
theorem dL_isPicture_400 : decode cL_isPicture 400 = .ok (.iload 6, 2) := by decide +kernel
theorem dL_isPicture_402 : decode cL_isPicture 402 = .ok (.iload 16, 2) := by decide +kernel
theorem dL_isPicture_404 : decode cL_isPicture 404 = .ok (.iconst (-1), 1) := by decide +kernel
theorem dL_isPicture_405 : decode cL_isPicture 405 = .ok (.if_icmp .ne 7, 3) := by decide +kernel
theorem dL_isPicture_408 : decode cL_isPicture 408 = .ok (.iconst 0, 1) := by decide +kernel
theorem dL_isPicture_409 : decode cL_isPicture 409 = .ok (.goto 4, 3) := by decide +kernel
theorem dL_isPicture_412 : decode cL_isPicture 412 = .ok (.iconst 1, 1) := by decide +kernel
theorem dL_isPicture_413 : decode cL_isPicture 413 = .ok (.iadd, 1) := by decide +kernel
theorem dL_isPicture_414 : decode cL_isPicture 414 = .ok (.istore 6, 2) := by decide +kernel
theorem dL_isPicture_416 : decode cL_isPicture 416 = .ok (.iinc 10 1, 3) := by decide +kernel
theorem dL_isPicture_419 : decode cL_isPicture 419 = .ok (.goto (-377), 3) := by decide +kernel
theorem dL_isPicture_422 : decode cL_isPicture 422 = .ok (.iinc 9 1, 3) := by decide +kernel
theorem dL_isPicture_425 : decode cL_isPicture 425 = .ok (.goto (-393), 3) := by decide +kernel
theorem dL_isPicture_428 : decode cL_isPicture 428 = .ok (.iload_n 2, 1) := by decide +kernel
theorem dL_isPicture_429 : decode cL_isPicture 429 = .ok (.aload_n 0, 1) := by decide +kernel
theorem dL_isPicture_430 : decode cL_isPicture 430 = .ok (.bipush 8, 2) := by decide +kernel
theorem dL_isPicture_432 : decode cL_isPicture 432 = .ok (.invokevirtual 27, 3) := by decide +kernel
theorem dL_isPicture_435 : decode cL_isPicture 435 = .ok (.if_icmp .ne 51, 3) := by decide +kernel
theorem dL_isPicture_438 : decode cL_isPicture 438 = .ok (.iload_n 3, 1) := by decide +kernel
theorem dL_isPicture_439 : decode cL_isPicture 439 = .ok (.aload_n 0, 1) := by decide +kernel
theorem dL_isPicture_440 : decode cL_isPicture 440 = .ok (.bipush 7, 2) := by decide +kernel
theorem dL_isPicture_442 : decode cL_isPicture 442 = .ok (.invokevirtual 27, 3) := by decide +kernel
theorem dL_isPicture_445 : decode cL_isPicture 445 = .ok (.if_icmp .ne 41, 3) := by decide +kernel
theorem dL_isPicture_448 : decode cL_isPicture 448 = .ok (.iload 4, 2) := by decide +kernel
theorem dL_isPicture_450 : decode cL_isPicture 450 = .ok (.aload_n 0, 1) := by decide +kernel
theorem dL_isPicture_451 : decode cL_isPicture 451 = .ok (.bipush 9, 2) := by decide +kernel
theorem dL_isPicture_453 : decode cL_isPicture 453 = .ok (.invokevirtual 27, 3) := by decide +kernel
theorem dL_isPicture_456 : decode cL_isPicture 456 = .ok (.if_icmp .ne 30, 3) := by decide +kernel
theorem dL_isPicture_459 : decode cL_isPicture 459 = .ok (.iload 5, 2) := by decide +kernel
theorem dL_isPicture_461 : decode cL_isPicture 461 = .ok (.iload 4, 2) := by decide +kernel
theorem dL_isPicture_463 : decode cL_isPicture 463 = .ok (.if_icmp .ne 23, 3) := by decide +kernel
theorem dL_isPicture_466 : decode cL_isPicture 466 = .ok (.iload 6, 2) := by decide +kernel
theorem dL_isPicture_468 : decode cL_isPicture 468 = .ok (.aload_n 0, 1) := by decide +kernel
theorem dL_isPicture_469 : decode cL_isPicture 469 = .ok (.bipush 6, 2) := by decide +kernel
theorem dL_isPicture_471 : decode cL_isPicture 471 = .ok (.invokevirtual 27, 3) := by decide +kernel
theorem dL_isPicture_474 : decode cL_isPicture 474 = .ok (.if_icmp .ne 12, 3) := by decide +kernel
theorem dL_isPicture_477 : decode cL_isPicture 477 = .ok (.iload 7, 2) := by decide +kernel
theorem dL_isPicture_479 : decode cL_isPicture 479 = .ok (.aload_n 0, 1) := by decide +kernel
theorem dL_isPicture_480 : decode cL_isPicture 480 = .ok (.invokevirtual 69, 3) := by decide +kernel
theorem dL_isPicture_483 : decode cL_isPicture 483 = .ok (.if_icmp .eq 5, 3) := by decide +kernel
theorem dL_isPicture_486 : decode cL_isPicture 486 = .ok (.iconst 0, 1) := by decide +kernel
theorem dL_isPicture_487 : decode cL_isPicture 487 = .ok (.ireturn, 1) := by decide +kernel
theorem dL_isPicture_488 : decode cL_isPicture 488 = .ok (.iconst 0, 1) := by decide +kernel
theorem dL_isPicture_489 : decode cL_isPicture 489 = .ok (.istore 9, 2) := by decide +kernel
theorem dL_isPicture_491 : decode cL_isPicture 491 = .ok (.iconst 0, 1) := by decide +kernel
theorem dL_isPicture_492 : decode cL_isPicture 492 = .ok (.istore 10, 2) := by decide +kernel
theorem dL_isPicture_494 : decode cL_isPicture 494 = .ok (.iload 10, 2) := by decide +kernel
theorem dL_isPicture_496 : decode cL_isPicture 496 = .ok (.bipush 10, 2) := by decide +kernel
theorem dL_isPicture_498 : decode cL_isPicture 498 = .ok (.if_icmp .ge 41, 3) := by decide +kernel
theorem dL_isPicture_501 : decode cL_isPicture 501 = .ok (.aload_n 0, 1) := by decide +kernel
theorem dL_isPicture_502 : decode cL_isPicture 502 = .ok (.iload 10, 2) := by decide +kernel
theorem dL_isPicture_504 : decode cL_isPicture 504 = .ok (.invokevirtual 72, 3) := by decide +kernel
theorem dL_isPicture_507 : decode cL_isPicture 507 = .ok (.aload 8, 2) := by decide +kernel
theorem dL_isPicture_509 : decode cL_isPicture 509 = .ok (.iload 10, 2) := by decide +kernel
theorem dL_isPicture_511 : decode cL_isPicture 511 = .ok (.iaload, 1) := by decide +kernel
theorem dL_isPicture_512 : decode cL_isPicture 512 = .ok (.if_icmp .eq 5, 3) := by decide +kernel
theorem dL_isPicture_515 : decode cL_isPicture 515 = .ok (.iconst 0, 1) := by decide +kernel
theorem dL_isPicture_516 : decode cL_isPicture 516 = .ok (.ireturn, 1) := by decide +kernel
theorem dL_isPicture_517 : decode cL_isPicture 517 = .ok (.iload 10, 2) := by decide +kernel
theorem dL_isPicture_519 : decode cL_isPicture 519 = .ok (.ifCond .le 14, 3) := by decide +kernel
theorem dL_isPicture_522 : decode cL_isPicture 522 = .ok (.iload 9, 2) := by decide +kernel
theorem dL_isPicture_524 : decode cL_isPicture 524 = .ok (.aload_n 0, 1) := by decide +kernel
theorem dL_isPicture_525 : decode cL_isPicture 525 = .ok (.iload 10, 2) := by decide +kernel
theorem dL_isPicture_527 : decode cL_isPicture 527 = .ok (.invokevirtual 75, 3) := by decide +kernel
theorem dL_isPicture_530 : decode cL_isPicture 530 = .ok (.iadd, 1) := by decide +kernel
theorem dL_isPicture_531 : decode cL_isPicture 531 = .ok (.istore 9, 2) := by decide +kernel
theorem dL_isPicture_533 : decode cL_isPicture 533 = .ok (.iinc 10 1, 3) := by decide +kernel
theorem dL_isPicture_536 : decode cL_isPicture 536 = .ok (.goto (-42), 3) := by decide +kernel
theorem dL_isPicture_539 : decode cL_isPicture 539 = .ok (.aload_n 0, 1) := by decide +kernel
theorem dL_isPicture_540 : decode cL_isPicture 540 = .ok (.iconst 0, 1) := by decide +kernel
theorem dL_isPicture_541 : decode cL_isPicture 541 = .ok (.invokevirtual 78, 3) := by decide +kernel
theorem dL_isPicture_544 : decode cL_isPicture 544 = .ok (.istore 10, 2) := by decide +kernel
theorem dL_isPicture_546 : decode cL_isPicture 546 = .ok (.iconst 1, 1) := by decide +kernel
theorem dL_isPicture_547 : decode cL_isPicture 547 = .ok (.istore 11, 2) := by decide +kernel
theorem dL_isPicture_549 : decode cL_isPicture 549 = .ok (.iload 11, 2) := by decide +kernel
theorem dL_isPicture_551 : decode cL_isPicture 551 = .ok (.bipush 10, 2) := by decide +kernel
theorem dL_isPicture_553 : decode cL_isPicture 553 = .ok (.if_icmp .ge 29, 3) := by decide +kernel
theorem dL_isPicture_556 : decode cL_isPicture 556 = .ok (.iload 10, 2) := by decide +kernel
theorem dL_isPicture_558 : decode cL_isPicture 558 = .ok (.ifCond .le 24, 3) := by decide +kernel
theorem dL_isPicture_561 : decode cL_isPicture 561 = .ok (.aload 8, 2) := by decide +kernel
theorem dL_isPicture_563 : decode cL_isPicture 563 = .ok (.iload 11, 2) := by decide +kernel
theorem dL_isPicture_565 : decode cL_isPicture 565 = .ok (.iaload, 1) := by decide +kernel
theorem dL_isPicture_566 : decode cL_isPicture 566 = .ok (.aload 8, 2) := by decide +kernel
theorem dL_isPicture_568 : decode cL_isPicture 568 = .ok (.iload 10, 2) := by decide +kernel
theorem dL_isPicture_570 : decode cL_isPicture 570 = .ok (.iaload, 1) := by decide +kernel
theorem dL_isPicture_571 : decode cL_isPicture 571 = .ok (.if_icmp .le 5, 3) := by decide +kernel
theorem dL_isPicture_574 : decode cL_isPicture 574 = .ok (.iconst 0, 1) := by decide +kernel
theorem dL_isPicture_575 : decode cL_isPicture 575 = .ok (.ireturn, 1) := by decide +kernel
theorem dL_isPicture_576 : decode cL_isPicture 576 = .ok (.iinc 11 1, 3) := by decide +kernel
theorem dL_isPicture_579 : decode cL_isPicture 579 = .ok (.goto (-30), 3) := by decide +kernel
theorem dL_isPicture_582 : decode cL_isPicture 582 = .ok (.iload 9, 2) := by decide +kernel
theorem dL_isPicture_584 : decode cL_isPicture 584 = .ok (.aload_n 0, 1) := by decide +kernel
theorem dL_isPicture_585 : decode cL_isPicture 585 = .ok (.iconst 0, 1) := by decide +kernel
theorem dL_isPicture_586 : decode cL_isPicture 586 = .ok (.invokevirtual 75, 3) := by decide +kernel
theorem dL_isPicture_589 : decode cL_isPicture 589 = .ok (.if_icmp .ne 31, 3) := by decide +kernel
theorem dL_isPicture_592 : decode cL_isPicture 592 = .ok (.iload 10, 2) := by decide +kernel
theorem dL_isPicture_594 : decode cL_isPicture 594 = .ok (.iconst (-1), 1) := by decide +kernel
theorem dL_isPicture_595 : decode cL_isPicture 595 = .ok (.if_icmp .ne 7, 3) := by decide +kernel
theorem dL_isPicture_598 : decode cL_isPicture 598 = .ok (.iconst 1, 1) := by decide +kernel
theorem dL_isPicture_599 : decode cL_isPicture 599 = .ok (.goto 4, 3) := by decide +kernel
theorem dL_isPicture_602 : decode cL_isPicture 602 = .ok (.iconst 0, 1) := by decide +kernel
theorem dL_isPicture_603 : decode cL_isPicture 603 = .ok (.iload 9, 2) := by decide +kernel
theorem dL_isPicture_605 : decode cL_isPicture 605 = .ok (.ifCond .ne 7, 3) := by decide +kernel
theorem dL_isPicture_608 : decode cL_isPicture 608 = .ok (.iconst 1, 1) := by decide +kernel
theorem dL_isPicture_609 : decode cL_isPicture 609 = .ok (.goto 4, 3) := by decide +kernel
theorem dL_isPicture_612 : decode cL_isPicture 612 = .ok (.iconst 0, 1) := by decide +kernel
theorem dL_isPicture_613 : decode cL_isPicture 613 = .ok (.if_icmp .ne 7, 3) := by decide +kernel
theorem dL_isPicture_616 : decode cL_isPicture 616 = .ok (.iconst 1, 1) := by decide +kernel
theorem dL_isPicture_617 : decode cL_isPicture 617 = .ok (.goto 4, 3) := by decide +kernel
theorem dL_isPicture_620 : decode cL_isPicture 620 = .ok (.iconst 0, 1) := by decide +kernel
theorem dL_isPicture_621 : decode cL_isPicture 621 = .ok (.ireturn, 1) := by decide +kernel
abbrev mL_isPicture : KM := (RL, cL_isPicture, 17, (some .boolean), { frames := 11, cells := 1, slots := 10, locals := 222 }, 1, 10)
def fL_isPicture_L613 (s0 : Int32) (s1 : Int32) (σ : Sto) : Option (Bool × Sto) :=
  if s1 = s0 then
    some (true, σ)
  else
    some (false, σ)
def fL_isPicture_L603 (v9 : Int32) (s0 : Int32) (σ : Sto) : Option (Bool × Sto) :=
  if v9 = 0 then
    fL_isPicture_L613 1 s0 σ
  else
    fL_isPicture_L613 0 s0 σ
def fL_isPicture_L582 (v9 : Int32) (v10 : Int32) (σ : Sto) : Option (Bool × Sto) :=
  (fX6_regions 0 σ).bind fun r22 =>
  if r22.1 = 0 then
    if v9 = r22.2.1 then
      if v10 = (-1) then
        fL_isPicture_L603 v9 1 r22.2.2
      else
        fL_isPicture_L603 v9 0 r22.2.2
    else
      some (false, r22.2.2)
  else none
def fL_isPicture_L549 : Nat → Int32 → Int32 → Int32 → Sto → Option (Bool × Sto)
  | 0, _, _, _, _ => none
  | fu + 1, v9, v10, v11, σ =>
    if 10 ≤ v11 then
      fL_isPicture_L582 v9 v10 σ
    else
      if v10 ≤ 0 then
        fL_isPicture_L582 v9 v10 σ
      else
        if kin v11 10 = true then
          if kin v10 10 = true then
            if (σ 134 v11.toNatClampNeg) ≤ (σ 134 v10.toNatClampNeg) then
              fL_isPicture_L549 fu v9 v10 (v11 + 1) σ
            else
              some (false, σ)
          else none
        else none
def fL_isPicture_L533 (K494 : Int32 → Int32 → Sto → Option (Bool × Sto)) (v9 : Int32) (v10 : Int32) (σ : Sto) : Option (Bool × Sto) :=
  K494 v9 (v10 + 1) σ
def fL_isPicture_L494 : Nat → Int32 → Int32 → Sto → Option (Bool × Sto)
  | 0, _, _, _ => none
  | fu + 1, v9, v10, σ =>
    if 10 ≤ v10 then
      (fX6_commonest 0 σ).bind fun r19 =>
      if r19.1 = 0 then
        fL_isPicture_L549 kFU v9 r19.2.1 1 r19.2.2
      else none
    else
      (fX6_cellsOf v10 σ).bind fun r25 =>
      if r25.1 = 0 then
        if kin v10 10 = true then
          if r25.2.1 = (r25.2.2 134 v10.toNatClampNeg) then
            if v10 ≤ 0 then
              fL_isPicture_L533 (fL_isPicture_L494 fu) v9 v10 r25.2.2
            else
              (fX6_regions v10 r25.2.2).bind fun r28 =>
              if r28.1 = 0 then
                fL_isPicture_L533 (fL_isPicture_L494 fu) (v9 + r28.2.1) v10 r28.2.2
              else none
          else
            some (false, r25.2.2)
        else none
      else none
def fL_isPicture_L416 (K32 : Int32 → Int32 → Int32 → Int32 → Int32 → Int32 → Int32 → Int32 → Sto → Option (Bool × Sto)) (K42 : Int32 → Int32 → Int32 → Int32 → Int32 → Int32 → Int32 → Int32 → Int32 → Sto → Option (Bool × Sto)) (v1 : Int32) (v2 : Int32) (v3 : Int32) (v4 : Int32) (v5 : Int32) (v6 : Int32) (v7 : Int32) (v9 : Int32) (v10 : Int32) (σ : Sto) : Option (Bool × Sto) :=
  K42 v1 v2 v3 v4 v5 v6 v7 v9 (v10 + 1) σ
def fL_isPicture_L413 (K32 : Int32 → Int32 → Int32 → Int32 → Int32 → Int32 → Int32 → Int32 → Sto → Option (Bool × Sto)) (K42 : Int32 → Int32 → Int32 → Int32 → Int32 → Int32 → Int32 → Int32 → Int32 → Sto → Option (Bool × Sto)) (v1 : Int32) (v2 : Int32) (v3 : Int32) (v4 : Int32) (v5 : Int32) (v7 : Int32) (v9 : Int32) (v10 : Int32) (s0 : Int32) (s1 : Int32) (σ : Sto) : Option (Bool × Sto) :=
  fL_isPicture_L416 K32 K42 v1 v2 v3 v4 v5 (s1 + s0) v7 v9 v10 σ
def fL_isPicture_L373 (K32 : Int32 → Int32 → Int32 → Int32 → Int32 → Int32 → Int32 → Int32 → Sto → Option (Bool × Sto)) (K42 : Int32 → Int32 → Int32 → Int32 → Int32 → Int32 → Int32 → Int32 → Int32 → Sto → Option (Bool × Sto)) (v1 : Int32) (v2 : Int32) (v3 : Int32) (v4 : Int32) (v5 : Int32) (v6 : Int32) (v9 : Int32) (v10 : Int32) (v12 : Int32) (v16 : Int32) (s0 : Int32) (s1 : Int32) (σ : Sto) : Option (Bool × Sto) :=
  if v12 ≤ 0 then
    (fX6_images v9 v10 σ).bind fun r62 =>
    if r62.1 = 0 then
      if v16 = (-1) then
        fL_isPicture_L413 K32 K42 v1 v2 (v3 + 1) v4 (v5 + r62.2.1) (s1 + s0) v9 v10 0 v6 r62.2.2
      else
        fL_isPicture_L413 K32 K42 v1 v2 (v3 + 1) v4 (v5 + r62.2.1) (s1 + s0) v9 v10 1 v6 r62.2.2
    else none
  else
    fL_isPicture_L416 K32 K42 v1 v2 v3 v4 v5 v6 (s1 + s0) v9 v10 σ
def fL_isPicture_L360 (K32 : Int32 → Int32 → Int32 → Int32 → Int32 → Int32 → Int32 → Int32 → Sto → Option (Bool × Sto)) (K42 : Int32 → Int32 → Int32 → Int32 → Int32 → Int32 → Int32 → Int32 → Int32 → Sto → Option (Bool × Sto)) (v1 : Int32) (v2 : Int32) (v3 : Int32) (v4 : Int32) (v5 : Int32) (v6 : Int32) (v7 : Int32) (v9 : Int32) (v10 : Int32) (v11 : Int32) (v12 : Int32) (v15 : Int32) (v16 : Int32) (σ : Sto) : Option (Bool × Sto) :=
  if v11 = 0 then
    fL_isPicture_L373 K32 K42 v1 v2 v3 v4 v5 v6 v9 v10 v12 v16 0 v7 σ
  else
    fL_isPicture_L373 K32 K42 v1 v2 v3 v4 v5 v6 v9 v10 v12 v16 v15 v7 σ
def fL_isPicture_L326 (K32 : Int32 → Int32 → Int32 → Int32 → Int32 → Int32 → Int32 → Int32 → Sto → Option (Bool × Sto)) (K42 : Int32 → Int32 → Int32 → Int32 → Int32 → Int32 → Int32 → Int32 → Int32 → Sto → Option (Bool × Sto)) (v1 : Int32) (v2 : Int32) (v3 : Int32) (v4 : Int32) (v5 : Int32) (v6 : Int32) (v7 : Int32) (v9 : Int32) (v10 : Int32) (v11 : Int32) (v12 : Int32) (v13 : Int32) (v14 : Int32) (v15 : Int32) (v16 : Int32) (s0 : Int32) (s1 : Int32) (σ : Sto) : Option (Bool × Sto) :=
  if s1 = s0 then
    if v16 < 0 then
      fL_isPicture_L360 K32 K42 v1 v2 v3 v4 v5 v6 v7 v9 v10 v11 v12 v15 v16 σ
    else
      (fX6_chip v16 3 σ).bind fun r65 =>
      if r65.1 = 0 then
        if r65.2 = v13 then
          (fX6_chip v16 4 σ).bind fun r68 =>
          if r68.1 = 0 then
            if r68.2 = v14 then
              fL_isPicture_L360 K32 K42 v1 v2 v3 v4 v5 v6 v7 v9 v10 v11 v12 v15 v16 σ
            else
              some (false, σ)
          else none
        else
          some (false, σ)
      else none
  else
    some (false, σ)
def fL_isPicture_L297 (K32 : Int32 → Int32 → Int32 → Int32 → Int32 → Int32 → Int32 → Int32 → Sto → Option (Bool × Sto)) (K42 : Int32 → Int32 → Int32 → Int32 → Int32 → Int32 → Int32 → Int32 → Int32 → Sto → Option (Bool × Sto)) (v1 : Int32) (v2 : Int32) (v3 : Int32) (v4 : Int32) (v5 : Int32) (v6 : Int32) (v7 : Int32) (v9 : Int32) (v10 : Int32) (v11 : Int32) (v12 : Int32) (v13 : Int32) (v14 : Int32) (v15 : Int32) (σ : Sto) : Option (Bool × Sto) :=
  (fX6_chipAt v13 v14 σ).bind fun r56 =>
  if r56.1 = 0 then
    if r56.2 = (-1) then
      fL_isPicture_L326 K32 K42 v1 v2 v3 v4 v5 v6 v7 v9 v10 v11 v12 v13 v14 v15 r56.2 0 v11 σ
    else
      (fX6_chip r56.2 1 σ).bind fun r59 =>
      if r59.1 = 0 then
        fL_isPicture_L326 K32 K42 v1 v2 v3 v4 v5 v6 v7 v9 v10 v11 v12 v13 v14 v15 r56.2 r59.2 v11 σ
      else none
  else none
def fL_isPicture_L226 (K32 : Int32 → Int32 → Int32 → Int32 → Int32 → Int32 → Int32 → Int32 → Sto → Option (Bool × Sto)) (K42 : Int32 → Int32 → Int32 → Int32 → Int32 → Int32 → Int32 → Int32 → Int32 → Sto → Option (Bool × Sto)) : Nat → Int32 → Int32 → Int32 → Int32 → Int32 → Int32 → Int32 → Int32 → Int32 → Int32 → Int32 → Int32 → Int32 → Int32 → Int32 → Sto → Option (Bool × Sto)
  | 0, _, _, _, _, _, _, _, _, _, _, _, _, _, _, _, _ => none
  | fu + 1, v1, v2, v3, v4, v5, v6, v7, v9, v10, v11, v12, v13, v14, v15, v16, σ =>
    if v12 ≤ v16 then
      (fX6_brightness v9 v10 σ).bind fun r50 =>
      if r50.1 = 0 then
        if r50.2.1 = v15 then
          (fL_isBox v13 v14 r50.2.2).bind fun r53 =>
          if r53.1 = true then
            if v12 = 0 then
              if v13 = v9 then
                if v14 = v10 then
                  fL_isPicture_L297 K32 K42 v1 v2 v3 v4 v5 v6 v7 v9 v10 v11 v12 v13 v14 v15 r53.2
                else
                  some (false, r53.2)
              else
                some (false, r53.2)
            else
              fL_isPicture_L297 K32 K42 v1 v2 v3 v4 v5 v6 v7 v9 v10 v11 v12 v13 v14 v15 r53.2
          else
            some (false, r53.2)
        else
          some (false, r50.2.2)
      else none
    else
      (fX6_count 3 σ).bind fun r71 =>
      if r71.1 = 0 then
        fL_isPicture_L226 K32 K42 fu v1 v2 v3 v4 v5 v6 v7 v9 v10 v11 v12 v13 v14 ((v15 * r71.2.1) / 100) (v16 + 1) r71.2.2
      else none
def fL_isPicture_L186 (K32 : Int32 → Int32 → Int32 → Int32 → Int32 → Int32 → Int32 → Int32 → Sto → Option (Bool × Sto)) (K42 : Int32 → Int32 → Int32 → Int32 → Int32 → Int32 → Int32 → Int32 → Int32 → Sto → Option (Bool × Sto)) (v1 : Int32) (v2 : Int32) (v3 : Int32) (v4 : Int32) (v5 : Int32) (v6 : Int32) (v7 : Int32) (v9 : Int32) (v10 : Int32) (v11 : Int32) (v12 : Int32) (v13 : Int32) (v14 : Int32) (s0 : Int32) (s1 : Int32) (σ : Sto) : Option (Bool × Sto) :=
  if s1 = s0 then
    if v12 = (-1) then
      if v11 = 0 then
        (fX6_brightness v9 v10 σ).bind fun r74 =>
        if r74.1 = 0 then
          if r74.2.1 = 0 then
            fL_isPicture_L416 K32 K42 v1 v2 v3 v4 v5 v6 v7 v9 v10 r74.2.2
          else
            some (false, r74.2.2)
        else none
      else
        some (false, σ)
    else
      fL_isPicture_L226 K32 K42 kFU v1 v2 v3 (v4 + 1) v5 v6 v7 v9 v10 v11 v12 v13 v14 1000 0 σ
  else
    some (false, σ)
def fL_isPicture_L174 (K32 : Int32 → Int32 → Int32 → Int32 → Int32 → Int32 → Int32 → Int32 → Sto → Option (Bool × Sto)) (K42 : Int32 → Int32 → Int32 → Int32 → Int32 → Int32 → Int32 → Int32 → Int32 → Sto → Option (Bool × Sto)) (v1 : Int32) (v2 : Int32) (v3 : Int32) (v4 : Int32) (v5 : Int32) (v6 : Int32) (v7 : Int32) (v9 : Int32) (v10 : Int32) (v11 : Int32) (v12 : Int32) (v13 : Int32) (v14 : Int32) (s0 : Int32) (σ : Sto) : Option (Bool × Sto) :=
  if v14 = (-100) then
    fL_isPicture_L186 K32 K42 v1 v2 v3 v4 v5 v6 v7 v9 v10 v11 v12 v13 v14 1 s0 σ
  else
    fL_isPicture_L186 K32 K42 v1 v2 v3 v4 v5 v6 v7 v9 v10 v11 v12 v13 v14 0 s0 σ
def fL_isPicture_L160 (K32 : Int32 → Int32 → Int32 → Int32 → Int32 → Int32 → Int32 → Int32 → Sto → Option (Bool × Sto)) (K42 : Int32 → Int32 → Int32 → Int32 → Int32 → Int32 → Int32 → Int32 → Int32 → Sto → Option (Bool × Sto)) (v1 : Int32) (v2 : Int32) (v3 : Int32) (v4 : Int32) (v5 : Int32) (v6 : Int32) (v7 : Int32) (v9 : Int32) (v10 : Int32) (v11 : Int32) (v12 : Int32) (v13 : Int32) (v14 : Int32) (s0 : Int32) (s1 : Int32) (σ : Sto) : Option (Bool × Sto) :=
  if s1 = s0 then
    if v12 = (-1) then
      fL_isPicture_L174 K32 K42 v1 v2 v3 v4 v5 v6 v7 v9 v10 v11 v12 v13 v14 1 σ
    else
      fL_isPicture_L174 K32 K42 v1 v2 v3 v4 v5 v6 v7 v9 v10 v11 v12 v13 v14 0 σ
  else
    some (false, σ)
def fL_isPicture_L148 (K32 : Int32 → Int32 → Int32 → Int32 → Int32 → Int32 → Int32 → Int32 → Sto → Option (Bool × Sto)) (K42 : Int32 → Int32 → Int32 → Int32 → Int32 → Int32 → Int32 → Int32 → Int32 → Sto → Option (Bool × Sto)) (v1 : Int32) (v2 : Int32) (v3 : Int32) (v4 : Int32) (v5 : Int32) (v6 : Int32) (v7 : Int32) (v9 : Int32) (v10 : Int32) (v11 : Int32) (v12 : Int32) (v13 : Int32) (v14 : Int32) (s0 : Int32) (σ : Sto) : Option (Bool × Sto) :=
  if v13 = (-100) then
    fL_isPicture_L160 K32 K42 v1 v2 v3 v4 v5 v6 v7 v9 v10 v11 v12 v13 v14 1 s0 σ
  else
    fL_isPicture_L160 K32 K42 v1 v2 v3 v4 v5 v6 v7 v9 v10 v11 v12 v13 v14 0 s0 σ
def fL_isPicture_L126 (K32 : Int32 → Int32 → Int32 → Int32 → Int32 → Int32 → Int32 → Int32 → Sto → Option (Bool × Sto)) (K42 : Int32 → Int32 → Int32 → Int32 → Int32 → Int32 → Int32 → Int32 → Int32 → Sto → Option (Bool × Sto)) (v1 : Int32) (v2 : Int32) (v3 : Int32) (v4 : Int32) (v5 : Int32) (v6 : Int32) (v7 : Int32) (v9 : Int32) (v10 : Int32) (v11 : Int32) (v12 : Int32) (v13 : Int32) (v14 : Int32) (s0 : Int32) (σ : Sto) : Option (Bool × Sto) :=
  (fL_isBox v9 v10 σ).bind fun r47 =>
  if s0 = (kb r47.1) then
    if v12 = (-1) then
      fL_isPicture_L148 K32 K42 v1 v2 v3 v4 v5 v6 v7 v9 v10 v11 v12 v13 v14 1 r47.2
    else
      fL_isPicture_L148 K32 K42 v1 v2 v3 v4 v5 v6 v7 v9 v10 v11 v12 v13 v14 0 r47.2
  else
    some (false, r47.2)
def fL_isPicture_L42 (K32 : Int32 → Int32 → Int32 → Int32 → Int32 → Int32 → Int32 → Int32 → Sto → Option (Bool × Sto)) : Nat → Int32 → Int32 → Int32 → Int32 → Int32 → Int32 → Int32 → Int32 → Int32 → Sto → Option (Bool × Sto)
  | 0, _, _, _, _, _, _, _, _, _, _ => none
  | fu + 1, v1, v2, v3, v4, v5, v6, v7, v9, v10, σ =>
    if v1 < v10 then
      K32 v1 v2 v3 v4 v5 v6 v7 (v9 + 1) σ
    else
      (fL_isNear v9 v10 σ).bind fun r31 =>
      if r31.1 = true then
        (fX6_colour v9 v10 r31.2).bind fun r34 =>
        if r34.1 = 0 then
          if kin r34.2.1 10 = true then
            if kin r34.2.1 10 = true then
              klet (su r34.2.2 134 r34.2.1.toNatClampNeg ((r34.2.2 134 r34.2.1.toNatClampNeg) + 1)) fun σ37 =>
              (fX6_reflections v9 v10 σ37).bind fun r38 =>
              if r38.1 = 0 then
                (fX6_source v9 v10 0 r38.2.2).bind fun r41 =>
                if r41.1 = 0 then
                  (fX6_source v9 v10 1 r41.2.2).bind fun r44 =>
                  if r44.1 = 0 then
                    if r38.2.1 = 0 then
                      fL_isPicture_L126 K32 (fL_isPicture_L42 K32 fu) v1 (v2 + 1) v3 v4 v5 v6 v7 v9 v10 r34.2.1 r38.2.1 r41.2.1 r44.2.1 1 r44.2.2
                    else
                      fL_isPicture_L126 K32 (fL_isPicture_L42 K32 fu) v1 (v2 + 1) v3 v4 v5 v6 v7 v9 v10 r34.2.1 r38.2.1 r41.2.1 r44.2.1 0 r44.2.2
                  else none
                else none
              else none
            else none
          else none
        else none
      else
        fL_isPicture_L416 K32 (fL_isPicture_L42 K32 fu) v1 v2 v3 v4 v5 v6 v7 v9 v10 r31.2
def fL_isPicture_L32 : Nat → Int32 → Int32 → Int32 → Int32 → Int32 → Int32 → Int32 → Int32 → Sto → Option (Bool × Sto)
  | 0, _, _, _, _, _, _, _, _, _ => none
  | fu + 1, v1, v2, v3, v4, v5, v6, v7, v9, σ =>
    if v1 < v9 then
      (fX6_count 8 σ).bind fun r4 =>
      if r4.1 = 0 then
        if v2 = r4.2.1 then
          (fX6_count 7 r4.2.2).bind fun r7 =>
          if r7.1 = 0 then
            if v3 = r7.2.1 then
              (fX6_count 9 r7.2.2).bind fun r10 =>
              if r10.1 = 0 then
                if v4 = r10.2.1 then
                  if v5 = v4 then
                    (fX6_count 6 r10.2.2).bind fun r13 =>
                    if r13.1 = 0 then
                      if v6 = r13.2.1 then
                        (fX6_light r13.2.2).bind fun r16 =>
                        if v7 = r16.1 then
                          fL_isPicture_L494 kFU 0 0 r16.2
                        else
                          some (false, r16.2)
                      else
                        some (false, r13.2.2)
                    else none
                  else
                    some (false, r10.2.2)
                else
                  some (false, r10.2.2)
              else none
            else
              some (false, r7.2.2)
          else none
        else
          some (false, r4.2.2)
      else none
    else
      fL_isPicture_L42 (fL_isPicture_L32 fu) kFU v1 v2 v3 v4 v5 v6 v7 v9 (-v1) σ
def fL_isPicture_L28 (v1 : Int32) (v2 : Int32) (v3 : Int32) (v4 : Int32) (v5 : Int32) (v6 : Int32) (v7 : Int32) (σ : Sto) : Option (Bool × Sto) :=
  fL_isPicture_L32 kFU v1 v2 v3 v4 v5 v6 v7 (-v1) σ
def fL_isPicture (σ : Sto) : Option (Bool × Sto) :=
  (fX6_count 1 σ).bind fun r1 =>
  if r1.1 = 0 then
    fL_isPicture_L28 r1.2.1 0 0 0 0 0 0 (sur r1.2.2 134 (fun _ => 0))
  else none
set_option maxHeartbeats 4000000 in
set_option maxRecDepth 100000 in
theorem wL_isPicture_L613 (sh : KSh) (hk : KAG sh) (l : Launch) (hst : l.stackTraces = false) (h8 : sh 134 = .inr (0, 10)) : ∀ (s0 : Int32), ∀ (s1 : Int32), ∀ (σ : Sto), ∀ (r : (Bool × Sto)), fL_isPicture_L613 s0 s1 σ = some r → VV sh l mL_isPicture 1 10 613 [] [.int s0, .int s1] σ (0, .int (kb r.1), r.2) := by
  intro s0 s1 σ r h
  rw [fL_isPicture_L613] at h
  refine kv_icmp_ne (pc := 613) (tgt := 620) dL_isPicture_613 (by decide) h (fun h => ?_) (fun h => ?_)
  · refine kv_iconst (pc := 620) (v := 0) dL_isPicture_620 (by decide) ?_
    exact kv_zret (pc := 621) dL_isPicture_621 rfl rfl (by cases h; rfl) (by decide) (by decide)
  · refine kv_iconst (pc := 616) (v := 1) dL_isPicture_616 (by decide) ?_
    refine kv_goto (pc := 617) (tgt := 621) dL_isPicture_617 (by decide) ?_
    exact kv_zret (pc := 621) dL_isPicture_621 rfl rfl (by cases h; rfl) (by decide) (by decide)
set_option maxHeartbeats 4000000 in
set_option maxRecDepth 100000 in
theorem wL_isPicture_L603 (sh : KSh) (hk : KAG sh) (l : Launch) (hst : l.stackTraces = false) (h8 : sh 134 = .inr (0, 10)) : ∀ (v9 : Int32), ∀ (s0 : Int32), ∀ (σ : Sto), ∀ (r : (Bool × Sto)), fL_isPicture_L603 v9 s0 σ = some r → VV sh l mL_isPicture 1 10 603 [(9, .int v9)] [.int s0] σ (0, .int (kb r.1), r.2) := by
  intro v9 s0 σ r h
  rw [fL_isPicture_L603] at h
  refine kv_iload (pc := 603) 0 dL_isPicture_603 rfl ?_
  refine kv_if_ne (pc := 605) (tgt := 612) dL_isPicture_605 (by decide) h (fun h => ?_) (fun h => ?_)
  · refine kv_iconst (pc := 612) (v := 0) dL_isPicture_612 (by decide) ?_
    refine kv_sub (pc := 613) [] [] rfl ?_
    exact wL_isPicture_L613 sh hk l hst h8 0 s0 σ r h
  · refine kv_iconst (pc := 608) (v := 1) dL_isPicture_608 (by decide) ?_
    refine kv_goto (pc := 609) (tgt := 613) dL_isPicture_609 (by decide) ?_
    refine kv_sub (pc := 613) [] [] rfl ?_
    exact wL_isPicture_L613 sh hk l hst h8 1 s0 σ r h
set_option maxHeartbeats 4000000 in
set_option maxRecDepth 100000 in
theorem wL_isPicture_L582 (sh : KSh) (hk : KAG sh) (l : Launch) (hst : l.stackTraces = false) (h8 : sh 134 = .inr (0, 10)) : ∀ (v9 : Int32), ∀ (v10 : Int32), ∀ (σ : Sto), ∀ (r : (Bool × Sto)), fL_isPicture_L582 v9 v10 σ = some r → VV sh l mL_isPicture 1 10 582 [(0, .ref 0), (9, .int v9), (10, .int v10)] [] σ (0, .int (kb r.1), r.2) := by
  intro v9 v10 σ r h
  rw [fL_isPicture_L582] at h
  refine kv_iload (pc := 582) 1 dL_isPicture_582 rfl ?_
  refine kv_aload_n (pc := 584) 0 dL_isPicture_584 rfl rfl ?_
  refine kv_iconst (pc := 585) (v := 0) dL_isPicture_585 (by decide) ?_
  refine kv_cVn (pc := 586) [.int 0] (fun r22 => (r22.1, .int r22.2.1, r22.2.2)) (fun r22 => (.int r22.2.1 :: [.int v9])) (fun r22 => r22.2.2) 589 1 10 h (fun r22 g23 hnt => tX6_regions sh hk l hst 0 σ r22 g23 hnt) dL_isPicture_586 rfl (ks_0 hk) rfl yw_X6_regions lk_L_75 (by decide) (Nat.le_of_ble_eq_true rfl) (by decide) (fun _ => rfl) (fun _ => rfl) ⟨rfl, rfl, rfl⟩ (fun r h => Decidable.byContradiction (fun h9 => by rw [if_neg h9] at h; cases h)) (fun r22 g23 z24 h => ?_)
  rw [if_pos z24] at h
  refine kv_icmp_ne (pc := 589) (tgt := 620) dL_isPicture_589 (by decide) h (fun h => ?_) (fun h => ?_)
  · refine kv_iconst (pc := 620) (v := 0) dL_isPicture_620 (by decide) ?_
    exact kv_zret (pc := 621) dL_isPicture_621 rfl rfl (by cases h; rfl) (by decide) (by decide)
  · refine kv_iload (pc := 592) 2 dL_isPicture_592 rfl ?_
    refine kv_iconst (pc := 594) (v := (-1)) dL_isPicture_594 (by decide) ?_
    refine kv_icmp_ne (pc := 595) (tgt := 602) dL_isPicture_595 (by decide) h (fun h => ?_) (fun h => ?_)
    · refine kv_iconst (pc := 602) (v := 0) dL_isPicture_602 (by decide) ?_
      refine kv_sub (pc := 603) [(9, .int v9)] [1] rfl ?_
      exact wL_isPicture_L603 sh hk l hst h8 v9 0 r22.2.2 r h
    · refine kv_iconst (pc := 598) (v := 1) dL_isPicture_598 (by decide) ?_
      refine kv_goto (pc := 599) (tgt := 603) dL_isPicture_599 (by decide) ?_
      refine kv_sub (pc := 603) [(9, .int v9)] [1] rfl ?_
      exact wL_isPicture_L603 sh hk l hst h8 v9 1 r22.2.2 r h
set_option maxHeartbeats 4000000 in
set_option maxRecDepth 100000 in
theorem wL_isPicture_L549 (sh : KSh) (hk : KAG sh) (l : Launch) (hst : l.stackTraces = false) (h8 : sh 134 = .inr (0, 10)) : ∀ (fu : Nat), ∀ (v9 : Int32), ∀ (v10 : Int32), ∀ (v11 : Int32), ∀ (σ : Sto), ∀ (r : (Bool × Sto)), fL_isPicture_L549 fu v9 v10 v11 σ = some r → VV sh l mL_isPicture 1 10 549 [(0, .ref 0), (8, .ref 134), (9, .int v9), (10, .int v10), (11, .int v11)] [] σ (0, .int (kb r.1), r.2) := by
  intro fu
  induction fu with
  | zero => intro v9 v10 v11 σ r h; rw [fL_isPicture_L549] at h; cases h
  | succ fu ih =>
    intro v9 v10 v11 σ r h
    rw [fL_isPicture_L549] at h
    refine kv_iload (pc := 549) 4 dL_isPicture_549 rfl ?_
    refine kv_bipush (pc := 551) (v := 10) dL_isPicture_551 (by decide) ?_
    refine kv_icmp_ge (pc := 553) (tgt := 582) dL_isPicture_553 (by decide) h (fun h => ?_) (fun h => ?_)
    · refine kv_sub (pc := 582) [(0, .ref 0), (9, .int v9), (10, .int v10)] [0, 2, 3] rfl ?_
      exact wL_isPicture_L582 sh hk l hst h8 v9 v10 σ r h
    · refine kv_iload (pc := 556) 3 dL_isPicture_556 rfl ?_
      refine kv_if_le (pc := 558) (tgt := 582) dL_isPicture_558 (by decide) h (fun h => ?_) (fun h => ?_)
      · refine kv_sub (pc := 582) [(0, .ref 0), (9, .int v9), (10, .int v10)] [0, 2, 3] rfl ?_
        exact wL_isPicture_L582 sh hk l hst h8 v9 v10 σ r h
      · refine kv_aload (pc := 561) 1 dL_isPicture_561 rfl ?_
        refine kv_iload (pc := 563) 4 dL_isPicture_563 rfl ?_
        refine kv_iald (pc := 565) dL_isPicture_565 h8 h (fun h => ?_)
        refine kv_aload (pc := 566) 1 dL_isPicture_566 rfl ?_
        refine kv_iload (pc := 568) 3 dL_isPicture_568 rfl ?_
        refine kv_iald (pc := 570) dL_isPicture_570 h8 h (fun h => ?_)
        refine kv_icmp_le (pc := 571) (tgt := 576) dL_isPicture_571 (by decide) h (fun h => ?_) (fun h => ?_)
        · refine kv_iinc (pc := 576) (v := v11 + 1) 4 [(11, .int (v11 + 1)), (0, .ref 0), (8, .ref 134), (9, .int v9), (10, .int v10)] dL_isPicture_576 rfl rfl (by decide) rfl ?_
          refine kv_goto (pc := 579) (tgt := 549) dL_isPicture_579 (by decide) ?_
          refine kv_sub (pc := 549) [(0, .ref 0), (8, .ref 134), (9, .int v9), (10, .int v10), (11, .int (v11 + 1))] [1, 2, 3, 4, 0] rfl ?_
          exact ih v9 v10 (v11 + 1) σ r h
        · refine kv_iconst (pc := 574) (v := 0) dL_isPicture_574 (by decide) ?_
          exact kv_zret (pc := 575) dL_isPicture_575 rfl rfl (by cases h; rfl) (by decide) (by decide)
set_option maxHeartbeats 4000000 in
set_option maxRecDepth 100000 in
theorem wL_isPicture_L533 (sh : KSh) (hk : KAG sh) (l : Launch) (hst : l.stackTraces = false) (h8 : sh 134 = .inr (0, 10)) (K494 : Int32 → Int32 → Sto → Option (Bool × Sto)) (hK494 : ∀ (v9 : Int32), ∀ (v10 : Int32), ∀ (σ : Sto), ∀ (r : (Bool × Sto)), K494 v9 v10 σ = some r → VV sh l mL_isPicture 1 10 494 [(0, .ref 0), (8, .ref 134), (9, .int v9), (10, .int v10)] [] σ (0, .int (kb r.1), r.2)) : ∀ (v9 : Int32), ∀ (v10 : Int32), ∀ (σ : Sto), ∀ (r : (Bool × Sto)), fL_isPicture_L533 K494 v9 v10 σ = some r → VV sh l mL_isPicture 1 10 533 [(0, .ref 0), (8, .ref 134), (9, .int v9), (10, .int v10)] [] σ (0, .int (kb r.1), r.2) := by
  intro v9 v10 σ r h
  rw [fL_isPicture_L533] at h
  refine kv_iinc (pc := 533) (v := v10 + 1) 3 [(10, .int (v10 + 1)), (0, .ref 0), (8, .ref 134), (9, .int v9)] dL_isPicture_533 rfl rfl (by decide) rfl ?_
  refine kv_goto (pc := 536) (tgt := 494) dL_isPicture_536 (by decide) ?_
  refine kv_sub (pc := 494) [(0, .ref 0), (8, .ref 134), (9, .int v9), (10, .int (v10 + 1))] [1, 2, 3, 0] rfl ?_
  exact hK494 v9 (v10 + 1) σ r h
set_option maxHeartbeats 4000000 in
set_option maxRecDepth 100000 in
theorem wL_isPicture_L494 (sh : KSh) (hk : KAG sh) (l : Launch) (hst : l.stackTraces = false) (h8 : sh 134 = .inr (0, 10)) : ∀ (fu : Nat), ∀ (v9 : Int32), ∀ (v10 : Int32), ∀ (σ : Sto), ∀ (r : (Bool × Sto)), fL_isPicture_L494 fu v9 v10 σ = some r → VV sh l mL_isPicture 1 10 494 [(0, .ref 0), (8, .ref 134), (9, .int v9), (10, .int v10)] [] σ (0, .int (kb r.1), r.2) := by
  intro fu
  induction fu with
  | zero => intro v9 v10 σ r h; rw [fL_isPicture_L494] at h; cases h
  | succ fu ih =>
    intro v9 v10 σ r h
    rw [fL_isPicture_L494] at h
    refine kv_iload (pc := 494) 3 dL_isPicture_494 rfl ?_
    refine kv_bipush (pc := 496) (v := 10) dL_isPicture_496 (by decide) ?_
    refine kv_icmp_ge (pc := 498) (tgt := 539) dL_isPicture_498 (by decide) h (fun h => ?_) (fun h => ?_)
    · refine kv_aload_n (pc := 539) 0 dL_isPicture_539 rfl rfl ?_
      refine kv_iconst (pc := 540) (v := 0) dL_isPicture_540 (by decide) ?_
      refine kv_cVn (pc := 541) [.int 0] (fun r19 => (r19.1, .int r19.2.1, r19.2.2)) (fun r19 => (.int r19.2.1 :: [])) (fun r19 => r19.2.2) 544 1 10 h (fun r19 g20 hnt => tX6_commonest sh hk l hst 0 σ r19 g20 hnt) dL_isPicture_541 rfl (ks_0 hk) rfl yw_X6_commonest lk_L_78 (by decide) (Nat.le_of_ble_eq_true rfl) (by decide) (fun _ => rfl) (fun _ => rfl) ⟨rfl, rfl, rfl⟩ (fun r h => Decidable.byContradiction (fun h9 => by rw [if_neg h9] at h; cases h)) (fun r19 g20 z21 h => ?_)
      rw [if_pos z21] at h
      refine kv_istore (pc := 544) [(10, .int r19.2.1), (0, .ref 0), (8, .ref 134), (9, .int v9)] dL_isPicture_544 (by decide) rfl ?_
      refine kv_iconst (pc := 546) (v := 1) dL_isPicture_546 (by decide) ?_
      refine kv_istore (pc := 547) [(11, .int 1), (10, .int r19.2.1), (0, .ref 0), (8, .ref 134), (9, .int v9)] dL_isPicture_547 (by decide) rfl ?_
      refine kv_sub (pc := 549) [(0, .ref 0), (8, .ref 134), (9, .int v9), (10, .int r19.2.1), (11, .int 1)] [2, 3, 4, 1, 0] rfl ?_
      exact wL_isPicture_L549 sh hk l hst h8 kFU v9 r19.2.1 1 r19.2.2 r h
    · refine kv_aload_n (pc := 501) 0 dL_isPicture_501 rfl rfl ?_
      refine kv_iload (pc := 502) 3 dL_isPicture_502 rfl ?_
      refine kv_cVn (pc := 504) [.int v10] (fun r25 => (r25.1, .int r25.2.1, r25.2.2)) (fun r25 => (.int r25.2.1 :: [])) (fun r25 => r25.2.2) 507 1 10 h (fun r25 g26 hnt => tX6_cellsOf sh hk l hst v10 σ r25 g26 hnt) dL_isPicture_504 rfl (ks_0 hk) rfl yw_X6_cellsOf lk_L_72 (by decide) (Nat.le_of_ble_eq_true rfl) (by decide) (fun _ => rfl) (fun _ => rfl) ⟨rfl, rfl, rfl⟩ (fun r h => Decidable.byContradiction (fun h9 => by rw [if_neg h9] at h; cases h)) (fun r25 g26 z27 h => ?_)
      rw [if_pos z27] at h
      refine kv_aload (pc := 507) 1 dL_isPicture_507 rfl ?_
      refine kv_iload (pc := 509) 3 dL_isPicture_509 rfl ?_
      refine kv_iald (pc := 511) dL_isPicture_511 h8 h (fun h => ?_)
      refine kv_icmp_eq (pc := 512) (tgt := 517) dL_isPicture_512 (by decide) h (fun h => ?_) (fun h => ?_)
      · refine kv_iload (pc := 517) 3 dL_isPicture_517 rfl ?_
        refine kv_if_le (pc := 519) (tgt := 533) dL_isPicture_519 (by decide) h (fun h => ?_) (fun h => ?_)
        · refine kv_sub (pc := 533) [(0, .ref 0), (8, .ref 134), (9, .int v9), (10, .int v10)] [0, 1, 2, 3] rfl ?_
          exact wL_isPicture_L533 sh hk l hst h8 (fL_isPicture_L494 fu) ih v9 v10 r25.2.2 r h
        · refine kv_iload (pc := 522) 2 dL_isPicture_522 rfl ?_
          refine kv_aload_n (pc := 524) 0 dL_isPicture_524 rfl rfl ?_
          refine kv_iload (pc := 525) 3 dL_isPicture_525 rfl ?_
          refine kv_cVn (pc := 527) [.int v10] (fun r28 => (r28.1, .int r28.2.1, r28.2.2)) (fun r28 => (.int r28.2.1 :: [.int v9])) (fun r28 => r28.2.2) 530 1 10 h (fun r28 g29 hnt => tX6_regions sh hk l hst v10 r25.2.2 r28 g29 hnt) dL_isPicture_527 rfl (ks_0 hk) rfl yw_X6_regions lk_L_75 (by decide) (Nat.le_of_ble_eq_true rfl) (by decide) (fun _ => rfl) (fun _ => rfl) ⟨rfl, rfl, rfl⟩ (fun r h => Decidable.byContradiction (fun h9 => by rw [if_neg h9] at h; cases h)) (fun r28 g29 z30 h => ?_)
          rw [if_pos z30] at h
          refine kv_iadd (pc := 530) dL_isPicture_530 ?_
          refine kv_istore (pc := 531) [(9, .int (v9 + r28.2.1)), (0, .ref 0), (8, .ref 134), (10, .int v10)] dL_isPicture_531 (by decide) rfl ?_
          refine kv_sub (pc := 533) [(0, .ref 0), (8, .ref 134), (9, .int (v9 + r28.2.1)), (10, .int v10)] [1, 2, 0, 3] rfl ?_
          exact wL_isPicture_L533 sh hk l hst h8 (fL_isPicture_L494 fu) ih (v9 + r28.2.1) v10 r28.2.2 r h
      · refine kv_iconst (pc := 515) (v := 0) dL_isPicture_515 (by decide) ?_
        exact kv_zret (pc := 516) dL_isPicture_516 rfl rfl (by cases h; rfl) (by decide) (by decide)
set_option maxHeartbeats 4000000 in
set_option maxRecDepth 100000 in
theorem wL_isPicture_L416 (sh : KSh) (hk : KAG sh) (l : Launch) (hst : l.stackTraces = false) (h8 : sh 134 = .inr (0, 10)) (K32 : Int32 → Int32 → Int32 → Int32 → Int32 → Int32 → Int32 → Int32 → Sto → Option (Bool × Sto)) (hK32 : ∀ (v1 : Int32), ∀ (v2 : Int32), ∀ (v3 : Int32), ∀ (v4 : Int32), ∀ (v5 : Int32), ∀ (v6 : Int32), ∀ (v7 : Int32), ∀ (v9 : Int32), ∀ (σ : Sto), ∀ (r : (Bool × Sto)), K32 v1 v2 v3 v4 v5 v6 v7 v9 σ = some r → VV sh l mL_isPicture 1 10 32 [(0, .ref 0), (1, .int v1), (2, .int v2), (3, .int v3), (4, .int v4), (5, .int v5), (6, .int v6), (7, .int v7), (8, .ref 134), (9, .int v9)] [] σ (0, .int (kb r.1), r.2)) (K42 : Int32 → Int32 → Int32 → Int32 → Int32 → Int32 → Int32 → Int32 → Int32 → Sto → Option (Bool × Sto)) (hK42 : ∀ (v1 : Int32), ∀ (v2 : Int32), ∀ (v3 : Int32), ∀ (v4 : Int32), ∀ (v5 : Int32), ∀ (v6 : Int32), ∀ (v7 : Int32), ∀ (v9 : Int32), ∀ (v10 : Int32), ∀ (σ : Sto), ∀ (r : (Bool × Sto)), K42 v1 v2 v3 v4 v5 v6 v7 v9 v10 σ = some r → VV sh l mL_isPicture 1 10 42 [(0, .ref 0), (1, .int v1), (2, .int v2), (3, .int v3), (4, .int v4), (5, .int v5), (6, .int v6), (7, .int v7), (8, .ref 134), (9, .int v9), (10, .int v10)] [] σ (0, .int (kb r.1), r.2)) : ∀ (v1 : Int32), ∀ (v2 : Int32), ∀ (v3 : Int32), ∀ (v4 : Int32), ∀ (v5 : Int32), ∀ (v6 : Int32), ∀ (v7 : Int32), ∀ (v9 : Int32), ∀ (v10 : Int32), ∀ (σ : Sto), ∀ (r : (Bool × Sto)), fL_isPicture_L416 K32 K42 v1 v2 v3 v4 v5 v6 v7 v9 v10 σ = some r → VV sh l mL_isPicture 1 10 416 [(0, .ref 0), (1, .int v1), (2, .int v2), (3, .int v3), (4, .int v4), (5, .int v5), (6, .int v6), (7, .int v7), (8, .ref 134), (9, .int v9), (10, .int v10)] [] σ (0, .int (kb r.1), r.2) := by
  intro v1 v2 v3 v4 v5 v6 v7 v9 v10 σ r h
  rw [fL_isPicture_L416] at h
  refine kv_iinc (pc := 416) (v := v10 + 1) 10 [(10, .int (v10 + 1)), (0, .ref 0), (1, .int v1), (2, .int v2), (3, .int v3), (4, .int v4), (5, .int v5), (6, .int v6), (7, .int v7), (8, .ref 134), (9, .int v9)] dL_isPicture_416 rfl rfl (by decide) rfl ?_
  refine kv_goto (pc := 419) (tgt := 42) dL_isPicture_419 (by decide) ?_
  refine kv_sub (pc := 42) [(0, .ref 0), (1, .int v1), (2, .int v2), (3, .int v3), (4, .int v4), (5, .int v5), (6, .int v6), (7, .int v7), (8, .ref 134), (9, .int v9), (10, .int (v10 + 1))] [1, 2, 3, 4, 5, 6, 7, 8, 9, 10, 0] rfl ?_
  exact hK42 v1 v2 v3 v4 v5 v6 v7 v9 (v10 + 1) σ r h
set_option maxHeartbeats 4000000 in
set_option maxRecDepth 100000 in
theorem wL_isPicture_L413 (sh : KSh) (hk : KAG sh) (l : Launch) (hst : l.stackTraces = false) (h8 : sh 134 = .inr (0, 10)) (K32 : Int32 → Int32 → Int32 → Int32 → Int32 → Int32 → Int32 → Int32 → Sto → Option (Bool × Sto)) (hK32 : ∀ (v1 : Int32), ∀ (v2 : Int32), ∀ (v3 : Int32), ∀ (v4 : Int32), ∀ (v5 : Int32), ∀ (v6 : Int32), ∀ (v7 : Int32), ∀ (v9 : Int32), ∀ (σ : Sto), ∀ (r : (Bool × Sto)), K32 v1 v2 v3 v4 v5 v6 v7 v9 σ = some r → VV sh l mL_isPicture 1 10 32 [(0, .ref 0), (1, .int v1), (2, .int v2), (3, .int v3), (4, .int v4), (5, .int v5), (6, .int v6), (7, .int v7), (8, .ref 134), (9, .int v9)] [] σ (0, .int (kb r.1), r.2)) (K42 : Int32 → Int32 → Int32 → Int32 → Int32 → Int32 → Int32 → Int32 → Int32 → Sto → Option (Bool × Sto)) (hK42 : ∀ (v1 : Int32), ∀ (v2 : Int32), ∀ (v3 : Int32), ∀ (v4 : Int32), ∀ (v5 : Int32), ∀ (v6 : Int32), ∀ (v7 : Int32), ∀ (v9 : Int32), ∀ (v10 : Int32), ∀ (σ : Sto), ∀ (r : (Bool × Sto)), K42 v1 v2 v3 v4 v5 v6 v7 v9 v10 σ = some r → VV sh l mL_isPicture 1 10 42 [(0, .ref 0), (1, .int v1), (2, .int v2), (3, .int v3), (4, .int v4), (5, .int v5), (6, .int v6), (7, .int v7), (8, .ref 134), (9, .int v9), (10, .int v10)] [] σ (0, .int (kb r.1), r.2)) : ∀ (v1 : Int32), ∀ (v2 : Int32), ∀ (v3 : Int32), ∀ (v4 : Int32), ∀ (v5 : Int32), ∀ (v7 : Int32), ∀ (v9 : Int32), ∀ (v10 : Int32), ∀ (s0 : Int32), ∀ (s1 : Int32), ∀ (σ : Sto), ∀ (r : (Bool × Sto)), fL_isPicture_L413 K32 K42 v1 v2 v3 v4 v5 v7 v9 v10 s0 s1 σ = some r → VV sh l mL_isPicture 1 10 413 [(0, .ref 0), (1, .int v1), (2, .int v2), (3, .int v3), (4, .int v4), (5, .int v5), (7, .int v7), (8, .ref 134), (9, .int v9), (10, .int v10)] [.int s0, .int s1] σ (0, .int (kb r.1), r.2) := by
  intro v1 v2 v3 v4 v5 v7 v9 v10 s0 s1 σ r h
  rw [fL_isPicture_L413] at h
  refine kv_iadd (pc := 413) dL_isPicture_413 ?_
  refine kv_istore (pc := 414) [(6, .int (s1 + s0)), (0, .ref 0), (1, .int v1), (2, .int v2), (3, .int v3), (4, .int v4), (5, .int v5), (7, .int v7), (8, .ref 134), (9, .int v9), (10, .int v10)] dL_isPicture_414 (by decide) rfl ?_
  refine kv_sub (pc := 416) [(0, .ref 0), (1, .int v1), (2, .int v2), (3, .int v3), (4, .int v4), (5, .int v5), (6, .int (s1 + s0)), (7, .int v7), (8, .ref 134), (9, .int v9), (10, .int v10)] [1, 2, 3, 4, 5, 6, 0, 7, 8, 9, 10] rfl ?_
  exact wL_isPicture_L416 sh hk l hst h8 K32 hK32 K42 hK42 v1 v2 v3 v4 v5 (s1 + s0) v7 v9 v10 σ r h
set_option maxHeartbeats 4000000 in
set_option maxRecDepth 100000 in
theorem wL_isPicture_L373 (sh : KSh) (hk : KAG sh) (l : Launch) (hst : l.stackTraces = false) (h8 : sh 134 = .inr (0, 10)) (K32 : Int32 → Int32 → Int32 → Int32 → Int32 → Int32 → Int32 → Int32 → Sto → Option (Bool × Sto)) (hK32 : ∀ (v1 : Int32), ∀ (v2 : Int32), ∀ (v3 : Int32), ∀ (v4 : Int32), ∀ (v5 : Int32), ∀ (v6 : Int32), ∀ (v7 : Int32), ∀ (v9 : Int32), ∀ (σ : Sto), ∀ (r : (Bool × Sto)), K32 v1 v2 v3 v4 v5 v6 v7 v9 σ = some r → VV sh l mL_isPicture 1 10 32 [(0, .ref 0), (1, .int v1), (2, .int v2), (3, .int v3), (4, .int v4), (5, .int v5), (6, .int v6), (7, .int v7), (8, .ref 134), (9, .int v9)] [] σ (0, .int (kb r.1), r.2)) (K42 : Int32 → Int32 → Int32 → Int32 → Int32 → Int32 → Int32 → Int32 → Int32 → Sto → Option (Bool × Sto)) (hK42 : ∀ (v1 : Int32), ∀ (v2 : Int32), ∀ (v3 : Int32), ∀ (v4 : Int32), ∀ (v5 : Int32), ∀ (v6 : Int32), ∀ (v7 : Int32), ∀ (v9 : Int32), ∀ (v10 : Int32), ∀ (σ : Sto), ∀ (r : (Bool × Sto)), K42 v1 v2 v3 v4 v5 v6 v7 v9 v10 σ = some r → VV sh l mL_isPicture 1 10 42 [(0, .ref 0), (1, .int v1), (2, .int v2), (3, .int v3), (4, .int v4), (5, .int v5), (6, .int v6), (7, .int v7), (8, .ref 134), (9, .int v9), (10, .int v10)] [] σ (0, .int (kb r.1), r.2)) : ∀ (v1 : Int32), ∀ (v2 : Int32), ∀ (v3 : Int32), ∀ (v4 : Int32), ∀ (v5 : Int32), ∀ (v6 : Int32), ∀ (v9 : Int32), ∀ (v10 : Int32), ∀ (v12 : Int32), ∀ (v16 : Int32), ∀ (s0 : Int32), ∀ (s1 : Int32), ∀ (σ : Sto), ∀ (r : (Bool × Sto)), fL_isPicture_L373 K32 K42 v1 v2 v3 v4 v5 v6 v9 v10 v12 v16 s0 s1 σ = some r → VV sh l mL_isPicture 1 10 373 [(0, .ref 0), (1, .int v1), (2, .int v2), (3, .int v3), (4, .int v4), (5, .int v5), (6, .int v6), (8, .ref 134), (9, .int v9), (10, .int v10), (12, .int v12), (16, .int v16)] [.int s0, .int s1] σ (0, .int (kb r.1), r.2) := by
  intro v1 v2 v3 v4 v5 v6 v9 v10 v12 v16 s0 s1 σ r h
  rw [fL_isPicture_L373] at h
  refine kv_iadd (pc := 373) dL_isPicture_373 ?_
  refine kv_istore (pc := 374) [(7, .int (s1 + s0)), (0, .ref 0), (1, .int v1), (2, .int v2), (3, .int v3), (4, .int v4), (5, .int v5), (6, .int v6), (8, .ref 134), (9, .int v9), (10, .int v10), (12, .int v12), (16, .int v16)] dL_isPicture_374 (by decide) rfl ?_
  refine kv_iload (pc := 376) 11 dL_isPicture_376 rfl ?_
  refine kv_if_le (pc := 378) (tgt := 384) dL_isPicture_378 (by decide) h (fun h => ?_) (fun h => ?_)
  · refine kv_iinc (pc := 384) (v := v3 + 1) 4 [(3, .int (v3 + 1)), (7, .int (s1 + s0)), (0, .ref 0), (1, .int v1), (2, .int v2), (4, .int v4), (5, .int v5), (6, .int v6), (8, .ref 134), (9, .int v9), (10, .int v10), (12, .int v12), (16, .int v16)] dL_isPicture_384 rfl rfl (by decide) rfl ?_
    refine kv_iload (pc := 387) 6 dL_isPicture_387 rfl ?_
    refine kv_aload_n (pc := 389) 2 dL_isPicture_389 rfl rfl ?_
    refine kv_iload (pc := 390) 9 dL_isPicture_390 rfl ?_
    refine kv_iload (pc := 392) 10 dL_isPicture_392 rfl ?_
    refine kv_cVn (pc := 394) [.int v9, .int v10] (fun r62 => (r62.1, .int r62.2.1, r62.2.2)) (fun r62 => (.int r62.2.1 :: [.int v5])) (fun r62 => r62.2.2) 397 1 10 h (fun r62 g63 hnt => tX6_images sh hk l hst v9 v10 σ r62 g63 hnt) dL_isPicture_394 rfl (ks_0 hk) rfl yw_X6_images lk_L_66 (by decide) (Nat.le_of_ble_eq_true rfl) (by decide) (fun _ => rfl) (fun _ => rfl) ⟨rfl, rfl, rfl⟩ (fun r h => Decidable.byContradiction (fun h9 => by rw [if_neg h9] at h; cases h)) (fun r62 g63 z64 h => ?_)
    rw [if_pos z64] at h
    refine kv_iadd (pc := 397) dL_isPicture_397 ?_
    refine kv_istore (pc := 398) [(5, .int (v5 + r62.2.1)), (3, .int (v3 + 1)), (7, .int (s1 + s0)), (0, .ref 0), (1, .int v1), (2, .int v2), (4, .int v4), (6, .int v6), (8, .ref 134), (9, .int v9), (10, .int v10), (12, .int v12), (16, .int v16)] dL_isPicture_398 (by decide) rfl ?_
    refine kv_iload (pc := 400) 7 dL_isPicture_400 rfl ?_
    refine kv_iload (pc := 402) 12 dL_isPicture_402 rfl ?_
    refine kv_iconst (pc := 404) (v := (-1)) dL_isPicture_404 (by decide) ?_
    refine kv_icmp_ne (pc := 405) (tgt := 412) dL_isPicture_405 (by decide) h (fun h => ?_) (fun h => ?_)
    · refine kv_iconst (pc := 412) (v := 1) dL_isPicture_412 (by decide) ?_
      refine kv_sub (pc := 413) [(0, .ref 0), (1, .int v1), (2, .int v2), (3, .int (v3 + 1)), (4, .int v4), (5, .int (v5 + r62.2.1)), (7, .int (s1 + s0)), (8, .ref 134), (9, .int v9), (10, .int v10)] [3, 4, 5, 1, 6, 0, 2, 8, 9, 10] rfl ?_
      exact wL_isPicture_L413 sh hk l hst h8 K32 hK32 K42 hK42 v1 v2 (v3 + 1) v4 (v5 + r62.2.1) (s1 + s0) v9 v10 1 v6 r62.2.2 r h
    · refine kv_iconst (pc := 408) (v := 0) dL_isPicture_408 (by decide) ?_
      refine kv_goto (pc := 409) (tgt := 413) dL_isPicture_409 (by decide) ?_
      refine kv_sub (pc := 413) [(0, .ref 0), (1, .int v1), (2, .int v2), (3, .int (v3 + 1)), (4, .int v4), (5, .int (v5 + r62.2.1)), (7, .int (s1 + s0)), (8, .ref 134), (9, .int v9), (10, .int v10)] [3, 4, 5, 1, 6, 0, 2, 8, 9, 10] rfl ?_
      exact wL_isPicture_L413 sh hk l hst h8 K32 hK32 K42 hK42 v1 v2 (v3 + 1) v4 (v5 + r62.2.1) (s1 + s0) v9 v10 0 v6 r62.2.2 r h
  · refine kv_goto (pc := 381) (tgt := 416) dL_isPicture_381 (by decide) ?_
    refine kv_sub (pc := 416) [(0, .ref 0), (1, .int v1), (2, .int v2), (3, .int v3), (4, .int v4), (5, .int v5), (6, .int v6), (7, .int (s1 + s0)), (8, .ref 134), (9, .int v9), (10, .int v10)] [1, 2, 3, 4, 5, 6, 7, 0, 8, 9, 10] rfl ?_
    exact wL_isPicture_L416 sh hk l hst h8 K32 hK32 K42 hK42 v1 v2 v3 v4 v5 v6 (s1 + s0) v9 v10 σ r h
set_option maxHeartbeats 4000000 in
set_option maxRecDepth 100000 in
theorem wL_isPicture_L360 (sh : KSh) (hk : KAG sh) (l : Launch) (hst : l.stackTraces = false) (h8 : sh 134 = .inr (0, 10)) (K32 : Int32 → Int32 → Int32 → Int32 → Int32 → Int32 → Int32 → Int32 → Sto → Option (Bool × Sto)) (hK32 : ∀ (v1 : Int32), ∀ (v2 : Int32), ∀ (v3 : Int32), ∀ (v4 : Int32), ∀ (v5 : Int32), ∀ (v6 : Int32), ∀ (v7 : Int32), ∀ (v9 : Int32), ∀ (σ : Sto), ∀ (r : (Bool × Sto)), K32 v1 v2 v3 v4 v5 v6 v7 v9 σ = some r → VV sh l mL_isPicture 1 10 32 [(0, .ref 0), (1, .int v1), (2, .int v2), (3, .int v3), (4, .int v4), (5, .int v5), (6, .int v6), (7, .int v7), (8, .ref 134), (9, .int v9)] [] σ (0, .int (kb r.1), r.2)) (K42 : Int32 → Int32 → Int32 → Int32 → Int32 → Int32 → Int32 → Int32 → Int32 → Sto → Option (Bool × Sto)) (hK42 : ∀ (v1 : Int32), ∀ (v2 : Int32), ∀ (v3 : Int32), ∀ (v4 : Int32), ∀ (v5 : Int32), ∀ (v6 : Int32), ∀ (v7 : Int32), ∀ (v9 : Int32), ∀ (v10 : Int32), ∀ (σ : Sto), ∀ (r : (Bool × Sto)), K42 v1 v2 v3 v4 v5 v6 v7 v9 v10 σ = some r → VV sh l mL_isPicture 1 10 42 [(0, .ref 0), (1, .int v1), (2, .int v2), (3, .int v3), (4, .int v4), (5, .int v5), (6, .int v6), (7, .int v7), (8, .ref 134), (9, .int v9), (10, .int v10)] [] σ (0, .int (kb r.1), r.2)) : ∀ (v1 : Int32), ∀ (v2 : Int32), ∀ (v3 : Int32), ∀ (v4 : Int32), ∀ (v5 : Int32), ∀ (v6 : Int32), ∀ (v7 : Int32), ∀ (v9 : Int32), ∀ (v10 : Int32), ∀ (v11 : Int32), ∀ (v12 : Int32), ∀ (v15 : Int32), ∀ (v16 : Int32), ∀ (σ : Sto), ∀ (r : (Bool × Sto)), fL_isPicture_L360 K32 K42 v1 v2 v3 v4 v5 v6 v7 v9 v10 v11 v12 v15 v16 σ = some r → VV sh l mL_isPicture 1 10 360 [(0, .ref 0), (1, .int v1), (2, .int v2), (3, .int v3), (4, .int v4), (5, .int v5), (6, .int v6), (7, .int v7), (8, .ref 134), (9, .int v9), (10, .int v10), (11, .int v11), (12, .int v12), (15, .int v15), (16, .int v16)] [] σ (0, .int (kb r.1), r.2) := by
  intro v1 v2 v3 v4 v5 v6 v7 v9 v10 v11 v12 v15 v16 σ r h
  rw [fL_isPicture_L360] at h
  refine kv_iload (pc := 360) 7 dL_isPicture_360 rfl ?_
  refine kv_iload (pc := 362) 11 dL_isPicture_362 rfl ?_
  refine kv_if_ne (pc := 364) (tgt := 371) dL_isPicture_364 (by decide) h (fun h => ?_) (fun h => ?_)
  · refine kv_iload (pc := 371) 13 dL_isPicture_371 rfl ?_
    refine kv_sub (pc := 373) [(0, .ref 0), (1, .int v1), (2, .int v2), (3, .int v3), (4, .int v4), (5, .int v5), (6, .int v6), (8, .ref 134), (9, .int v9), (10, .int v10), (12, .int v12), (16, .int v16)] [0, 1, 2, 3, 4, 5, 6, 8, 9, 10, 12, 14] rfl ?_
    exact wL_isPicture_L373 sh hk l hst h8 K32 hK32 K42 hK42 v1 v2 v3 v4 v5 v6 v9 v10 v12 v16 v15 v7 σ r h
  · refine kv_iconst (pc := 367) (v := 0) dL_isPicture_367 (by decide) ?_
    refine kv_goto (pc := 368) (tgt := 373) dL_isPicture_368 (by decide) ?_
    refine kv_sub (pc := 373) [(0, .ref 0), (1, .int v1), (2, .int v2), (3, .int v3), (4, .int v4), (5, .int v5), (6, .int v6), (8, .ref 134), (9, .int v9), (10, .int v10), (12, .int v12), (16, .int v16)] [0, 1, 2, 3, 4, 5, 6, 8, 9, 10, 12, 14] rfl ?_
    exact wL_isPicture_L373 sh hk l hst h8 K32 hK32 K42 hK42 v1 v2 v3 v4 v5 v6 v9 v10 v12 v16 0 v7 σ r h
set_option maxHeartbeats 4000000 in
set_option maxRecDepth 100000 in
theorem wL_isPicture_L326 (sh : KSh) (hk : KAG sh) (l : Launch) (hst : l.stackTraces = false) (h8 : sh 134 = .inr (0, 10)) (K32 : Int32 → Int32 → Int32 → Int32 → Int32 → Int32 → Int32 → Int32 → Sto → Option (Bool × Sto)) (hK32 : ∀ (v1 : Int32), ∀ (v2 : Int32), ∀ (v3 : Int32), ∀ (v4 : Int32), ∀ (v5 : Int32), ∀ (v6 : Int32), ∀ (v7 : Int32), ∀ (v9 : Int32), ∀ (σ : Sto), ∀ (r : (Bool × Sto)), K32 v1 v2 v3 v4 v5 v6 v7 v9 σ = some r → VV sh l mL_isPicture 1 10 32 [(0, .ref 0), (1, .int v1), (2, .int v2), (3, .int v3), (4, .int v4), (5, .int v5), (6, .int v6), (7, .int v7), (8, .ref 134), (9, .int v9)] [] σ (0, .int (kb r.1), r.2)) (K42 : Int32 → Int32 → Int32 → Int32 → Int32 → Int32 → Int32 → Int32 → Int32 → Sto → Option (Bool × Sto)) (hK42 : ∀ (v1 : Int32), ∀ (v2 : Int32), ∀ (v3 : Int32), ∀ (v4 : Int32), ∀ (v5 : Int32), ∀ (v6 : Int32), ∀ (v7 : Int32), ∀ (v9 : Int32), ∀ (v10 : Int32), ∀ (σ : Sto), ∀ (r : (Bool × Sto)), K42 v1 v2 v3 v4 v5 v6 v7 v9 v10 σ = some r → VV sh l mL_isPicture 1 10 42 [(0, .ref 0), (1, .int v1), (2, .int v2), (3, .int v3), (4, .int v4), (5, .int v5), (6, .int v6), (7, .int v7), (8, .ref 134), (9, .int v9), (10, .int v10)] [] σ (0, .int (kb r.1), r.2)) : ∀ (v1 : Int32), ∀ (v2 : Int32), ∀ (v3 : Int32), ∀ (v4 : Int32), ∀ (v5 : Int32), ∀ (v6 : Int32), ∀ (v7 : Int32), ∀ (v9 : Int32), ∀ (v10 : Int32), ∀ (v11 : Int32), ∀ (v12 : Int32), ∀ (v13 : Int32), ∀ (v14 : Int32), ∀ (v15 : Int32), ∀ (v16 : Int32), ∀ (s0 : Int32), ∀ (s1 : Int32), ∀ (σ : Sto), ∀ (r : (Bool × Sto)), fL_isPicture_L326 K32 K42 v1 v2 v3 v4 v5 v6 v7 v9 v10 v11 v12 v13 v14 v15 v16 s0 s1 σ = some r → VV sh l mL_isPicture 1 10 326 [(0, .ref 0), (1, .int v1), (2, .int v2), (3, .int v3), (4, .int v4), (5, .int v5), (6, .int v6), (7, .int v7), (8, .ref 134), (9, .int v9), (10, .int v10), (11, .int v11), (12, .int v12), (13, .int v13), (14, .int v14), (15, .int v15), (16, .int v16)] [.int s0, .int s1] σ (0, .int (kb r.1), r.2) := by
  intro v1 v2 v3 v4 v5 v6 v7 v9 v10 v11 v12 v13 v14 v15 v16 s0 s1 σ r h
  rw [fL_isPicture_L326] at h
  refine kv_icmp_ne (pc := 326) (tgt := 358) dL_isPicture_326 (by decide) h (fun h => ?_) (fun h => ?_)
  · refine kv_iconst (pc := 358) (v := 0) dL_isPicture_358 (by decide) ?_
    exact kv_zret (pc := 359) dL_isPicture_359 rfl rfl (by cases h; rfl) (by decide) (by decide)
  · refine kv_iload (pc := 329) 16 dL_isPicture_329 rfl ?_
    refine kv_if_lt (pc := 331) (tgt := 360) dL_isPicture_331 (by decide) h (fun h => ?_) (fun h => ?_)
    · refine kv_sub (pc := 360) [(0, .ref 0), (1, .int v1), (2, .int v2), (3, .int v3), (4, .int v4), (5, .int v5), (6, .int v6), (7, .int v7), (8, .ref 134), (9, .int v9), (10, .int v10), (11, .int v11), (12, .int v12), (15, .int v15), (16, .int v16)] [0, 1, 2, 3, 4, 5, 6, 7, 8, 9, 10, 11, 12, 15, 16] rfl ?_
      exact wL_isPicture_L360 sh hk l hst h8 K32 hK32 K42 hK42 v1 v2 v3 v4 v5 v6 v7 v9 v10 v11 v12 v15 v16 σ r h
    · refine kv_aload_n (pc := 334) 0 dL_isPicture_334 rfl rfl ?_
      refine kv_iload (pc := 335) 16 dL_isPicture_335 rfl ?_
      refine kv_iconst (pc := 337) (v := 3) dL_isPicture_337 (by decide) ?_
      refine kv_cVn (pc := 338) [.int v16, .int 3] (fun r65 => (r65.1, .int r65.2, σ)) (fun r65 => (.int r65.2 :: [])) (fun r65 => σ) 341 1 10 h (fun r65 g66 hnt => tX6_chip sh hk l hst v16 3 σ r65 g66 hnt) dL_isPicture_338 rfl (ks_0 hk) rfl yw_X6_chip lk_L_63 (by decide) (Nat.le_of_ble_eq_true rfl) (by decide) (fun _ => rfl) (fun _ => rfl) ⟨rfl, rfl, rfl⟩ (fun r h => Decidable.byContradiction (fun h9 => by rw [if_neg h9] at h; cases h)) (fun r65 g66 z67 h => ?_)
      rw [if_pos z67] at h
      refine kv_iload (pc := 341) 13 dL_isPicture_341 rfl ?_
      refine kv_icmp_ne (pc := 343) (tgt := 358) dL_isPicture_343 (by decide) h (fun h => ?_) (fun h => ?_)
      · refine kv_iconst (pc := 358) (v := 0) dL_isPicture_358 (by decide) ?_
        exact kv_zret (pc := 359) dL_isPicture_359 rfl rfl (by cases h; rfl) (by decide) (by decide)
      · refine kv_aload_n (pc := 346) 0 dL_isPicture_346 rfl rfl ?_
        refine kv_iload (pc := 347) 16 dL_isPicture_347 rfl ?_
        refine kv_iconst (pc := 349) (v := 4) dL_isPicture_349 (by decide) ?_
        refine kv_cVn (pc := 350) [.int v16, .int 4] (fun r68 => (r68.1, .int r68.2, σ)) (fun r68 => (.int r68.2 :: [])) (fun r68 => σ) 353 1 10 h (fun r68 g69 hnt => tX6_chip sh hk l hst v16 4 σ r68 g69 hnt) dL_isPicture_350 rfl (ks_0 hk) rfl yw_X6_chip lk_L_63 (by decide) (Nat.le_of_ble_eq_true rfl) (by decide) (fun _ => rfl) (fun _ => rfl) ⟨rfl, rfl, rfl⟩ (fun r h => Decidable.byContradiction (fun h9 => by rw [if_neg h9] at h; cases h)) (fun r68 g69 z70 h => ?_)
        rw [if_pos z70] at h
        refine kv_iload (pc := 353) 14 dL_isPicture_353 rfl ?_
        refine kv_icmp_eq (pc := 355) (tgt := 360) dL_isPicture_355 (by decide) h (fun h => ?_) (fun h => ?_)
        · refine kv_sub (pc := 360) [(0, .ref 0), (1, .int v1), (2, .int v2), (3, .int v3), (4, .int v4), (5, .int v5), (6, .int v6), (7, .int v7), (8, .ref 134), (9, .int v9), (10, .int v10), (11, .int v11), (12, .int v12), (15, .int v15), (16, .int v16)] [0, 1, 2, 3, 4, 5, 6, 7, 8, 9, 10, 11, 12, 15, 16] rfl ?_
          exact wL_isPicture_L360 sh hk l hst h8 K32 hK32 K42 hK42 v1 v2 v3 v4 v5 v6 v7 v9 v10 v11 v12 v15 v16 σ r h
        · refine kv_iconst (pc := 358) (v := 0) dL_isPicture_358 (by decide) ?_
          exact kv_zret (pc := 359) dL_isPicture_359 rfl rfl (by cases h; rfl) (by decide) (by decide)
set_option maxHeartbeats 4000000 in
set_option maxRecDepth 100000 in
theorem wL_isPicture_L297 (sh : KSh) (hk : KAG sh) (l : Launch) (hst : l.stackTraces = false) (h8 : sh 134 = .inr (0, 10)) (K32 : Int32 → Int32 → Int32 → Int32 → Int32 → Int32 → Int32 → Int32 → Sto → Option (Bool × Sto)) (hK32 : ∀ (v1 : Int32), ∀ (v2 : Int32), ∀ (v3 : Int32), ∀ (v4 : Int32), ∀ (v5 : Int32), ∀ (v6 : Int32), ∀ (v7 : Int32), ∀ (v9 : Int32), ∀ (σ : Sto), ∀ (r : (Bool × Sto)), K32 v1 v2 v3 v4 v5 v6 v7 v9 σ = some r → VV sh l mL_isPicture 1 10 32 [(0, .ref 0), (1, .int v1), (2, .int v2), (3, .int v3), (4, .int v4), (5, .int v5), (6, .int v6), (7, .int v7), (8, .ref 134), (9, .int v9)] [] σ (0, .int (kb r.1), r.2)) (K42 : Int32 → Int32 → Int32 → Int32 → Int32 → Int32 → Int32 → Int32 → Int32 → Sto → Option (Bool × Sto)) (hK42 : ∀ (v1 : Int32), ∀ (v2 : Int32), ∀ (v3 : Int32), ∀ (v4 : Int32), ∀ (v5 : Int32), ∀ (v6 : Int32), ∀ (v7 : Int32), ∀ (v9 : Int32), ∀ (v10 : Int32), ∀ (σ : Sto), ∀ (r : (Bool × Sto)), K42 v1 v2 v3 v4 v5 v6 v7 v9 v10 σ = some r → VV sh l mL_isPicture 1 10 42 [(0, .ref 0), (1, .int v1), (2, .int v2), (3, .int v3), (4, .int v4), (5, .int v5), (6, .int v6), (7, .int v7), (8, .ref 134), (9, .int v9), (10, .int v10)] [] σ (0, .int (kb r.1), r.2)) : ∀ (v1 : Int32), ∀ (v2 : Int32), ∀ (v3 : Int32), ∀ (v4 : Int32), ∀ (v5 : Int32), ∀ (v6 : Int32), ∀ (v7 : Int32), ∀ (v9 : Int32), ∀ (v10 : Int32), ∀ (v11 : Int32), ∀ (v12 : Int32), ∀ (v13 : Int32), ∀ (v14 : Int32), ∀ (v15 : Int32), ∀ (σ : Sto), ∀ (r : (Bool × Sto)), fL_isPicture_L297 K32 K42 v1 v2 v3 v4 v5 v6 v7 v9 v10 v11 v12 v13 v14 v15 σ = some r → VV sh l mL_isPicture 1 10 297 [(0, .ref 0), (1, .int v1), (2, .int v2), (3, .int v3), (4, .int v4), (5, .int v5), (6, .int v6), (7, .int v7), (8, .ref 134), (9, .int v9), (10, .int v10), (11, .int v11), (12, .int v12), (13, .int v13), (14, .int v14), (15, .int v15)] [] σ (0, .int (kb r.1), r.2) := by
  intro v1 v2 v3 v4 v5 v6 v7 v9 v10 v11 v12 v13 v14 v15 σ r h
  rw [fL_isPicture_L297] at h
  refine kv_aload_n (pc := 297) 0 dL_isPicture_297 rfl rfl ?_
  refine kv_iload (pc := 298) 13 dL_isPicture_298 rfl ?_
  refine kv_iload (pc := 300) 14 dL_isPicture_300 rfl ?_
  refine kv_cVn (pc := 302) [.int v13, .int v14] (fun r56 => (r56.1, .int r56.2, σ)) (fun r56 => (.int r56.2 :: [])) (fun r56 => σ) 305 1 10 h (fun r56 g57 hnt => tX6_chipAt sh hk l hst v13 v14 σ r56 g57 hnt) dL_isPicture_302 rfl (ks_0 hk) rfl yw_X6_chipAt lk_L_60 (by decide) (Nat.le_of_ble_eq_true rfl) (by decide) (fun _ => rfl) (fun _ => rfl) ⟨rfl, rfl, rfl⟩ (fun r h => Decidable.byContradiction (fun h9 => by rw [if_neg h9] at h; cases h)) (fun r56 g57 z58 h => ?_)
  rw [if_pos z58] at h
  refine kv_istore (pc := 305) [(16, .int r56.2), (0, .ref 0), (1, .int v1), (2, .int v2), (3, .int v3), (4, .int v4), (5, .int v5), (6, .int v6), (7, .int v7), (8, .ref 134), (9, .int v9), (10, .int v10), (11, .int v11), (12, .int v12), (13, .int v13), (14, .int v14), (15, .int v15)] dL_isPicture_305 (by decide) rfl ?_
  refine kv_iload (pc := 307) 12 dL_isPicture_307 rfl ?_
  refine kv_iload (pc := 309) 0 dL_isPicture_309 rfl ?_
  refine kv_iconst (pc := 311) (v := (-1)) dL_isPicture_311 (by decide) ?_
  refine kv_icmp_ne (pc := 312) (tgt := 319) dL_isPicture_312 (by decide) h (fun h => ?_) (fun h => ?_)
  · refine kv_aload_n (pc := 319) 1 dL_isPicture_319 rfl rfl ?_
    refine kv_iload (pc := 320) 0 dL_isPicture_320 rfl ?_
    refine kv_iconst (pc := 322) (v := 1) dL_isPicture_322 (by decide) ?_
    refine kv_cVn (pc := 323) [.int r56.2, .int 1] (fun r59 => (r59.1, .int r59.2, σ)) (fun r59 => (.int r59.2 :: [.int v11])) (fun r59 => σ) 326 1 10 h (fun r59 g60 hnt => tX6_chip sh hk l hst r56.2 1 σ r59 g60 hnt) dL_isPicture_323 rfl (ks_0 hk) rfl yw_X6_chip lk_L_63 (by decide) (Nat.le_of_ble_eq_true rfl) (by decide) (fun _ => rfl) (fun _ => rfl) ⟨rfl, rfl, rfl⟩ (fun r h => Decidable.byContradiction (fun h9 => by rw [if_neg h9] at h; cases h)) (fun r59 g60 z61 h => ?_)
    rw [if_pos z61] at h
    refine kv_sub (pc := 326) [(0, .ref 0), (1, .int v1), (2, .int v2), (3, .int v3), (4, .int v4), (5, .int v5), (6, .int v6), (7, .int v7), (8, .ref 134), (9, .int v9), (10, .int v10), (11, .int v11), (12, .int v12), (13, .int v13), (14, .int v14), (15, .int v15), (16, .int r56.2)] [1, 2, 3, 4, 5, 6, 7, 8, 9, 10, 11, 12, 13, 14, 15, 16, 0] rfl ?_
    exact wL_isPicture_L326 sh hk l hst h8 K32 hK32 K42 hK42 v1 v2 v3 v4 v5 v6 v7 v9 v10 v11 v12 v13 v14 v15 r56.2 r59.2 v11 σ r h
  · refine kv_iconst (pc := 315) (v := 0) dL_isPicture_315 (by decide) ?_
    refine kv_goto (pc := 316) (tgt := 326) dL_isPicture_316 (by decide) ?_
    refine kv_sub (pc := 326) [(0, .ref 0), (1, .int v1), (2, .int v2), (3, .int v3), (4, .int v4), (5, .int v5), (6, .int v6), (7, .int v7), (8, .ref 134), (9, .int v9), (10, .int v10), (11, .int v11), (12, .int v12), (13, .int v13), (14, .int v14), (15, .int v15), (16, .int r56.2)] [1, 2, 3, 4, 5, 6, 7, 8, 9, 10, 11, 12, 13, 14, 15, 16, 0] rfl ?_
    exact wL_isPicture_L326 sh hk l hst h8 K32 hK32 K42 hK42 v1 v2 v3 v4 v5 v6 v7 v9 v10 v11 v12 v13 v14 v15 r56.2 0 v11 σ r h
set_option maxHeartbeats 4000000 in
set_option maxRecDepth 100000 in
theorem wL_isPicture_L226 (sh : KSh) (hk : KAG sh) (l : Launch) (hst : l.stackTraces = false) (h8 : sh 134 = .inr (0, 10)) (K32 : Int32 → Int32 → Int32 → Int32 → Int32 → Int32 → Int32 → Int32 → Sto → Option (Bool × Sto)) (hK32 : ∀ (v1 : Int32), ∀ (v2 : Int32), ∀ (v3 : Int32), ∀ (v4 : Int32), ∀ (v5 : Int32), ∀ (v6 : Int32), ∀ (v7 : Int32), ∀ (v9 : Int32), ∀ (σ : Sto), ∀ (r : (Bool × Sto)), K32 v1 v2 v3 v4 v5 v6 v7 v9 σ = some r → VV sh l mL_isPicture 1 10 32 [(0, .ref 0), (1, .int v1), (2, .int v2), (3, .int v3), (4, .int v4), (5, .int v5), (6, .int v6), (7, .int v7), (8, .ref 134), (9, .int v9)] [] σ (0, .int (kb r.1), r.2)) (K42 : Int32 → Int32 → Int32 → Int32 → Int32 → Int32 → Int32 → Int32 → Int32 → Sto → Option (Bool × Sto)) (hK42 : ∀ (v1 : Int32), ∀ (v2 : Int32), ∀ (v3 : Int32), ∀ (v4 : Int32), ∀ (v5 : Int32), ∀ (v6 : Int32), ∀ (v7 : Int32), ∀ (v9 : Int32), ∀ (v10 : Int32), ∀ (σ : Sto), ∀ (r : (Bool × Sto)), K42 v1 v2 v3 v4 v5 v6 v7 v9 v10 σ = some r → VV sh l mL_isPicture 1 10 42 [(0, .ref 0), (1, .int v1), (2, .int v2), (3, .int v3), (4, .int v4), (5, .int v5), (6, .int v6), (7, .int v7), (8, .ref 134), (9, .int v9), (10, .int v10)] [] σ (0, .int (kb r.1), r.2)) : ∀ (fu : Nat), ∀ (v1 : Int32), ∀ (v2 : Int32), ∀ (v3 : Int32), ∀ (v4 : Int32), ∀ (v5 : Int32), ∀ (v6 : Int32), ∀ (v7 : Int32), ∀ (v9 : Int32), ∀ (v10 : Int32), ∀ (v11 : Int32), ∀ (v12 : Int32), ∀ (v13 : Int32), ∀ (v14 : Int32), ∀ (v15 : Int32), ∀ (v16 : Int32), ∀ (σ : Sto), ∀ (r : (Bool × Sto)), fL_isPicture_L226 K32 K42 fu v1 v2 v3 v4 v5 v6 v7 v9 v10 v11 v12 v13 v14 v15 v16 σ = some r → VV sh l mL_isPicture 1 10 226 [(0, .ref 0), (1, .int v1), (2, .int v2), (3, .int v3), (4, .int v4), (5, .int v5), (6, .int v6), (7, .int v7), (8, .ref 134), (9, .int v9), (10, .int v10), (11, .int v11), (12, .int v12), (13, .int v13), (14, .int v14), (15, .int v15), (16, .int v16)] [] σ (0, .int (kb r.1), r.2) := by
  intro fu
  induction fu with
  | zero => intro v1 v2 v3 v4 v5 v6 v7 v9 v10 v11 v12 v13 v14 v15 v16 σ r h; rw [fL_isPicture_L226] at h; cases h
  | succ fu ih =>
    intro v1 v2 v3 v4 v5 v6 v7 v9 v10 v11 v12 v13 v14 v15 v16 σ r h
    rw [fL_isPicture_L226] at h
    refine kv_iload (pc := 226) 16 dL_isPicture_226 rfl ?_
    refine kv_iload (pc := 228) 12 dL_isPicture_228 rfl ?_
    refine kv_icmp_ge (pc := 230) (tgt := 252) dL_isPicture_230 (by decide) h (fun h => ?_) (fun h => ?_)
    · refine kv_aload_n (pc := 252) 0 dL_isPicture_252 rfl rfl ?_
      refine kv_iload (pc := 253) 9 dL_isPicture_253 rfl ?_
      refine kv_iload (pc := 255) 10 dL_isPicture_255 rfl ?_
      refine kv_cVn (pc := 257) [.int v9, .int v10] (fun r50 => (r50.1, .int r50.2.1, r50.2.2)) (fun r50 => (.int r50.2.1 :: [])) (fun r50 => r50.2.2) 260 1 10 h (fun r50 g51 hnt => tX6_brightness sh hk l hst v9 v10 σ r50 g51 hnt) dL_isPicture_257 rfl (ks_0 hk) rfl yw_X6_brightness lk_L_57 (by decide) (Nat.le_of_ble_eq_true rfl) (by decide) (fun _ => rfl) (fun _ => rfl) ⟨rfl, rfl, rfl⟩ (fun r h => Decidable.byContradiction (fun h9 => by rw [if_neg h9] at h; cases h)) (fun r50 g51 z52 h => ?_)
      rw [if_pos z52] at h
      refine kv_iload (pc := 260) 15 dL_isPicture_260 rfl ?_
      refine kv_icmp_ne (pc := 262) (tgt := 295) dL_isPicture_262 (by decide) h (fun h => ?_) (fun h => ?_)
      · refine kv_iconst (pc := 295) (v := 0) dL_isPicture_295 (by decide) ?_
        exact kv_zret (pc := 296) dL_isPicture_296 rfl rfl (by cases h; rfl) (by decide) (by decide)
      · refine kv_aload_n (pc := 265) 0 dL_isPicture_265 rfl rfl ?_
        refine kv_iload (pc := 266) 13 dL_isPicture_266 rfl ?_
        refine kv_iload (pc := 268) 14 dL_isPicture_268 rfl ?_
        refine kv_cS (pc := 270) [.ref 0, .int v13, .int v14] (fun r53 => (0, .int (kb r53.1), r53.2)) (fun r53 => (.int (kb r53.1) :: [])) (fun r53 => r53.2) 273 1 10 h (fun r53 g54 => tL_isBox sh hk l hst v13 v14 r50.2.2 r53 g54) dL_isPicture_270 rfl yw_L_isBox lk_L_54 (by decide) (Nat.le_of_ble_eq_true rfl) (by decide) (fun _ => rfl) (fun _ => rfl) ⟨rfl, rfl, rfl⟩ (fun _ _ h0 => absurd rfl h0) (fun r53 g54 z55 h => ?_)
        refine kv_ifb_eq (pc := 273) (tgt := 295) dL_isPicture_273 (by decide) h (fun h => ?_) (fun h => ?_)
        · refine kv_iconst (pc := 295) (v := 0) dL_isPicture_295 (by decide) ?_
          exact kv_zret (pc := 296) dL_isPicture_296 rfl rfl (by cases h; rfl) (by decide) (by decide)
        · refine kv_iload (pc := 276) 12 dL_isPicture_276 rfl ?_
          refine kv_if_ne (pc := 278) (tgt := 297) dL_isPicture_278 (by decide) h (fun h => ?_) (fun h => ?_)
          · refine kv_sub (pc := 297) [(0, .ref 0), (1, .int v1), (2, .int v2), (3, .int v3), (4, .int v4), (5, .int v5), (6, .int v6), (7, .int v7), (8, .ref 134), (9, .int v9), (10, .int v10), (11, .int v11), (12, .int v12), (13, .int v13), (14, .int v14), (15, .int v15)] [0, 1, 2, 3, 4, 5, 6, 7, 8, 9, 10, 11, 12, 13, 14, 15] rfl ?_
            exact wL_isPicture_L297 sh hk l hst h8 K32 hK32 K42 hK42 v1 v2 v3 v4 v5 v6 v7 v9 v10 v11 v12 v13 v14 v15 r53.2 r h
          · refine kv_iload (pc := 281) 13 dL_isPicture_281 rfl ?_
            refine kv_iload (pc := 283) 9 dL_isPicture_283 rfl ?_
            refine kv_icmp_ne (pc := 285) (tgt := 295) dL_isPicture_285 (by decide) h (fun h => ?_) (fun h => ?_)
            · refine kv_iconst (pc := 295) (v := 0) dL_isPicture_295 (by decide) ?_
              exact kv_zret (pc := 296) dL_isPicture_296 rfl rfl (by cases h; rfl) (by decide) (by decide)
            · refine kv_iload (pc := 288) 14 dL_isPicture_288 rfl ?_
              refine kv_iload (pc := 290) 10 dL_isPicture_290 rfl ?_
              refine kv_icmp_eq (pc := 292) (tgt := 297) dL_isPicture_292 (by decide) h (fun h => ?_) (fun h => ?_)
              · refine kv_sub (pc := 297) [(0, .ref 0), (1, .int v1), (2, .int v2), (3, .int v3), (4, .int v4), (5, .int v5), (6, .int v6), (7, .int v7), (8, .ref 134), (9, .int v9), (10, .int v10), (11, .int v11), (12, .int v12), (13, .int v13), (14, .int v14), (15, .int v15)] [0, 1, 2, 3, 4, 5, 6, 7, 8, 9, 10, 11, 12, 13, 14, 15] rfl ?_
                exact wL_isPicture_L297 sh hk l hst h8 K32 hK32 K42 hK42 v1 v2 v3 v4 v5 v6 v7 v9 v10 v11 v12 v13 v14 v15 r53.2 r h
              · refine kv_iconst (pc := 295) (v := 0) dL_isPicture_295 (by decide) ?_
                exact kv_zret (pc := 296) dL_isPicture_296 rfl rfl (by cases h; rfl) (by decide) (by decide)
    · refine kv_iload (pc := 233) 15 dL_isPicture_233 rfl ?_
      refine kv_aload_n (pc := 235) 0 dL_isPicture_235 rfl rfl ?_
      refine kv_iconst (pc := 236) (v := 3) dL_isPicture_236 (by decide) ?_
      refine kv_cVn (pc := 237) [.int 3] (fun r71 => (r71.1, .int r71.2.1, r71.2.2)) (fun r71 => (.int r71.2.1 :: [.int v15])) (fun r71 => r71.2.2) 240 1 10 h (fun r71 g72 hnt => tX6_count sh hk l hst 3 σ r71 g72 hnt) dL_isPicture_237 rfl (ks_0 hk) rfl yw_X6_count lk_L_27 (by decide) (Nat.le_of_ble_eq_true rfl) (by decide) (fun _ => rfl) (fun _ => rfl) ⟨rfl, rfl, rfl⟩ (fun r h => Decidable.byContradiction (fun h9 => by rw [if_neg h9] at h; cases h)) (fun r71 g72 z73 h => ?_)
      rw [if_pos z73] at h
      refine kv_imul (pc := 240) dL_isPicture_240 ?_
      refine kv_bipush (pc := 241) (v := 100) dL_isPicture_241 (by decide) ?_
      refine kv_idiv (pc := 243) dL_isPicture_243 (by decide) ?_
      refine kv_istore (pc := 244) [(15, .int ((v15 * r71.2.1) / 100)), (0, .ref 0), (1, .int v1), (2, .int v2), (3, .int v3), (4, .int v4), (5, .int v5), (6, .int v6), (7, .int v7), (8, .ref 134), (9, .int v9), (10, .int v10), (11, .int v11), (12, .int v12), (13, .int v13), (14, .int v14), (16, .int v16)] dL_isPicture_244 (by decide) rfl ?_
      refine kv_iinc (pc := 246) (v := v16 + 1) 16 [(16, .int (v16 + 1)), (15, .int ((v15 * r71.2.1) / 100)), (0, .ref 0), (1, .int v1), (2, .int v2), (3, .int v3), (4, .int v4), (5, .int v5), (6, .int v6), (7, .int v7), (8, .ref 134), (9, .int v9), (10, .int v10), (11, .int v11), (12, .int v12), (13, .int v13), (14, .int v14)] dL_isPicture_246 rfl rfl (by decide) rfl ?_
      refine kv_goto (pc := 249) (tgt := 226) dL_isPicture_249 (by decide) ?_
      refine kv_sub (pc := 226) [(0, .ref 0), (1, .int v1), (2, .int v2), (3, .int v3), (4, .int v4), (5, .int v5), (6, .int v6), (7, .int v7), (8, .ref 134), (9, .int v9), (10, .int v10), (11, .int v11), (12, .int v12), (13, .int v13), (14, .int v14), (15, .int ((v15 * r71.2.1) / 100)), (16, .int (v16 + 1))] [2, 3, 4, 5, 6, 7, 8, 9, 10, 11, 12, 13, 14, 15, 16, 1, 0] rfl ?_
      exact ih v1 v2 v3 v4 v5 v6 v7 v9 v10 v11 v12 v13 v14 ((v15 * r71.2.1) / 100) (v16 + 1) r71.2.2 r h
set_option maxHeartbeats 4000000 in
set_option maxRecDepth 100000 in
theorem wL_isPicture_L186 (sh : KSh) (hk : KAG sh) (l : Launch) (hst : l.stackTraces = false) (h8 : sh 134 = .inr (0, 10)) (K32 : Int32 → Int32 → Int32 → Int32 → Int32 → Int32 → Int32 → Int32 → Sto → Option (Bool × Sto)) (hK32 : ∀ (v1 : Int32), ∀ (v2 : Int32), ∀ (v3 : Int32), ∀ (v4 : Int32), ∀ (v5 : Int32), ∀ (v6 : Int32), ∀ (v7 : Int32), ∀ (v9 : Int32), ∀ (σ : Sto), ∀ (r : (Bool × Sto)), K32 v1 v2 v3 v4 v5 v6 v7 v9 σ = some r → VV sh l mL_isPicture 1 10 32 [(0, .ref 0), (1, .int v1), (2, .int v2), (3, .int v3), (4, .int v4), (5, .int v5), (6, .int v6), (7, .int v7), (8, .ref 134), (9, .int v9)] [] σ (0, .int (kb r.1), r.2)) (K42 : Int32 → Int32 → Int32 → Int32 → Int32 → Int32 → Int32 → Int32 → Int32 → Sto → Option (Bool × Sto)) (hK42 : ∀ (v1 : Int32), ∀ (v2 : Int32), ∀ (v3 : Int32), ∀ (v4 : Int32), ∀ (v5 : Int32), ∀ (v6 : Int32), ∀ (v7 : Int32), ∀ (v9 : Int32), ∀ (v10 : Int32), ∀ (σ : Sto), ∀ (r : (Bool × Sto)), K42 v1 v2 v3 v4 v5 v6 v7 v9 v10 σ = some r → VV sh l mL_isPicture 1 10 42 [(0, .ref 0), (1, .int v1), (2, .int v2), (3, .int v3), (4, .int v4), (5, .int v5), (6, .int v6), (7, .int v7), (8, .ref 134), (9, .int v9), (10, .int v10)] [] σ (0, .int (kb r.1), r.2)) : ∀ (v1 : Int32), ∀ (v2 : Int32), ∀ (v3 : Int32), ∀ (v4 : Int32), ∀ (v5 : Int32), ∀ (v6 : Int32), ∀ (v7 : Int32), ∀ (v9 : Int32), ∀ (v10 : Int32), ∀ (v11 : Int32), ∀ (v12 : Int32), ∀ (v13 : Int32), ∀ (v14 : Int32), ∀ (s0 : Int32), ∀ (s1 : Int32), ∀ (σ : Sto), ∀ (r : (Bool × Sto)), fL_isPicture_L186 K32 K42 v1 v2 v3 v4 v5 v6 v7 v9 v10 v11 v12 v13 v14 s0 s1 σ = some r → VV sh l mL_isPicture 1 10 186 [(0, .ref 0), (1, .int v1), (2, .int v2), (3, .int v3), (4, .int v4), (5, .int v5), (6, .int v6), (7, .int v7), (8, .ref 134), (9, .int v9), (10, .int v10), (11, .int v11), (12, .int v12), (13, .int v13), (14, .int v14)] [.int s0, .int s1] σ (0, .int (kb r.1), r.2) := by
  intro v1 v2 v3 v4 v5 v6 v7 v9 v10 v11 v12 v13 v14 s0 s1 σ r h
  rw [fL_isPicture_L186] at h
  refine kv_icmp_eq (pc := 186) (tgt := 191) dL_isPicture_186 (by decide) h (fun h => ?_) (fun h => ?_)
  · refine kv_iload (pc := 191) 12 dL_isPicture_191 rfl ?_
    refine kv_iconst (pc := 193) (v := (-1)) dL_isPicture_193 (by decide) ?_
    refine kv_icmp_ne (pc := 194) (tgt := 215) dL_isPicture_194 (by decide) h (fun h => ?_) (fun h => ?_)
    · refine kv_iinc (pc := 215) (v := v4 + 1) 4 [(4, .int (v4 + 1)), (0, .ref 0), (1, .int v1), (2, .int v2), (3, .int v3), (5, .int v5), (6, .int v6), (7, .int v7), (8, .ref 134), (9, .int v9), (10, .int v10), (11, .int v11), (12, .int v12), (13, .int v13), (14, .int v14)] dL_isPicture_215 rfl rfl (by decide) rfl ?_
      refine kv_sipush (pc := 218) (v := 1000) dL_isPicture_218 (by decide) ?_
      refine kv_istore (pc := 221) [(15, .int 1000), (4, .int (v4 + 1)), (0, .ref 0), (1, .int v1), (2, .int v2), (3, .int v3), (5, .int v5), (6, .int v6), (7, .int v7), (8, .ref 134), (9, .int v9), (10, .int v10), (11, .int v11), (12, .int v12), (13, .int v13), (14, .int v14)] dL_isPicture_221 (by decide) rfl ?_
      refine kv_iconst (pc := 223) (v := 0) dL_isPicture_223 (by decide) ?_
      refine kv_istore (pc := 224) [(16, .int 0), (15, .int 1000), (4, .int (v4 + 1)), (0, .ref 0), (1, .int v1), (2, .int v2), (3, .int v3), (5, .int v5), (6, .int v6), (7, .int v7), (8, .ref 134), (9, .int v9), (10, .int v10), (11, .int v11), (12, .int v12), (13, .int v13), (14, .int v14)] dL_isPicture_224 (by decide) rfl ?_
      refine kv_sub (pc := 226) [(0, .ref 0), (1, .int v1), (2, .int v2), (3, .int v3), (4, .int (v4 + 1)), (5, .int v5), (6, .int v6), (7, .int v7), (8, .ref 134), (9, .int v9), (10, .int v10), (11, .int v11), (12, .int v12), (13, .int v13), (14, .int v14), (15, .int 1000), (16, .int 0)] [3, 4, 5, 6, 2, 7, 8, 9, 10, 11, 12, 13, 14, 15, 16, 1, 0] rfl ?_
      exact wL_isPicture_L226 sh hk l hst h8 K32 hK32 K42 hK42 kFU v1 v2 v3 (v4 + 1) v5 v6 v7 v9 v10 v11 v12 v13 v14 1000 0 σ r h
    · refine kv_iload (pc := 197) 11 dL_isPicture_197 rfl ?_
      refine kv_if_ne (pc := 199) (tgt := 213) dL_isPicture_199 (by decide) h (fun h => ?_) (fun h => ?_)
      · refine kv_iconst (pc := 213) (v := 0) dL_isPicture_213 (by decide) ?_
        exact kv_zret (pc := 214) dL_isPicture_214 rfl rfl (by cases h; rfl) (by decide) (by decide)
      · refine kv_aload_n (pc := 202) 0 dL_isPicture_202 rfl rfl ?_
        refine kv_iload (pc := 203) 9 dL_isPicture_203 rfl ?_
        refine kv_iload (pc := 205) 10 dL_isPicture_205 rfl ?_
        refine kv_cVn (pc := 207) [.int v9, .int v10] (fun r74 => (r74.1, .int r74.2.1, r74.2.2)) (fun r74 => (.int r74.2.1 :: [])) (fun r74 => r74.2.2) 210 1 10 h (fun r74 g75 hnt => tX6_brightness sh hk l hst v9 v10 σ r74 g75 hnt) dL_isPicture_207 rfl (ks_0 hk) rfl yw_X6_brightness lk_L_57 (by decide) (Nat.le_of_ble_eq_true rfl) (by decide) (fun _ => rfl) (fun _ => rfl) ⟨rfl, rfl, rfl⟩ (fun r h => Decidable.byContradiction (fun h9 => by rw [if_neg h9] at h; cases h)) (fun r74 g75 z76 h => ?_)
        rw [if_pos z76] at h
        refine kv_if_eq (pc := 210) (tgt := 416) dL_isPicture_210 (by decide) h (fun h => ?_) (fun h => ?_)
        · refine kv_sub (pc := 416) [(0, .ref 0), (1, .int v1), (2, .int v2), (3, .int v3), (4, .int v4), (5, .int v5), (6, .int v6), (7, .int v7), (8, .ref 134), (9, .int v9), (10, .int v10)] [0, 1, 2, 3, 4, 5, 6, 7, 8, 9, 10] rfl ?_
          exact wL_isPicture_L416 sh hk l hst h8 K32 hK32 K42 hK42 v1 v2 v3 v4 v5 v6 v7 v9 v10 r74.2.2 r h
        · refine kv_iconst (pc := 213) (v := 0) dL_isPicture_213 (by decide) ?_
          exact kv_zret (pc := 214) dL_isPicture_214 rfl rfl (by cases h; rfl) (by decide) (by decide)
  · refine kv_iconst (pc := 189) (v := 0) dL_isPicture_189 (by decide) ?_
    exact kv_zret (pc := 190) dL_isPicture_190 rfl rfl (by cases h; rfl) (by decide) (by decide)
set_option maxHeartbeats 4000000 in
set_option maxRecDepth 100000 in
theorem wL_isPicture_L174 (sh : KSh) (hk : KAG sh) (l : Launch) (hst : l.stackTraces = false) (h8 : sh 134 = .inr (0, 10)) (K32 : Int32 → Int32 → Int32 → Int32 → Int32 → Int32 → Int32 → Int32 → Sto → Option (Bool × Sto)) (hK32 : ∀ (v1 : Int32), ∀ (v2 : Int32), ∀ (v3 : Int32), ∀ (v4 : Int32), ∀ (v5 : Int32), ∀ (v6 : Int32), ∀ (v7 : Int32), ∀ (v9 : Int32), ∀ (σ : Sto), ∀ (r : (Bool × Sto)), K32 v1 v2 v3 v4 v5 v6 v7 v9 σ = some r → VV sh l mL_isPicture 1 10 32 [(0, .ref 0), (1, .int v1), (2, .int v2), (3, .int v3), (4, .int v4), (5, .int v5), (6, .int v6), (7, .int v7), (8, .ref 134), (9, .int v9)] [] σ (0, .int (kb r.1), r.2)) (K42 : Int32 → Int32 → Int32 → Int32 → Int32 → Int32 → Int32 → Int32 → Int32 → Sto → Option (Bool × Sto)) (hK42 : ∀ (v1 : Int32), ∀ (v2 : Int32), ∀ (v3 : Int32), ∀ (v4 : Int32), ∀ (v5 : Int32), ∀ (v6 : Int32), ∀ (v7 : Int32), ∀ (v9 : Int32), ∀ (v10 : Int32), ∀ (σ : Sto), ∀ (r : (Bool × Sto)), K42 v1 v2 v3 v4 v5 v6 v7 v9 v10 σ = some r → VV sh l mL_isPicture 1 10 42 [(0, .ref 0), (1, .int v1), (2, .int v2), (3, .int v3), (4, .int v4), (5, .int v5), (6, .int v6), (7, .int v7), (8, .ref 134), (9, .int v9), (10, .int v10)] [] σ (0, .int (kb r.1), r.2)) : ∀ (v1 : Int32), ∀ (v2 : Int32), ∀ (v3 : Int32), ∀ (v4 : Int32), ∀ (v5 : Int32), ∀ (v6 : Int32), ∀ (v7 : Int32), ∀ (v9 : Int32), ∀ (v10 : Int32), ∀ (v11 : Int32), ∀ (v12 : Int32), ∀ (v13 : Int32), ∀ (v14 : Int32), ∀ (s0 : Int32), ∀ (σ : Sto), ∀ (r : (Bool × Sto)), fL_isPicture_L174 K32 K42 v1 v2 v3 v4 v5 v6 v7 v9 v10 v11 v12 v13 v14 s0 σ = some r → VV sh l mL_isPicture 1 10 174 [(0, .ref 0), (1, .int v1), (2, .int v2), (3, .int v3), (4, .int v4), (5, .int v5), (6, .int v6), (7, .int v7), (8, .ref 134), (9, .int v9), (10, .int v10), (11, .int v11), (12, .int v12), (13, .int v13), (14, .int v14)] [.int s0] σ (0, .int (kb r.1), r.2) := by
  intro v1 v2 v3 v4 v5 v6 v7 v9 v10 v11 v12 v13 v14 s0 σ r h
  rw [fL_isPicture_L174] at h
  refine kv_iload (pc := 174) 14 dL_isPicture_174 rfl ?_
  refine kv_bipush (pc := 176) (v := (-100)) dL_isPicture_176 (by decide) ?_
  refine kv_icmp_ne (pc := 178) (tgt := 185) dL_isPicture_178 (by decide) h (fun h => ?_) (fun h => ?_)
  · refine kv_iconst (pc := 185) (v := 0) dL_isPicture_185 (by decide) ?_
    refine kv_sub (pc := 186) [(0, .ref 0), (1, .int v1), (2, .int v2), (3, .int v3), (4, .int v4), (5, .int v5), (6, .int v6), (7, .int v7), (8, .ref 134), (9, .int v9), (10, .int v10), (11, .int v11), (12, .int v12), (13, .int v13), (14, .int v14)] [0, 1, 2, 3, 4, 5, 6, 7, 8, 9, 10, 11, 12, 13, 14] rfl ?_
    exact wL_isPicture_L186 sh hk l hst h8 K32 hK32 K42 hK42 v1 v2 v3 v4 v5 v6 v7 v9 v10 v11 v12 v13 v14 0 s0 σ r h
  · refine kv_iconst (pc := 181) (v := 1) dL_isPicture_181 (by decide) ?_
    refine kv_goto (pc := 182) (tgt := 186) dL_isPicture_182 (by decide) ?_
    refine kv_sub (pc := 186) [(0, .ref 0), (1, .int v1), (2, .int v2), (3, .int v3), (4, .int v4), (5, .int v5), (6, .int v6), (7, .int v7), (8, .ref 134), (9, .int v9), (10, .int v10), (11, .int v11), (12, .int v12), (13, .int v13), (14, .int v14)] [0, 1, 2, 3, 4, 5, 6, 7, 8, 9, 10, 11, 12, 13, 14] rfl ?_
    exact wL_isPicture_L186 sh hk l hst h8 K32 hK32 K42 hK42 v1 v2 v3 v4 v5 v6 v7 v9 v10 v11 v12 v13 v14 1 s0 σ r h
set_option maxHeartbeats 4000000 in
set_option maxRecDepth 100000 in
theorem wL_isPicture_L160 (sh : KSh) (hk : KAG sh) (l : Launch) (hst : l.stackTraces = false) (h8 : sh 134 = .inr (0, 10)) (K32 : Int32 → Int32 → Int32 → Int32 → Int32 → Int32 → Int32 → Int32 → Sto → Option (Bool × Sto)) (hK32 : ∀ (v1 : Int32), ∀ (v2 : Int32), ∀ (v3 : Int32), ∀ (v4 : Int32), ∀ (v5 : Int32), ∀ (v6 : Int32), ∀ (v7 : Int32), ∀ (v9 : Int32), ∀ (σ : Sto), ∀ (r : (Bool × Sto)), K32 v1 v2 v3 v4 v5 v6 v7 v9 σ = some r → VV sh l mL_isPicture 1 10 32 [(0, .ref 0), (1, .int v1), (2, .int v2), (3, .int v3), (4, .int v4), (5, .int v5), (6, .int v6), (7, .int v7), (8, .ref 134), (9, .int v9)] [] σ (0, .int (kb r.1), r.2)) (K42 : Int32 → Int32 → Int32 → Int32 → Int32 → Int32 → Int32 → Int32 → Int32 → Sto → Option (Bool × Sto)) (hK42 : ∀ (v1 : Int32), ∀ (v2 : Int32), ∀ (v3 : Int32), ∀ (v4 : Int32), ∀ (v5 : Int32), ∀ (v6 : Int32), ∀ (v7 : Int32), ∀ (v9 : Int32), ∀ (v10 : Int32), ∀ (σ : Sto), ∀ (r : (Bool × Sto)), K42 v1 v2 v3 v4 v5 v6 v7 v9 v10 σ = some r → VV sh l mL_isPicture 1 10 42 [(0, .ref 0), (1, .int v1), (2, .int v2), (3, .int v3), (4, .int v4), (5, .int v5), (6, .int v6), (7, .int v7), (8, .ref 134), (9, .int v9), (10, .int v10)] [] σ (0, .int (kb r.1), r.2)) : ∀ (v1 : Int32), ∀ (v2 : Int32), ∀ (v3 : Int32), ∀ (v4 : Int32), ∀ (v5 : Int32), ∀ (v6 : Int32), ∀ (v7 : Int32), ∀ (v9 : Int32), ∀ (v10 : Int32), ∀ (v11 : Int32), ∀ (v12 : Int32), ∀ (v13 : Int32), ∀ (v14 : Int32), ∀ (s0 : Int32), ∀ (s1 : Int32), ∀ (σ : Sto), ∀ (r : (Bool × Sto)), fL_isPicture_L160 K32 K42 v1 v2 v3 v4 v5 v6 v7 v9 v10 v11 v12 v13 v14 s0 s1 σ = some r → VV sh l mL_isPicture 1 10 160 [(0, .ref 0), (1, .int v1), (2, .int v2), (3, .int v3), (4, .int v4), (5, .int v5), (6, .int v6), (7, .int v7), (8, .ref 134), (9, .int v9), (10, .int v10), (11, .int v11), (12, .int v12), (13, .int v13), (14, .int v14)] [.int s0, .int s1] σ (0, .int (kb r.1), r.2) := by
  intro v1 v2 v3 v4 v5 v6 v7 v9 v10 v11 v12 v13 v14 s0 s1 σ r h
  rw [fL_isPicture_L160] at h
  refine kv_icmp_ne (pc := 160) (tgt := 189) dL_isPicture_160 (by decide) h (fun h => ?_) (fun h => ?_)
  · refine kv_iconst (pc := 189) (v := 0) dL_isPicture_189 (by decide) ?_
    exact kv_zret (pc := 190) dL_isPicture_190 rfl rfl (by cases h; rfl) (by decide) (by decide)
  · refine kv_iload (pc := 163) 12 dL_isPicture_163 rfl ?_
    refine kv_iconst (pc := 165) (v := (-1)) dL_isPicture_165 (by decide) ?_
    refine kv_icmp_ne (pc := 166) (tgt := 173) dL_isPicture_166 (by decide) h (fun h => ?_) (fun h => ?_)
    · refine kv_iconst (pc := 173) (v := 0) dL_isPicture_173 (by decide) ?_
      refine kv_sub (pc := 174) [(0, .ref 0), (1, .int v1), (2, .int v2), (3, .int v3), (4, .int v4), (5, .int v5), (6, .int v6), (7, .int v7), (8, .ref 134), (9, .int v9), (10, .int v10), (11, .int v11), (12, .int v12), (13, .int v13), (14, .int v14)] [0, 1, 2, 3, 4, 5, 6, 7, 8, 9, 10, 11, 12, 13, 14] rfl ?_
      exact wL_isPicture_L174 sh hk l hst h8 K32 hK32 K42 hK42 v1 v2 v3 v4 v5 v6 v7 v9 v10 v11 v12 v13 v14 0 σ r h
    · refine kv_iconst (pc := 169) (v := 1) dL_isPicture_169 (by decide) ?_
      refine kv_goto (pc := 170) (tgt := 174) dL_isPicture_170 (by decide) ?_
      refine kv_sub (pc := 174) [(0, .ref 0), (1, .int v1), (2, .int v2), (3, .int v3), (4, .int v4), (5, .int v5), (6, .int v6), (7, .int v7), (8, .ref 134), (9, .int v9), (10, .int v10), (11, .int v11), (12, .int v12), (13, .int v13), (14, .int v14)] [0, 1, 2, 3, 4, 5, 6, 7, 8, 9, 10, 11, 12, 13, 14] rfl ?_
      exact wL_isPicture_L174 sh hk l hst h8 K32 hK32 K42 hK42 v1 v2 v3 v4 v5 v6 v7 v9 v10 v11 v12 v13 v14 1 σ r h
set_option maxHeartbeats 4000000 in
set_option maxRecDepth 100000 in
theorem wL_isPicture_L148 (sh : KSh) (hk : KAG sh) (l : Launch) (hst : l.stackTraces = false) (h8 : sh 134 = .inr (0, 10)) (K32 : Int32 → Int32 → Int32 → Int32 → Int32 → Int32 → Int32 → Int32 → Sto → Option (Bool × Sto)) (hK32 : ∀ (v1 : Int32), ∀ (v2 : Int32), ∀ (v3 : Int32), ∀ (v4 : Int32), ∀ (v5 : Int32), ∀ (v6 : Int32), ∀ (v7 : Int32), ∀ (v9 : Int32), ∀ (σ : Sto), ∀ (r : (Bool × Sto)), K32 v1 v2 v3 v4 v5 v6 v7 v9 σ = some r → VV sh l mL_isPicture 1 10 32 [(0, .ref 0), (1, .int v1), (2, .int v2), (3, .int v3), (4, .int v4), (5, .int v5), (6, .int v6), (7, .int v7), (8, .ref 134), (9, .int v9)] [] σ (0, .int (kb r.1), r.2)) (K42 : Int32 → Int32 → Int32 → Int32 → Int32 → Int32 → Int32 → Int32 → Int32 → Sto → Option (Bool × Sto)) (hK42 : ∀ (v1 : Int32), ∀ (v2 : Int32), ∀ (v3 : Int32), ∀ (v4 : Int32), ∀ (v5 : Int32), ∀ (v6 : Int32), ∀ (v7 : Int32), ∀ (v9 : Int32), ∀ (v10 : Int32), ∀ (σ : Sto), ∀ (r : (Bool × Sto)), K42 v1 v2 v3 v4 v5 v6 v7 v9 v10 σ = some r → VV sh l mL_isPicture 1 10 42 [(0, .ref 0), (1, .int v1), (2, .int v2), (3, .int v3), (4, .int v4), (5, .int v5), (6, .int v6), (7, .int v7), (8, .ref 134), (9, .int v9), (10, .int v10)] [] σ (0, .int (kb r.1), r.2)) : ∀ (v1 : Int32), ∀ (v2 : Int32), ∀ (v3 : Int32), ∀ (v4 : Int32), ∀ (v5 : Int32), ∀ (v6 : Int32), ∀ (v7 : Int32), ∀ (v9 : Int32), ∀ (v10 : Int32), ∀ (v11 : Int32), ∀ (v12 : Int32), ∀ (v13 : Int32), ∀ (v14 : Int32), ∀ (s0 : Int32), ∀ (σ : Sto), ∀ (r : (Bool × Sto)), fL_isPicture_L148 K32 K42 v1 v2 v3 v4 v5 v6 v7 v9 v10 v11 v12 v13 v14 s0 σ = some r → VV sh l mL_isPicture 1 10 148 [(0, .ref 0), (1, .int v1), (2, .int v2), (3, .int v3), (4, .int v4), (5, .int v5), (6, .int v6), (7, .int v7), (8, .ref 134), (9, .int v9), (10, .int v10), (11, .int v11), (12, .int v12), (13, .int v13), (14, .int v14)] [.int s0] σ (0, .int (kb r.1), r.2) := by
  intro v1 v2 v3 v4 v5 v6 v7 v9 v10 v11 v12 v13 v14 s0 σ r h
  rw [fL_isPicture_L148] at h
  refine kv_iload (pc := 148) 13 dL_isPicture_148 rfl ?_
  refine kv_bipush (pc := 150) (v := (-100)) dL_isPicture_150 (by decide) ?_
  refine kv_icmp_ne (pc := 152) (tgt := 159) dL_isPicture_152 (by decide) h (fun h => ?_) (fun h => ?_)
  · refine kv_iconst (pc := 159) (v := 0) dL_isPicture_159 (by decide) ?_
    refine kv_sub (pc := 160) [(0, .ref 0), (1, .int v1), (2, .int v2), (3, .int v3), (4, .int v4), (5, .int v5), (6, .int v6), (7, .int v7), (8, .ref 134), (9, .int v9), (10, .int v10), (11, .int v11), (12, .int v12), (13, .int v13), (14, .int v14)] [0, 1, 2, 3, 4, 5, 6, 7, 8, 9, 10, 11, 12, 13, 14] rfl ?_
    exact wL_isPicture_L160 sh hk l hst h8 K32 hK32 K42 hK42 v1 v2 v3 v4 v5 v6 v7 v9 v10 v11 v12 v13 v14 0 s0 σ r h
  · refine kv_iconst (pc := 155) (v := 1) dL_isPicture_155 (by decide) ?_
    refine kv_goto (pc := 156) (tgt := 160) dL_isPicture_156 (by decide) ?_
    refine kv_sub (pc := 160) [(0, .ref 0), (1, .int v1), (2, .int v2), (3, .int v3), (4, .int v4), (5, .int v5), (6, .int v6), (7, .int v7), (8, .ref 134), (9, .int v9), (10, .int v10), (11, .int v11), (12, .int v12), (13, .int v13), (14, .int v14)] [0, 1, 2, 3, 4, 5, 6, 7, 8, 9, 10, 11, 12, 13, 14] rfl ?_
    exact wL_isPicture_L160 sh hk l hst h8 K32 hK32 K42 hK42 v1 v2 v3 v4 v5 v6 v7 v9 v10 v11 v12 v13 v14 1 s0 σ r h
set_option maxHeartbeats 4000000 in
set_option maxRecDepth 100000 in
theorem wL_isPicture_L126 (sh : KSh) (hk : KAG sh) (l : Launch) (hst : l.stackTraces = false) (h8 : sh 134 = .inr (0, 10)) (K32 : Int32 → Int32 → Int32 → Int32 → Int32 → Int32 → Int32 → Int32 → Sto → Option (Bool × Sto)) (hK32 : ∀ (v1 : Int32), ∀ (v2 : Int32), ∀ (v3 : Int32), ∀ (v4 : Int32), ∀ (v5 : Int32), ∀ (v6 : Int32), ∀ (v7 : Int32), ∀ (v9 : Int32), ∀ (σ : Sto), ∀ (r : (Bool × Sto)), K32 v1 v2 v3 v4 v5 v6 v7 v9 σ = some r → VV sh l mL_isPicture 1 10 32 [(0, .ref 0), (1, .int v1), (2, .int v2), (3, .int v3), (4, .int v4), (5, .int v5), (6, .int v6), (7, .int v7), (8, .ref 134), (9, .int v9)] [] σ (0, .int (kb r.1), r.2)) (K42 : Int32 → Int32 → Int32 → Int32 → Int32 → Int32 → Int32 → Int32 → Int32 → Sto → Option (Bool × Sto)) (hK42 : ∀ (v1 : Int32), ∀ (v2 : Int32), ∀ (v3 : Int32), ∀ (v4 : Int32), ∀ (v5 : Int32), ∀ (v6 : Int32), ∀ (v7 : Int32), ∀ (v9 : Int32), ∀ (v10 : Int32), ∀ (σ : Sto), ∀ (r : (Bool × Sto)), K42 v1 v2 v3 v4 v5 v6 v7 v9 v10 σ = some r → VV sh l mL_isPicture 1 10 42 [(0, .ref 0), (1, .int v1), (2, .int v2), (3, .int v3), (4, .int v4), (5, .int v5), (6, .int v6), (7, .int v7), (8, .ref 134), (9, .int v9), (10, .int v10)] [] σ (0, .int (kb r.1), r.2)) : ∀ (v1 : Int32), ∀ (v2 : Int32), ∀ (v3 : Int32), ∀ (v4 : Int32), ∀ (v5 : Int32), ∀ (v6 : Int32), ∀ (v7 : Int32), ∀ (v9 : Int32), ∀ (v10 : Int32), ∀ (v11 : Int32), ∀ (v12 : Int32), ∀ (v13 : Int32), ∀ (v14 : Int32), ∀ (s0 : Int32), ∀ (σ : Sto), ∀ (r : (Bool × Sto)), fL_isPicture_L126 K32 K42 v1 v2 v3 v4 v5 v6 v7 v9 v10 v11 v12 v13 v14 s0 σ = some r → VV sh l mL_isPicture 1 10 126 [(0, .ref 0), (1, .int v1), (2, .int v2), (3, .int v3), (4, .int v4), (5, .int v5), (6, .int v6), (7, .int v7), (8, .ref 134), (9, .int v9), (10, .int v10), (11, .int v11), (12, .int v12), (13, .int v13), (14, .int v14)] [.int s0] σ (0, .int (kb r.1), r.2) := by
  intro v1 v2 v3 v4 v5 v6 v7 v9 v10 v11 v12 v13 v14 s0 σ r h
  rw [fL_isPicture_L126] at h
  refine kv_aload_n (pc := 126) 0 dL_isPicture_126 rfl rfl ?_
  refine kv_iload (pc := 127) 9 dL_isPicture_127 rfl ?_
  refine kv_iload (pc := 129) 10 dL_isPicture_129 rfl ?_
  refine kv_cS (pc := 131) [.ref 0, .int v9, .int v10] (fun r47 => (0, .int (kb r47.1), r47.2)) (fun r47 => (.int (kb r47.1) :: [.int s0])) (fun r47 => r47.2) 134 1 10 h (fun r47 g48 => tL_isBox sh hk l hst v9 v10 σ r47 g48) dL_isPicture_131 rfl yw_L_isBox lk_L_54 (by decide) (Nat.le_of_ble_eq_true rfl) (by decide) (fun _ => rfl) (fun _ => rfl) ⟨rfl, rfl, rfl⟩ (fun _ _ h0 => absurd rfl h0) (fun r47 g48 z49 h => ?_)
  refine kv_icmp_ne (pc := 134) (tgt := 189) dL_isPicture_134 (by decide) h (fun h => ?_) (fun h => ?_)
  · refine kv_iconst (pc := 189) (v := 0) dL_isPicture_189 (by decide) ?_
    exact kv_zret (pc := 190) dL_isPicture_190 rfl rfl (by cases h; rfl) (by decide) (by decide)
  · refine kv_iload (pc := 137) 12 dL_isPicture_137 rfl ?_
    refine kv_iconst (pc := 139) (v := (-1)) dL_isPicture_139 (by decide) ?_
    refine kv_icmp_ne (pc := 140) (tgt := 147) dL_isPicture_140 (by decide) h (fun h => ?_) (fun h => ?_)
    · refine kv_iconst (pc := 147) (v := 0) dL_isPicture_147 (by decide) ?_
      refine kv_sub (pc := 148) [(0, .ref 0), (1, .int v1), (2, .int v2), (3, .int v3), (4, .int v4), (5, .int v5), (6, .int v6), (7, .int v7), (8, .ref 134), (9, .int v9), (10, .int v10), (11, .int v11), (12, .int v12), (13, .int v13), (14, .int v14)] [0, 1, 2, 3, 4, 5, 6, 7, 8, 9, 10, 11, 12, 13, 14] rfl ?_
      exact wL_isPicture_L148 sh hk l hst h8 K32 hK32 K42 hK42 v1 v2 v3 v4 v5 v6 v7 v9 v10 v11 v12 v13 v14 0 r47.2 r h
    · refine kv_iconst (pc := 143) (v := 1) dL_isPicture_143 (by decide) ?_
      refine kv_goto (pc := 144) (tgt := 148) dL_isPicture_144 (by decide) ?_
      refine kv_sub (pc := 148) [(0, .ref 0), (1, .int v1), (2, .int v2), (3, .int v3), (4, .int v4), (5, .int v5), (6, .int v6), (7, .int v7), (8, .ref 134), (9, .int v9), (10, .int v10), (11, .int v11), (12, .int v12), (13, .int v13), (14, .int v14)] [0, 1, 2, 3, 4, 5, 6, 7, 8, 9, 10, 11, 12, 13, 14] rfl ?_
      exact wL_isPicture_L148 sh hk l hst h8 K32 hK32 K42 hK42 v1 v2 v3 v4 v5 v6 v7 v9 v10 v11 v12 v13 v14 1 r47.2 r h
set_option maxHeartbeats 4000000 in
set_option maxRecDepth 100000 in
theorem wL_isPicture_L42 (sh : KSh) (hk : KAG sh) (l : Launch) (hst : l.stackTraces = false) (h8 : sh 134 = .inr (0, 10)) (K32 : Int32 → Int32 → Int32 → Int32 → Int32 → Int32 → Int32 → Int32 → Sto → Option (Bool × Sto)) (hK32 : ∀ (v1 : Int32), ∀ (v2 : Int32), ∀ (v3 : Int32), ∀ (v4 : Int32), ∀ (v5 : Int32), ∀ (v6 : Int32), ∀ (v7 : Int32), ∀ (v9 : Int32), ∀ (σ : Sto), ∀ (r : (Bool × Sto)), K32 v1 v2 v3 v4 v5 v6 v7 v9 σ = some r → VV sh l mL_isPicture 1 10 32 [(0, .ref 0), (1, .int v1), (2, .int v2), (3, .int v3), (4, .int v4), (5, .int v5), (6, .int v6), (7, .int v7), (8, .ref 134), (9, .int v9)] [] σ (0, .int (kb r.1), r.2)) : ∀ (fu : Nat), ∀ (v1 : Int32), ∀ (v2 : Int32), ∀ (v3 : Int32), ∀ (v4 : Int32), ∀ (v5 : Int32), ∀ (v6 : Int32), ∀ (v7 : Int32), ∀ (v9 : Int32), ∀ (v10 : Int32), ∀ (σ : Sto), ∀ (r : (Bool × Sto)), fL_isPicture_L42 K32 fu v1 v2 v3 v4 v5 v6 v7 v9 v10 σ = some r → VV sh l mL_isPicture 1 10 42 [(0, .ref 0), (1, .int v1), (2, .int v2), (3, .int v3), (4, .int v4), (5, .int v5), (6, .int v6), (7, .int v7), (8, .ref 134), (9, .int v9), (10, .int v10)] [] σ (0, .int (kb r.1), r.2) := by
  intro fu
  induction fu with
  | zero => intro v1 v2 v3 v4 v5 v6 v7 v9 v10 σ r h; rw [fL_isPicture_L42] at h; cases h
  | succ fu ih =>
    intro v1 v2 v3 v4 v5 v6 v7 v9 v10 σ r h
    rw [fL_isPicture_L42] at h
    refine kv_iload (pc := 42) 10 dL_isPicture_42 rfl ?_
    refine kv_iload_n (pc := 44) 1 dL_isPicture_44 rfl rfl ?_
    refine kv_icmp_gt (pc := 45) (tgt := 422) dL_isPicture_45 (by decide) h (fun h => ?_) (fun h => ?_)
    · refine kv_iinc (pc := 422) (v := v9 + 1) 9 [(9, .int (v9 + 1)), (0, .ref 0), (1, .int v1), (2, .int v2), (3, .int v3), (4, .int v4), (5, .int v5), (6, .int v6), (7, .int v7), (8, .ref 134), (10, .int v10)] dL_isPicture_422 rfl rfl (by decide) rfl ?_
      refine kv_goto (pc := 425) (tgt := 32) dL_isPicture_425 (by decide) ?_
      refine kv_sub (pc := 32) [(0, .ref 0), (1, .int v1), (2, .int v2), (3, .int v3), (4, .int v4), (5, .int v5), (6, .int v6), (7, .int v7), (8, .ref 134), (9, .int (v9 + 1))] [1, 2, 3, 4, 5, 6, 7, 8, 9, 0] rfl ?_
      exact hK32 v1 v2 v3 v4 v5 v6 v7 (v9 + 1) σ r h
    · refine kv_aload_n (pc := 48) 0 dL_isPicture_48 rfl rfl ?_
      refine kv_iload (pc := 49) 9 dL_isPicture_49 rfl ?_
      refine kv_iload (pc := 51) 10 dL_isPicture_51 rfl ?_
      refine kv_cS (pc := 53) [.ref 0, .int v9, .int v10] (fun r31 => (0, .int (kb r31.1), r31.2)) (fun r31 => (.int (kb r31.1) :: [])) (fun r31 => r31.2) 56 1 10 h (fun r31 g32 => tL_isNear sh hk l hst v9 v10 σ r31 g32) dL_isPicture_53 rfl yw_L_isNear lk_L_39 (by decide) (Nat.le_of_ble_eq_true rfl) (by decide) (fun _ => rfl) (fun _ => rfl) ⟨rfl, rfl, rfl⟩ (fun _ _ h0 => absurd rfl h0) (fun r31 g32 z33 h => ?_)
      refine kv_ifb_ne (pc := 56) (tgt := 62) dL_isPicture_56 (by decide) h (fun h => ?_) (fun h => ?_)
      · refine kv_iinc (pc := 62) (v := v2 + 1) 2 [(2, .int (v2 + 1)), (0, .ref 0), (1, .int v1), (3, .int v3), (4, .int v4), (5, .int v5), (6, .int v6), (7, .int v7), (8, .ref 134), (9, .int v9), (10, .int v10)] dL_isPicture_62 rfl rfl (by decide) rfl ?_
        refine kv_aload_n (pc := 65) 1 dL_isPicture_65 rfl rfl ?_
        refine kv_iload (pc := 66) 9 dL_isPicture_66 rfl ?_
        refine kv_iload (pc := 68) 10 dL_isPicture_68 rfl ?_
        refine kv_cVn (pc := 70) [.int v9, .int v10] (fun r34 => (r34.1, .int r34.2.1, r34.2.2)) (fun r34 => (.int r34.2.1 :: [])) (fun r34 => r34.2.2) 73 1 10 h (fun r34 g35 hnt => tX6_colour sh hk l hst v9 v10 r31.2 r34 g35 hnt) dL_isPicture_70 rfl (ks_0 hk) rfl yw_X6_colour lk_L_43 (by decide) (Nat.le_of_ble_eq_true rfl) (by decide) (fun _ => rfl) (fun _ => rfl) ⟨rfl, rfl, rfl⟩ (fun r h => Decidable.byContradiction (fun h9 => by rw [if_neg h9] at h; cases h)) (fun r34 g35 z36 h => ?_)
        rw [if_pos z36] at h
        refine kv_istore (pc := 73) [(11, .int r34.2.1), (2, .int (v2 + 1)), (0, .ref 0), (1, .int v1), (3, .int v3), (4, .int v4), (5, .int v5), (6, .int v6), (7, .int v7), (8, .ref 134), (9, .int v9), (10, .int v10)] dL_isPicture_73 (by decide) rfl ?_
        refine kv_aload (pc := 75) 9 dL_isPicture_75 rfl ?_
        refine kv_iload (pc := 77) 0 dL_isPicture_77 rfl ?_
        refine kv_dup2 (pc := 79) dL_isPicture_79 rfl rfl ?_
        refine kv_iald (pc := 80) dL_isPicture_80 h8 h (fun h => ?_)
        refine kv_iconst (pc := 81) (v := 1) dL_isPicture_81 (by decide) ?_
        refine kv_iadd (pc := 82) dL_isPicture_82 ?_
        refine kv_iast (pc := 83) dL_isPicture_83 h8 h (fun h => ?_)
        refine kv_let h (fun σ37 h => ?_)
        refine kv_aload_n (pc := 84) 2 dL_isPicture_84 rfl rfl ?_
        refine kv_iload (pc := 85) 10 dL_isPicture_85 rfl ?_
        refine kv_iload (pc := 87) 11 dL_isPicture_87 rfl ?_
        refine kv_cVn (pc := 89) [.int v9, .int v10] (fun r38 => (r38.1, .int r38.2.1, r38.2.2)) (fun r38 => (.int r38.2.1 :: [])) (fun r38 => r38.2.2) 92 1 10 h (fun r38 g39 hnt => tX6_reflections sh hk l hst v9 v10 σ37 r38 g39 hnt) dL_isPicture_89 rfl (ks_0 hk) rfl yw_X6_reflections lk_L_47 (by decide) (Nat.le_of_ble_eq_true rfl) (by decide) (fun _ => rfl) (fun _ => rfl) ⟨rfl, rfl, rfl⟩ (fun r h => Decidable.byContradiction (fun h9 => by rw [if_neg h9] at h; cases h)) (fun r38 g39 z40 h => ?_)
        rw [if_pos z40] at h
        refine kv_istore (pc := 92) [(12, .int r38.2.1), (11, .int r34.2.1), (2, .int (v2 + 1)), (0, .ref 0), (1, .int v1), (3, .int v3), (4, .int v4), (5, .int v5), (6, .int v6), (7, .int v7), (8, .ref 134), (9, .int v9), (10, .int v10)] dL_isPicture_92 (by decide) rfl ?_
        refine kv_aload_n (pc := 94) 3 dL_isPicture_94 rfl rfl ?_
        refine kv_iload (pc := 95) 11 dL_isPicture_95 rfl ?_
        refine kv_iload (pc := 97) 12 dL_isPicture_97 rfl ?_
        refine kv_iconst (pc := 99) (v := 0) dL_isPicture_99 (by decide) ?_
        refine kv_cVn (pc := 100) [.int v9, .int v10, .int 0] (fun r41 => (r41.1, .int r41.2.1, r41.2.2)) (fun r41 => (.int r41.2.1 :: [])) (fun r41 => r41.2.2) 103 1 10 h (fun r41 g42 hnt => tX6_source sh hk l hst v9 v10 0 r38.2.2 r41 g42 hnt) dL_isPicture_100 rfl (ks_0 hk) rfl yw_X6_source lk_L_50 (by decide) (Nat.le_of_ble_eq_true rfl) (by decide) (fun _ => rfl) (fun _ => rfl) ⟨rfl, rfl, rfl⟩ (fun r h => Decidable.byContradiction (fun h9 => by rw [if_neg h9] at h; cases h)) (fun r41 g42 z43 h => ?_)
        rw [if_pos z43] at h
        refine kv_istore (pc := 103) [(13, .int r41.2.1), (12, .int r38.2.1), (11, .int r34.2.1), (2, .int (v2 + 1)), (0, .ref 0), (1, .int v1), (3, .int v3), (4, .int v4), (5, .int v5), (6, .int v6), (7, .int v7), (8, .ref 134), (9, .int v9), (10, .int v10)] dL_isPicture_103 (by decide) rfl ?_
        refine kv_aload_n (pc := 105) 4 dL_isPicture_105 rfl rfl ?_
        refine kv_iload (pc := 106) 12 dL_isPicture_106 rfl ?_
        refine kv_iload (pc := 108) 13 dL_isPicture_108 rfl ?_
        refine kv_iconst (pc := 110) (v := 1) dL_isPicture_110 (by decide) ?_
        refine kv_cVn (pc := 111) [.int v9, .int v10, .int 1] (fun r44 => (r44.1, .int r44.2.1, r44.2.2)) (fun r44 => (.int r44.2.1 :: [])) (fun r44 => r44.2.2) 114 1 10 h (fun r44 g45 hnt => tX6_source sh hk l hst v9 v10 1 r41.2.2 r44 g45 hnt) dL_isPicture_111 rfl (ks_0 hk) rfl yw_X6_source lk_L_50 (by decide) (Nat.le_of_ble_eq_true rfl) (by decide) (fun _ => rfl) (fun _ => rfl) ⟨rfl, rfl, rfl⟩ (fun r h => Decidable.byContradiction (fun h9 => by rw [if_neg h9] at h; cases h)) (fun r44 g45 z46 h => ?_)
        rw [if_pos z46] at h
        refine kv_istore (pc := 114) [(14, .int r44.2.1), (13, .int r41.2.1), (12, .int r38.2.1), (11, .int r34.2.1), (2, .int (v2 + 1)), (0, .ref 0), (1, .int v1), (3, .int v3), (4, .int v4), (5, .int v5), (6, .int v6), (7, .int v7), (8, .ref 134), (9, .int v9), (10, .int v10)] dL_isPicture_114 (by decide) rfl ?_
        refine kv_iload (pc := 116) 2 dL_isPicture_116 rfl ?_
        refine kv_if_ne (pc := 118) (tgt := 125) dL_isPicture_118 (by decide) h (fun h => ?_) (fun h => ?_)
        · refine kv_iconst (pc := 125) (v := 0) dL_isPicture_125 (by decide) ?_
          refine kv_sub (pc := 126) [(0, .ref 0), (1, .int v1), (2, .int (v2 + 1)), (3, .int v3), (4, .int v4), (5, .int v5), (6, .int v6), (7, .int v7), (8, .ref 134), (9, .int v9), (10, .int v10), (11, .int r34.2.1), (12, .int r38.2.1), (13, .int r41.2.1), (14, .int r44.2.1)] [5, 6, 4, 7, 8, 9, 10, 11, 12, 13, 14, 3, 2, 1, 0] rfl ?_
          exact wL_isPicture_L126 sh hk l hst h8 K32 hK32 (fL_isPicture_L42 K32 fu) ih v1 (v2 + 1) v3 v4 v5 v6 v7 v9 v10 r34.2.1 r38.2.1 r41.2.1 r44.2.1 0 r44.2.2 r h
        · refine kv_iconst (pc := 121) (v := 1) dL_isPicture_121 (by decide) ?_
          refine kv_goto (pc := 122) (tgt := 126) dL_isPicture_122 (by decide) ?_
          refine kv_sub (pc := 126) [(0, .ref 0), (1, .int v1), (2, .int (v2 + 1)), (3, .int v3), (4, .int v4), (5, .int v5), (6, .int v6), (7, .int v7), (8, .ref 134), (9, .int v9), (10, .int v10), (11, .int r34.2.1), (12, .int r38.2.1), (13, .int r41.2.1), (14, .int r44.2.1)] [5, 6, 4, 7, 8, 9, 10, 11, 12, 13, 14, 3, 2, 1, 0] rfl ?_
          exact wL_isPicture_L126 sh hk l hst h8 K32 hK32 (fL_isPicture_L42 K32 fu) ih v1 (v2 + 1) v3 v4 v5 v6 v7 v9 v10 r34.2.1 r38.2.1 r41.2.1 r44.2.1 1 r44.2.2 r h
      · refine kv_goto (pc := 59) (tgt := 416) dL_isPicture_59 (by decide) ?_
        refine kv_sub (pc := 416) [(0, .ref 0), (1, .int v1), (2, .int v2), (3, .int v3), (4, .int v4), (5, .int v5), (6, .int v6), (7, .int v7), (8, .ref 134), (9, .int v9), (10, .int v10)] [0, 1, 2, 3, 4, 5, 6, 7, 8, 9, 10] rfl ?_
        exact wL_isPicture_L416 sh hk l hst h8 K32 hK32 (fL_isPicture_L42 K32 fu) ih v1 v2 v3 v4 v5 v6 v7 v9 v10 r31.2 r h
set_option maxHeartbeats 4000000 in
set_option maxRecDepth 100000 in
theorem wL_isPicture_L32 (sh : KSh) (hk : KAG sh) (l : Launch) (hst : l.stackTraces = false) (h8 : sh 134 = .inr (0, 10)) : ∀ (fu : Nat), ∀ (v1 : Int32), ∀ (v2 : Int32), ∀ (v3 : Int32), ∀ (v4 : Int32), ∀ (v5 : Int32), ∀ (v6 : Int32), ∀ (v7 : Int32), ∀ (v9 : Int32), ∀ (σ : Sto), ∀ (r : (Bool × Sto)), fL_isPicture_L32 fu v1 v2 v3 v4 v5 v6 v7 v9 σ = some r → VV sh l mL_isPicture 1 10 32 [(0, .ref 0), (1, .int v1), (2, .int v2), (3, .int v3), (4, .int v4), (5, .int v5), (6, .int v6), (7, .int v7), (8, .ref 134), (9, .int v9)] [] σ (0, .int (kb r.1), r.2) := by
  intro fu
  induction fu with
  | zero => intro v1 v2 v3 v4 v5 v6 v7 v9 σ r h; rw [fL_isPicture_L32] at h; cases h
  | succ fu ih =>
    intro v1 v2 v3 v4 v5 v6 v7 v9 σ r h
    rw [fL_isPicture_L32] at h
    refine kv_iload (pc := 32) 9 dL_isPicture_32 rfl ?_
    refine kv_iload_n (pc := 34) 1 dL_isPicture_34 rfl rfl ?_
    refine kv_icmp_gt (pc := 35) (tgt := 428) dL_isPicture_35 (by decide) h (fun h => ?_) (fun h => ?_)
    · refine kv_iload_n (pc := 428) 2 dL_isPicture_428 rfl rfl ?_
      refine kv_aload_n (pc := 429) 0 dL_isPicture_429 rfl rfl ?_
      refine kv_bipush (pc := 430) (v := 8) dL_isPicture_430 (by decide) ?_
      refine kv_cVn (pc := 432) [.int 8] (fun r4 => (r4.1, .int r4.2.1, r4.2.2)) (fun r4 => (.int r4.2.1 :: [.int v2])) (fun r4 => r4.2.2) 435 1 10 h (fun r4 g5 hnt => tX6_count sh hk l hst 8 σ r4 g5 hnt) dL_isPicture_432 rfl (ks_0 hk) rfl yw_X6_count lk_L_27 (by decide) (Nat.le_of_ble_eq_true rfl) (by decide) (fun _ => rfl) (fun _ => rfl) ⟨rfl, rfl, rfl⟩ (fun r h => Decidable.byContradiction (fun h9 => by rw [if_neg h9] at h; cases h)) (fun r4 g5 z6 h => ?_)
      rw [if_pos z6] at h
      refine kv_icmp_ne (pc := 435) (tgt := 486) dL_isPicture_435 (by decide) h (fun h => ?_) (fun h => ?_)
      · refine kv_iconst (pc := 486) (v := 0) dL_isPicture_486 (by decide) ?_
        exact kv_zret (pc := 487) dL_isPicture_487 rfl rfl (by cases h; rfl) (by decide) (by decide)
      · refine kv_iload_n (pc := 438) 3 dL_isPicture_438 rfl rfl ?_
        refine kv_aload_n (pc := 439) 0 dL_isPicture_439 rfl rfl ?_
        refine kv_bipush (pc := 440) (v := 7) dL_isPicture_440 (by decide) ?_
        refine kv_cVn (pc := 442) [.int 7] (fun r7 => (r7.1, .int r7.2.1, r7.2.2)) (fun r7 => (.int r7.2.1 :: [.int v3])) (fun r7 => r7.2.2) 445 1 10 h (fun r7 g8 hnt => tX6_count sh hk l hst 7 r4.2.2 r7 g8 hnt) dL_isPicture_442 rfl (ks_0 hk) rfl yw_X6_count lk_L_27 (by decide) (Nat.le_of_ble_eq_true rfl) (by decide) (fun _ => rfl) (fun _ => rfl) ⟨rfl, rfl, rfl⟩ (fun r h => Decidable.byContradiction (fun h9 => by rw [if_neg h9] at h; cases h)) (fun r7 g8 z9 h => ?_)
        rw [if_pos z9] at h
        refine kv_icmp_ne (pc := 445) (tgt := 486) dL_isPicture_445 (by decide) h (fun h => ?_) (fun h => ?_)
        · refine kv_iconst (pc := 486) (v := 0) dL_isPicture_486 (by decide) ?_
          exact kv_zret (pc := 487) dL_isPicture_487 rfl rfl (by cases h; rfl) (by decide) (by decide)
        · refine kv_iload (pc := 448) 4 dL_isPicture_448 rfl ?_
          refine kv_aload_n (pc := 450) 0 dL_isPicture_450 rfl rfl ?_
          refine kv_bipush (pc := 451) (v := 9) dL_isPicture_451 (by decide) ?_
          refine kv_cVn (pc := 453) [.int 9] (fun r10 => (r10.1, .int r10.2.1, r10.2.2)) (fun r10 => (.int r10.2.1 :: [.int v4])) (fun r10 => r10.2.2) 456 1 10 h (fun r10 g11 hnt => tX6_count sh hk l hst 9 r7.2.2 r10 g11 hnt) dL_isPicture_453 rfl (ks_0 hk) rfl yw_X6_count lk_L_27 (by decide) (Nat.le_of_ble_eq_true rfl) (by decide) (fun _ => rfl) (fun _ => rfl) ⟨rfl, rfl, rfl⟩ (fun r h => Decidable.byContradiction (fun h9 => by rw [if_neg h9] at h; cases h)) (fun r10 g11 z12 h => ?_)
          rw [if_pos z12] at h
          refine kv_icmp_ne (pc := 456) (tgt := 486) dL_isPicture_456 (by decide) h (fun h => ?_) (fun h => ?_)
          · refine kv_iconst (pc := 486) (v := 0) dL_isPicture_486 (by decide) ?_
            exact kv_zret (pc := 487) dL_isPicture_487 rfl rfl (by cases h; rfl) (by decide) (by decide)
          · refine kv_iload (pc := 459) 5 dL_isPicture_459 rfl ?_
            refine kv_iload (pc := 461) 4 dL_isPicture_461 rfl ?_
            refine kv_icmp_ne (pc := 463) (tgt := 486) dL_isPicture_463 (by decide) h (fun h => ?_) (fun h => ?_)
            · refine kv_iconst (pc := 486) (v := 0) dL_isPicture_486 (by decide) ?_
              exact kv_zret (pc := 487) dL_isPicture_487 rfl rfl (by cases h; rfl) (by decide) (by decide)
            · refine kv_iload (pc := 466) 6 dL_isPicture_466 rfl ?_
              refine kv_aload_n (pc := 468) 0 dL_isPicture_468 rfl rfl ?_
              refine kv_bipush (pc := 469) (v := 6) dL_isPicture_469 (by decide) ?_
              refine kv_cVn (pc := 471) [.int 6] (fun r13 => (r13.1, .int r13.2.1, r13.2.2)) (fun r13 => (.int r13.2.1 :: [.int v6])) (fun r13 => r13.2.2) 474 1 10 h (fun r13 g14 hnt => tX6_count sh hk l hst 6 r10.2.2 r13 g14 hnt) dL_isPicture_471 rfl (ks_0 hk) rfl yw_X6_count lk_L_27 (by decide) (Nat.le_of_ble_eq_true rfl) (by decide) (fun _ => rfl) (fun _ => rfl) ⟨rfl, rfl, rfl⟩ (fun r h => Decidable.byContradiction (fun h9 => by rw [if_neg h9] at h; cases h)) (fun r13 g14 z15 h => ?_)
              rw [if_pos z15] at h
              refine kv_icmp_ne (pc := 474) (tgt := 486) dL_isPicture_474 (by decide) h (fun h => ?_) (fun h => ?_)
              · refine kv_iconst (pc := 486) (v := 0) dL_isPicture_486 (by decide) ?_
                exact kv_zret (pc := 487) dL_isPicture_487 rfl rfl (by cases h; rfl) (by decide) (by decide)
              · refine kv_iload (pc := 477) 7 dL_isPicture_477 rfl ?_
                refine kv_aload_n (pc := 479) 0 dL_isPicture_479 rfl rfl ?_
                refine kv_cV (pc := 480) [] (fun r16 => (0, .int r16.1, r16.2)) (fun r16 => (.int r16.1 :: [.int v7])) (fun r16 => r16.2) 483 1 10 h (fun r16 g17 => tX6_light sh hk l hst  r13.2.2 r16 g17) dL_isPicture_480 rfl (ks_0 hk) rfl yw_X6_light lk_L_69 (by decide) (Nat.le_of_ble_eq_true rfl) (by decide) (fun _ => rfl) (fun _ => rfl) ⟨rfl, rfl, rfl⟩ (fun _ _ h0 => absurd rfl h0) (fun r16 g17 z18 h => ?_)
                refine kv_icmp_eq (pc := 483) (tgt := 488) dL_isPicture_483 (by decide) h (fun h => ?_) (fun h => ?_)
                · refine kv_iconst (pc := 488) (v := 0) dL_isPicture_488 (by decide) ?_
                  refine kv_istore (pc := 489) [(9, .int 0), (0, .ref 0), (1, .int v1), (2, .int v2), (3, .int v3), (4, .int v4), (5, .int v5), (6, .int v6), (7, .int v7), (8, .ref 134)] dL_isPicture_489 (by decide) rfl ?_
                  refine kv_iconst (pc := 491) (v := 0) dL_isPicture_491 (by decide) ?_
                  refine kv_istore (pc := 492) [(10, .int 0), (9, .int 0), (0, .ref 0), (1, .int v1), (2, .int v2), (3, .int v3), (4, .int v4), (5, .int v5), (6, .int v6), (7, .int v7), (8, .ref 134)] dL_isPicture_492 (by decide) rfl ?_
                  refine kv_sub (pc := 494) [(0, .ref 0), (8, .ref 134), (9, .int 0), (10, .int 0)] [2, 10, 1, 0] rfl ?_
                  exact wL_isPicture_L494 sh hk l hst h8 kFU 0 0 r16.2 r h
                · refine kv_iconst (pc := 486) (v := 0) dL_isPicture_486 (by decide) ?_
                  exact kv_zret (pc := 487) dL_isPicture_487 rfl rfl (by cases h; rfl) (by decide) (by decide)
    · refine kv_iload_n (pc := 38) 1 dL_isPicture_38 rfl rfl ?_
      refine kv_ineg (pc := 39) dL_isPicture_39 ?_
      refine kv_istore (pc := 40) [(10, .int (-v1)), (0, .ref 0), (1, .int v1), (2, .int v2), (3, .int v3), (4, .int v4), (5, .int v5), (6, .int v6), (7, .int v7), (8, .ref 134), (9, .int v9)] dL_isPicture_40 (by decide) rfl ?_
      refine kv_sub (pc := 42) [(0, .ref 0), (1, .int v1), (2, .int v2), (3, .int v3), (4, .int v4), (5, .int v5), (6, .int v6), (7, .int v7), (8, .ref 134), (9, .int v9), (10, .int (-v1))] [1, 2, 3, 4, 5, 6, 7, 8, 9, 10, 0] rfl ?_
      exact wL_isPicture_L42 sh hk l hst h8 (fL_isPicture_L32 fu) ih kFU v1 v2 v3 v4 v5 v6 v7 v9 (-v1) σ r h
set_option maxHeartbeats 4000000 in
set_option maxRecDepth 100000 in
theorem wL_isPicture_L28 (sh : KSh) (hk : KAG sh) (l : Launch) (hst : l.stackTraces = false) (h8 : sh 134 = .inr (0, 10)) : ∀ (v1 : Int32), ∀ (v2 : Int32), ∀ (v3 : Int32), ∀ (v4 : Int32), ∀ (v5 : Int32), ∀ (v6 : Int32), ∀ (v7 : Int32), ∀ (σ : Sto), ∀ (r : (Bool × Sto)), fL_isPicture_L28 v1 v2 v3 v4 v5 v6 v7 σ = some r → VV sh l mL_isPicture 1 10 28 [(0, .ref 0), (1, .int v1), (2, .int v2), (3, .int v3), (4, .int v4), (5, .int v5), (6, .int v6), (7, .int v7), (8, .ref 134)] [] σ (0, .int (kb r.1), r.2) := by
  intro v1 v2 v3 v4 v5 v6 v7 σ r h
  rw [fL_isPicture_L28] at h
  refine kv_iload_n (pc := 28) 1 dL_isPicture_28 rfl rfl ?_
  refine kv_ineg (pc := 29) dL_isPicture_29 ?_
  refine kv_istore (pc := 30) [(9, .int (-v1)), (0, .ref 0), (1, .int v1), (2, .int v2), (3, .int v3), (4, .int v4), (5, .int v5), (6, .int v6), (7, .int v7), (8, .ref 134)] dL_isPicture_30 (by decide) rfl ?_
  refine kv_sub (pc := 32) [(0, .ref 0), (1, .int v1), (2, .int v2), (3, .int v3), (4, .int v4), (5, .int v5), (6, .int v6), (7, .int v7), (8, .ref 134), (9, .int (-v1))] [1, 2, 3, 4, 5, 6, 7, 8, 9, 0] rfl ?_
  exact wL_isPicture_L32 sh hk l hst h8 kFU v1 v2 v3 v4 v5 v6 v7 (-v1) σ r h
set_option maxHeartbeats 4000000 in
set_option maxRecDepth 100000 in
theorem tL_isPicture (sh : KSh) (hk : KAG sh) (l : Launch) (hst : l.stackTraces = false) (h10 : sh 134 = .inr (2, 0)) (σ : Sto) (r : (Bool × Sto)) (h : fL_isPicture σ = some r) : CT sh l mL_isPicture yL_isPicture [.ref 0] σ (0, .int (kb r.1), r.2) := by
  refine kct [(0, .ref 0)] hst (by decide +kernel) rfl rfl (Nat.le_of_ble_eq_true rfl) ?_
  rw [fL_isPicture] at h
  refine kv_aload_n (pc := 0) 0 dL_isPicture_0 rfl rfl ?_
  refine kv_iconst (pc := 1) (v := 1) dL_isPicture_1 (by decide) ?_
  refine kv_cVn (pc := 2) [.int 1] (fun r1 => (r1.1, .int r1.2.1, r1.2.2)) (fun r1 => (.int r1.2.1 :: [])) (fun r1 => r1.2.2) 5 0 0 h (fun r1 g2 hnt => tX6_count sh hk l hst 1 σ r1 g2 hnt) dL_isPicture_2 rfl (ks_0 hk) rfl yw_X6_count lk_L_27 (by decide) (Nat.le_of_ble_eq_true rfl) (by decide) (fun _ => rfl) (fun _ => rfl) ⟨rfl, rfl, rfl⟩ (fun r h => Decidable.byContradiction (fun h9 => by rw [if_neg h9] at h; cases h)) (fun r1 g2 z3 h => ?_)
  rw [if_pos z3] at h
  refine kv_istore_n (pc := 5) [(1, .int r1.2.1), (0, .ref 0)] dL_isPicture_5 rfl (by decide) rfl ?_
  refine kv_iconst (pc := 6) (v := 0) dL_isPicture_6 (by decide) ?_
  refine kv_istore_n (pc := 7) [(2, .int 0), (1, .int r1.2.1), (0, .ref 0)] dL_isPicture_7 rfl (by decide) rfl ?_
  refine kv_iconst (pc := 8) (v := 0) dL_isPicture_8 (by decide) ?_
  refine kv_istore_n (pc := 9) [(3, .int 0), (2, .int 0), (1, .int r1.2.1), (0, .ref 0)] dL_isPicture_9 rfl (by decide) rfl ?_
  refine kv_iconst (pc := 10) (v := 0) dL_isPicture_10 (by decide) ?_
  refine kv_istore (pc := 11) [(4, .int 0), (3, .int 0), (2, .int 0), (1, .int r1.2.1), (0, .ref 0)] dL_isPicture_11 (by decide) rfl ?_
  refine kv_iconst (pc := 13) (v := 0) dL_isPicture_13 (by decide) ?_
  refine kv_istore (pc := 14) [(5, .int 0), (4, .int 0), (3, .int 0), (2, .int 0), (1, .int r1.2.1), (0, .ref 0)] dL_isPicture_14 (by decide) rfl ?_
  refine kv_iconst (pc := 16) (v := 0) dL_isPicture_16 (by decide) ?_
  refine kv_istore (pc := 17) [(6, .int 0), (5, .int 0), (4, .int 0), (3, .int 0), (2, .int 0), (1, .int r1.2.1), (0, .ref 0)] dL_isPicture_17 (by decide) rfl ?_
  refine kv_iconst (pc := 19) (v := 0) dL_isPicture_19 (by decide) ?_
  refine kv_istore (pc := 20) [(7, .int 0), (6, .int 0), (5, .int 0), (4, .int 0), (3, .int 0), (2, .int 0), (1, .int r1.2.1), (0, .ref 0)] dL_isPicture_20 (by decide) rfl ?_
  refine kv_bipush (pc := 22) (v := 10) dL_isPicture_22 (by decide) ?_
  refine kv_newa (pc := 24) hk dL_isPicture_24 io_i h10 (by decide) (by simp) (by simp) (by simp) ?_
  refine kv_astore (pc := 26) [(8, .ref 134), (7, .int 0), (6, .int 0), (5, .int 0), (4, .int 0), (3, .int 0), (2, .int 0), (1, .int r1.2.1), (0, .ref 0)] dL_isPicture_26 (by decide) rfl ?_
  refine kv_sub (pc := 28) [(0, .ref 0), (1, .int r1.2.1), (2, .int 0), (3, .int 0), (4, .int 0), (5, .int 0), (6, .int 0), (7, .int 0), (8, .ref 134)] [8, 7, 6, 5, 4, 3, 2, 1, 0] rfl ?_
  exact wL_isPicture_L28 (kad sh) (kad_hk hk) l hst (kad_134 sh) r1.2.1 0 0 0 0 0 0 (sur r1.2.2 134 (fun _ => 0)) r h
theorem dL_hasMaps_0 : decode cL_hasMaps 0 = .ok (.aload_n 0, 1) := by decide +kernel
theorem dL_hasMaps_1 : decode cL_hasMaps 1 = .ok (.invokevirtual 81, 3) := by decide +kernel
theorem dL_hasMaps_4 : decode cL_hasMaps 4 = .ok (.istore_n 1, 1) := by decide +kernel
theorem dL_hasMaps_5 : decode cL_hasMaps 5 = .ok (.aload_n 0, 1) := by decide +kernel
theorem dL_hasMaps_6 : decode cL_hasMaps 6 = .ok (.invokevirtual 84, 3) := by decide +kernel
theorem dL_hasMaps_9 : decode cL_hasMaps 9 = .ok (.istore_n 2, 1) := by decide +kernel
theorem dL_hasMaps_10 : decode cL_hasMaps 10 = .ok (.iload_n 1, 1) := by decide +kernel
theorem dL_hasMaps_11 : decode cL_hasMaps 11 = .ok (.iconst 1, 1) := by decide +kernel
theorem dL_hasMaps_12 : decode cL_hasMaps 12 = .ok (.iand, 1) := by decide +kernel
theorem dL_hasMaps_13 : decode cL_hasMaps 13 = .ok (.ifCond .eq 9, 3) := by decide +kernel
theorem dL_hasMaps_16 : decode cL_hasMaps 16 = .ok (.iload_n 2, 1) := by decide +kernel
theorem dL_hasMaps_17 : decode cL_hasMaps 17 = .ok (.iconst 1, 1) := by decide +kernel
theorem dL_hasMaps_18 : decode cL_hasMaps 18 = .ok (.iand, 1) := by decide +kernel
theorem dL_hasMaps_19 : decode cL_hasMaps 19 = .ok (.ifCond .ne 5, 3) := by decide +kernel
theorem dL_hasMaps_22 : decode cL_hasMaps 22 = .ok (.iconst 0, 1) := by decide +kernel
theorem dL_hasMaps_23 : decode cL_hasMaps 23 = .ok (.ireturn, 1) := by decide +kernel
theorem dL_hasMaps_24 : decode cL_hasMaps 24 = .ok (.aload_n 0, 1) := by decide +kernel
theorem dL_hasMaps_25 : decode cL_hasMaps 25 = .ok (.bipush 10, 2) := by decide +kernel
theorem dL_hasMaps_27 : decode cL_hasMaps 27 = .ok (.invokevirtual 27, 3) := by decide +kernel
theorem dL_hasMaps_30 : decode cL_hasMaps 30 = .ok (.ifCond .ne 13, 3) := by decide +kernel
theorem dL_hasMaps_33 : decode cL_hasMaps 33 = .ok (.iload_n 2, 1) := by decide +kernel
theorem dL_hasMaps_34 : decode cL_hasMaps 34 = .ok (.iload_n 1, 1) := by decide +kernel
theorem dL_hasMaps_35 : decode cL_hasMaps 35 = .ok (.iconst (-1), 1) := by decide +kernel
theorem dL_hasMaps_36 : decode cL_hasMaps 36 = .ok (.ixor, 1) := by decide +kernel
theorem dL_hasMaps_37 : decode cL_hasMaps 37 = .ok (.iand, 1) := by decide +kernel
theorem dL_hasMaps_38 : decode cL_hasMaps 38 = .ok (.ifCond .eq 5, 3) := by decide +kernel
theorem dL_hasMaps_41 : decode cL_hasMaps 41 = .ok (.iconst 0, 1) := by decide +kernel
theorem dL_hasMaps_42 : decode cL_hasMaps 42 = .ok (.ireturn, 1) := by decide +kernel
theorem dL_hasMaps_43 : decode cL_hasMaps 43 = .ok (.aload_n 0, 1) := by decide +kernel
theorem dL_hasMaps_44 : decode cL_hasMaps 44 = .ok (.iconst 0, 1) := by decide +kernel
theorem dL_hasMaps_45 : decode cL_hasMaps 45 = .ok (.invokevirtual 87, 3) := by decide +kernel
theorem dL_hasMaps_48 : decode cL_hasMaps 48 = .ok (.aload_n 0, 1) := by decide +kernel
theorem dL_hasMaps_49 : decode cL_hasMaps 49 = .ok (.iconst 0, 1) := by decide +kernel
theorem dL_hasMaps_50 : decode cL_hasMaps 50 = .ok (.invokevirtual 91, 3) := by decide +kernel
theorem dL_hasMaps_53 : decode cL_hasMaps 53 = .ok (.ifCond .ne 7, 3) := by decide +kernel
theorem dL_hasMaps_56 : decode cL_hasMaps 56 = .ok (.iconst 1, 1) := by decide +kernel
theorem dL_hasMaps_57 : decode cL_hasMaps 57 = .ok (.goto 4, 3) := by decide +kernel
theorem dL_hasMaps_60 : decode cL_hasMaps 60 = .ok (.iconst 0, 1) := by decide +kernel
theorem dL_hasMaps_61 : decode cL_hasMaps 61 = .ok (.ireturn, 1) := by decide +kernel
abbrev mL_hasMaps : KM := (RL, cL_hasMaps, 3, (some .boolean), { frames := 9, cells := 0, slots := 0, locals := 156 }, 0, 0)
def fL_hasMaps_L43 (σ : Sto) : Option (Bool × Sto) :=
  (fX6_save 0 σ).bind fun r7 =>
  if r7.1 = 0 then
    (fX6_matches 0 r7.2.2).bind fun r10 =>
    if r10.1 = 0 then
      if r10.2.1 = 0 then
        some (true, r10.2.2)
      else
        some (false, r10.2.2)
    else none
  else none
def fL_hasMaps (σ : Sto) : Option (Bool × Sto) :=
  (fX6_symmetries σ).bind fun r1 =>
  if (r1.1 &&& 1) = 0 then
    some (false, r1.2)
  else
    if ((fX6_ownMaps r1.2) &&& 1) = 0 then
      some (false, r1.2)
    else
      (fX6_count 10 r1.2).bind fun r4 =>
      if r4.1 = 0 then
        if r4.2.1 = 0 then
          if ((fX6_ownMaps r1.2) &&& (r1.1 ^^^ (-1))) = 0 then
            fL_hasMaps_L43 r4.2.2
          else
            some (false, r4.2.2)
        else
          fL_hasMaps_L43 r4.2.2
      else none
set_option maxHeartbeats 4000000 in
set_option maxRecDepth 100000 in
theorem wL_hasMaps_L43 (sh : KSh) (hk : KAG sh) (l : Launch) (hst : l.stackTraces = false) : ∀ (σ : Sto), ∀ (r : (Bool × Sto)), fL_hasMaps_L43 σ = some r → VV sh l mL_hasMaps 0 0 43 [(0, .ref 0)] [] σ (0, .int (kb r.1), r.2) := by
  intro σ r h
  rw [fL_hasMaps_L43] at h
  refine kv_aload_n (pc := 43) 0 dL_hasMaps_43 rfl rfl ?_
  refine kv_iconst (pc := 44) (v := 0) dL_hasMaps_44 (by decide) ?_
  refine kv_cVn (pc := 45) [.int 0] (fun r7 => (r7.1, .int r7.2.1, r7.2.2)) (fun r7 => []) (fun r7 => r7.2.2) 48 0 0 h (fun r7 g8 hnt => tX6_save sh hk l hst 0 σ r7 g8 hnt) dL_hasMaps_45 rfl (ks_0 hk) rfl yw_X6_save lk_L_87 (by decide) (Nat.le_of_ble_eq_true rfl) (by decide) (fun _ => rfl) (fun _ => rfl) ⟨rfl, rfl, rfl⟩ (fun r h => Decidable.byContradiction (fun h9 => by rw [if_neg h9] at h; cases h)) (fun r7 g8 z9 h => ?_)
  rw [if_pos z9] at h
  refine kv_aload_n (pc := 48) 0 dL_hasMaps_48 rfl rfl ?_
  refine kv_iconst (pc := 49) (v := 0) dL_hasMaps_49 (by decide) ?_
  refine kv_cVn (pc := 50) [.int 0] (fun r10 => (r10.1, .int r10.2.1, r10.2.2)) (fun r10 => (.int r10.2.1 :: [])) (fun r10 => r10.2.2) 53 0 0 h (fun r10 g11 hnt => tX6_matches sh hk l hst 0 r7.2.2 r10 g11 hnt) dL_hasMaps_50 rfl (ks_0 hk) rfl yw_X6_matches lk_L_91 (by decide) (Nat.le_of_ble_eq_true rfl) (by decide) (fun _ => rfl) (fun _ => rfl) ⟨rfl, rfl, rfl⟩ (fun r h => Decidable.byContradiction (fun h9 => by rw [if_neg h9] at h; cases h)) (fun r10 g11 z12 h => ?_)
  rw [if_pos z12] at h
  refine kv_if_ne (pc := 53) (tgt := 60) dL_hasMaps_53 (by decide) h (fun h => ?_) (fun h => ?_)
  · refine kv_iconst (pc := 60) (v := 0) dL_hasMaps_60 (by decide) ?_
    exact kv_zret (pc := 61) dL_hasMaps_61 rfl rfl (by cases h; rfl) (by decide) (by decide)
  · refine kv_iconst (pc := 56) (v := 1) dL_hasMaps_56 (by decide) ?_
    refine kv_goto (pc := 57) (tgt := 61) dL_hasMaps_57 (by decide) ?_
    exact kv_zret (pc := 61) dL_hasMaps_61 rfl rfl (by cases h; rfl) (by decide) (by decide)
set_option maxHeartbeats 4000000 in
set_option maxRecDepth 100000 in
theorem tL_hasMaps (sh : KSh) (hk : KAG sh) (l : Launch) (hst : l.stackTraces = false) (σ : Sto) (r : (Bool × Sto)) (h : fL_hasMaps σ = some r) : CT sh l mL_hasMaps yL_hasMaps [.ref 0] σ (0, .int (kb r.1), r.2) := by
  refine kct [(0, .ref 0)] hst (by decide +kernel) rfl rfl (Nat.le_of_ble_eq_true rfl) ?_
  rw [fL_hasMaps] at h
  refine kv_aload_n (pc := 0) 0 dL_hasMaps_0 rfl rfl ?_
  refine kv_cV (pc := 1) [] (fun r1 => (0, .int r1.1, r1.2)) (fun r1 => (.int r1.1 :: [])) (fun r1 => r1.2) 4 0 0 h (fun r1 g2 => tX6_symmetries sh hk l hst  σ r1 g2) dL_hasMaps_1 rfl (ks_0 hk) rfl yw_X6_symmetries lk_L_81 (by decide) (Nat.le_of_ble_eq_true rfl) (by decide) (fun _ => rfl) (fun _ => rfl) ⟨rfl, rfl, rfl⟩ (fun _ _ h0 => absurd rfl h0) (fun r1 g2 z3 h => ?_)
  refine kv_istore_n (pc := 4) [(1, .int r1.1), (0, .ref 0)] dL_hasMaps_4 rfl (by decide) rfl ?_
  refine kv_aload_n (pc := 5) 1 dL_hasMaps_5 rfl rfl ?_
  refine kv_tV (pc := 6) (v := .int (fX6_ownMaps r1.2)) [] (.int (fX6_ownMaps r1.2) :: []) 9 0 0 (tX6_ownMaps sh hk l hst  r1.2) dL_hasMaps_6 rfl (ks_0 hk) rfl yw_X6_ownMaps lk_L_84 (by decide) (Nat.le_of_ble_eq_true rfl) (by decide) rfl ⟨rfl, rfl, rfl⟩ ?_
  refine kv_istore_n (pc := 9) [(2, .int (fX6_ownMaps r1.2)), (1, .int r1.1), (0, .ref 0)] dL_hasMaps_9 rfl (by decide) rfl ?_
  refine kv_iload_n (pc := 10) 1 dL_hasMaps_10 rfl rfl ?_
  refine kv_iconst (pc := 11) (v := 1) dL_hasMaps_11 (by decide) ?_
  refine kv_iand (pc := 12) dL_hasMaps_12 ?_
  refine kv_if_eq (pc := 13) (tgt := 22) dL_hasMaps_13 (by decide) h (fun h => ?_) (fun h => ?_)
  · refine kv_iconst (pc := 22) (v := 0) dL_hasMaps_22 (by decide) ?_
    exact kv_zret (pc := 23) dL_hasMaps_23 rfl rfl (by cases h; rfl) (by decide) (by decide)
  · refine kv_iload_n (pc := 16) 0 dL_hasMaps_16 rfl rfl ?_
    refine kv_iconst (pc := 17) (v := 1) dL_hasMaps_17 (by decide) ?_
    refine kv_iand (pc := 18) dL_hasMaps_18 ?_
    refine kv_if_ne (pc := 19) (tgt := 24) dL_hasMaps_19 (by decide) h (fun h => ?_) (fun h => ?_)
    · refine kv_aload_n (pc := 24) 2 dL_hasMaps_24 rfl rfl ?_
      refine kv_bipush (pc := 25) (v := 10) dL_hasMaps_25 (by decide) ?_
      refine kv_cVn (pc := 27) [.int 10] (fun r4 => (r4.1, .int r4.2.1, r4.2.2)) (fun r4 => (.int r4.2.1 :: [])) (fun r4 => r4.2.2) 30 0 0 h (fun r4 g5 hnt => tX6_count sh hk l hst 10 r1.2 r4 g5 hnt) dL_hasMaps_27 rfl (ks_0 hk) rfl yw_X6_count lk_L_27 (by decide) (Nat.le_of_ble_eq_true rfl) (by decide) (fun _ => rfl) (fun _ => rfl) ⟨rfl, rfl, rfl⟩ (fun r h => Decidable.byContradiction (fun h9 => by rw [if_neg h9] at h; cases h)) (fun r4 g5 z6 h => ?_)
      rw [if_pos z6] at h
      refine kv_if_ne (pc := 30) (tgt := 43) dL_hasMaps_30 (by decide) h (fun h => ?_) (fun h => ?_)
      · refine kv_sub (pc := 43) [(0, .ref 0)] [2] rfl ?_
        exact wL_hasMaps_L43 sh hk l hst r4.2.2 r h
      · refine kv_iload_n (pc := 33) 0 dL_hasMaps_33 rfl rfl ?_
        refine kv_iload_n (pc := 34) 1 dL_hasMaps_34 rfl rfl ?_
        refine kv_iconst (pc := 35) (v := (-1)) dL_hasMaps_35 (by decide) ?_
        refine kv_ixor (pc := 36) dL_hasMaps_36 ?_
        refine kv_iand (pc := 37) dL_hasMaps_37 ?_
        refine kv_if_eq (pc := 38) (tgt := 43) dL_hasMaps_38 (by decide) h (fun h => ?_) (fun h => ?_)
        · refine kv_sub (pc := 43) [(0, .ref 0)] [2] rfl ?_
          exact wL_hasMaps_L43 sh hk l hst r4.2.2 r h
        · refine kv_iconst (pc := 41) (v := 0) dL_hasMaps_41 (by decide) ?_
          exact kv_zret (pc := 42) dL_hasMaps_42 rfl rfl (by cases h; rfl) (by decide) (by decide)
    · refine kv_iconst (pc := 22) (v := 0) dL_hasMaps_22 (by decide) ?_
      exact kv_zret (pc := 23) dL_hasMaps_23 rfl rfl (by cases h; rfl) (by decide) (by decide)
theorem yw_L_hasMaps : KMS yL_hasMaps mL_hasMaps 1 := ⟨⟨by decide +kernel, by decide +kernel, by decide +kernel⟩, ⟨rfl, rfl⟩, kg_in 1015 (by decide +kernel) (by decide +kernel), kg_in 45 (by decide +kernel) (by decide +kernel), kg_in 1016 (by decide +kernel) (by decide +kernel)⟩
theorem dL_falls_0 : decode cL_falls 0 = .ok (.aload_n 0, 1) := by decide +kernel
theorem dL_falls_1 : decode cL_falls 1 = .ok (.invokevirtual 94, 3) := by decide +kernel
theorem dL_falls_4 : decode cL_falls 4 = .ok (.istore_n 1, 1) := by decide +kernel
theorem dL_falls_5 : decode cL_falls 5 = .ok (.aload_n 0, 1) := by decide +kernel
theorem dL_falls_6 : decode cL_falls 6 = .ok (.bipush 11, 2) := by decide +kernel
theorem dL_falls_8 : decode cL_falls 8 = .ok (.invokevirtual 27, 3) := by decide +kernel
theorem dL_falls_11 : decode cL_falls 11 = .ok (.istore_n 2, 1) := by decide +kernel
theorem dL_falls_12 : decode cL_falls 12 = .ok (.aload_n 0, 1) := by decide +kernel
theorem dL_falls_13 : decode cL_falls 13 = .ok (.iconst 4, 1) := by decide +kernel
theorem dL_falls_14 : decode cL_falls 14 = .ok (.invokevirtual 27, 3) := by decide +kernel
theorem dL_falls_17 : decode cL_falls 17 = .ok (.istore_n 3, 1) := by decide +kernel
theorem dL_falls_18 : decode cL_falls 18 = .ok (.iload_n 1, 1) := by decide +kernel
theorem dL_falls_19 : decode cL_falls 19 = .ok (.ifCond .ne 45, 3) := by decide +kernel
theorem dL_falls_22 : decode cL_falls 22 = .ok (.aload_n 0, 1) := by decide +kernel
theorem dL_falls_23 : decode cL_falls 23 = .ok (.invokevirtual 97, 3) := by decide +kernel
theorem dL_falls_26 : decode cL_falls 26 = .ok (.bipush (-5), 2) := by decide +kernel
theorem dL_falls_28 : decode cL_falls 28 = .ok (.if_icmp .ne 34, 3) := by decide +kernel
theorem dL_falls_31 : decode cL_falls 31 = .ok (.aload_n 0, 1) := by decide +kernel
theorem dL_falls_32 : decode cL_falls 32 = .ok (.invokevirtual 100, 3) := by decide +kernel
theorem dL_falls_35 : decode cL_falls 35 = .ok (.bipush (-5), 2) := by decide +kernel
theorem dL_falls_37 : decode cL_falls 37 = .ok (.if_icmp .ne 25, 3) := by decide +kernel
theorem dL_falls_40 : decode cL_falls 40 = .ok (.aload_n 0, 1) := by decide +kernel
theorem dL_falls_41 : decode cL_falls 41 = .ok (.iconst 0, 1) := by decide +kernel
theorem dL_falls_42 : decode cL_falls 42 = .ok (.iconst 0, 1) := by decide +kernel
theorem dL_falls_43 : decode cL_falls 43 = .ok (.invokevirtual 103, 3) := by decide +kernel
theorem dL_falls_46 : decode cL_falls 46 = .ok (.ifCond .ne 16, 3) := by decide +kernel
theorem dL_falls_49 : decode cL_falls 49 = .ok (.aload_n 0, 1) := by decide +kernel
theorem dL_falls_50 : decode cL_falls 50 = .ok (.iconst 0, 1) := by decide +kernel
theorem dL_falls_51 : decode cL_falls 51 = .ok (.iconst 1, 1) := by decide +kernel
theorem dL_falls_52 : decode cL_falls 52 = .ok (.invokevirtual 103, 3) := by decide +kernel
theorem dL_falls_55 : decode cL_falls 55 = .ok (.ifCond .ne 7, 3) := by decide +kernel
theorem dL_falls_58 : decode cL_falls 58 = .ok (.iconst 1, 1) := by decide +kernel
theorem dL_falls_59 : decode cL_falls 59 = .ok (.goto 4, 3) := by decide +kernel
theorem dL_falls_62 : decode cL_falls 62 = .ok (.iconst 0, 1) := by decide +kernel
theorem dL_falls_63 : decode cL_falls 63 = .ok (.ireturn, 1) := by decide +kernel
theorem dL_falls_64 : decode cL_falls 64 = .ok (.aload_n 0, 1) := by decide +kernel
theorem dL_falls_65 : decode cL_falls 65 = .ok (.invokevirtual 97, 3) := by decide +kernel
theorem dL_falls_68 : decode cL_falls 68 = .ok (.iload_n 1, 1) := by decide +kernel
theorem dL_falls_69 : decode cL_falls 69 = .ok (.if_icmp .ne 50, 3) := by decide +kernel
theorem dL_falls_72 : decode cL_falls 72 = .ok (.aload_n 0, 1) := by decide +kernel
theorem dL_falls_73 : decode cL_falls 73 = .ok (.bipush 11, 2) := by decide +kernel
theorem dL_falls_75 : decode cL_falls 75 = .ok (.invokevirtual 27, 3) := by decide +kernel
theorem dL_falls_78 : decode cL_falls 78 = .ok (.iload_n 2, 1) := by decide +kernel
theorem dL_falls_79 : decode cL_falls 79 = .ok (.iload_n 1, 1) := by decide +kernel
theorem dL_falls_80 : decode cL_falls 80 = .ok (.iadd, 1) := by decide +kernel
theorem dL_falls_81 : decode cL_falls 81 = .ok (.if_icmp .ne 38, 3) := by decide +kernel
theorem dL_falls_84 : decode cL_falls 84 = .ok (.aload_n 0, 1) := by decide +kernel
theorem dL_falls_85 : decode cL_falls 85 = .ok (.iconst 4, 1) := by decide +kernel
theorem dL_falls_86 : decode cL_falls 86 = .ok (.invokevirtual 27, 3) := by decide +kernel
theorem dL_falls_89 : decode cL_falls 89 = .ok (.iload_n 3, 1) := by decide +kernel
theorem dL_falls_90 : decode cL_falls 90 = .ok (.iconst 1, 1) := by decide +kernel
theorem dL_falls_91 : decode cL_falls 91 = .ok (.iadd, 1) := by decide +kernel
theorem dL_falls_92 : decode cL_falls 92 = .ok (.if_icmp .ne 27, 3) := by decide +kernel
theorem dL_falls_95 : decode cL_falls 95 = .ok (.aload_n 0, 1) := by decide +kernel
theorem dL_falls_96 : decode cL_falls 96 = .ok (.invokevirtual 106, 3) := by decide +kernel
theorem dL_falls_99 : decode cL_falls 99 = .ok (.ifCond .lt 20, 3) := by decide +kernel
theorem dL_falls_102 : decode cL_falls 102 = .ok (.aload_n 0, 1) := by decide +kernel
theorem dL_falls_103 : decode cL_falls 103 = .ok (.invokevirtual 94, 3) := by decide +kernel
theorem dL_falls_106 : decode cL_falls 106 = .ok (.iload_n 1, 1) := by decide +kernel
theorem dL_falls_107 : decode cL_falls 107 = .ok (.if_icmp .ne 12, 3) := by decide +kernel
theorem dL_falls_110 : decode cL_falls 110 = .ok (.aload_n 0, 1) := by decide +kernel
theorem dL_falls_111 : decode cL_falls 111 = .ok (.iconst 4, 1) := by decide +kernel
theorem dL_falls_112 : decode cL_falls 112 = .ok (.invokevirtual 27, 3) := by decide +kernel
theorem dL_falls_115 : decode cL_falls 115 = .ok (.iload_n 3, 1) := by decide +kernel
theorem dL_falls_116 : decode cL_falls 116 = .ok (.if_icmp .eq 5, 3) := by decide +kernel
theorem dL_falls_119 : decode cL_falls 119 = .ok (.iconst 0, 1) := by decide +kernel
theorem dL_falls_120 : decode cL_falls 120 = .ok (.ireturn, 1) := by decide +kernel
theorem dL_falls_121 : decode cL_falls 121 = .ok (.aload_n 0, 1) := by decide +kernel
theorem dL_falls_122 : decode cL_falls 122 = .ok (.iconst 0, 1) := by decide +kernel
theorem dL_falls_123 : decode cL_falls 123 = .ok (.iconst 0, 1) := by decide +kernel
theorem dL_falls_124 : decode cL_falls 124 = .ok (.invokevirtual 103, 3) := by decide +kernel
theorem dL_falls_127 : decode cL_falls 127 = .ok (.istore 4, 2) := by decide +kernel
theorem dL_falls_129 : decode cL_falls 129 = .ok (.aload_n 0, 1) := by decide +kernel
theorem dL_falls_130 : decode cL_falls 130 = .ok (.iconst 0, 1) := by decide +kernel
theorem dL_falls_131 : decode cL_falls 131 = .ok (.iconst 1, 1) := by decide +kernel
theorem dL_falls_132 : decode cL_falls 132 = .ok (.invokevirtual 103, 3) := by decide +kernel
theorem dL_falls_135 : decode cL_falls 135 = .ok (.istore 5, 2) := by decide +kernel
theorem dL_falls_137 : decode cL_falls 137 = .ok (.aload_n 0, 1) := by decide +kernel
theorem dL_falls_138 : decode cL_falls 138 = .ok (.iconst 0, 1) := by decide +kernel
theorem dL_falls_139 : decode cL_falls 139 = .ok (.iconst 2, 1) := by decide +kernel
theorem dL_falls_140 : decode cL_falls 140 = .ok (.invokevirtual 103, 3) := by decide +kernel
theorem dL_falls_143 : decode cL_falls 143 = .ok (.istore 6, 2) := by decide +kernel
theorem dL_falls_145 : decode cL_falls 145 = .ok (.aload_n 0, 1) := by decide +kernel
theorem dL_falls_146 : decode cL_falls 146 = .ok (.iconst 0, 1) := by decide +kernel
theorem dL_falls_147 : decode cL_falls 147 = .ok (.iconst 3, 1) := by decide +kernel
theorem dL_falls_148 : decode cL_falls 148 = .ok (.invokevirtual 103, 3) := by decide +kernel
theorem dL_falls_151 : decode cL_falls 151 = .ok (.istore 7, 2) := by decide +kernel
theorem dL_falls_153 : decode cL_falls 153 = .ok (.aload_n 0, 1) := by decide +kernel
theorem dL_falls_154 : decode cL_falls 154 = .ok (.iconst 0, 1) := by decide +kernel
theorem dL_falls_155 : decode cL_falls 155 = .ok (.iconst 4, 1) := by decide +kernel
theorem dL_falls_156 : decode cL_falls 156 = .ok (.invokevirtual 103, 3) := by decide +kernel
theorem dL_falls_159 : decode cL_falls 159 = .ok (.istore 8, 2) := by decide +kernel
theorem dL_falls_161 : decode cL_falls 161 = .ok (.bipush (-100), 2) := by decide +kernel
theorem dL_falls_163 : decode cL_falls 163 = .ok (.istore 9, 2) := by decide +kernel
theorem dL_falls_165 : decode cL_falls 165 = .ok (.bipush (-100), 2) := by decide +kernel
theorem dL_falls_167 : decode cL_falls 167 = .ok (.istore 10, 2) := by decide +kernel
theorem dL_falls_169 : decode cL_falls 169 = .ok (.iconst (-1), 1) := by decide +kernel
theorem dL_falls_170 : decode cL_falls 170 = .ok (.istore 11, 2) := by decide +kernel
theorem dL_falls_172 : decode cL_falls 172 = .ok (.iconst 0, 1) := by decide +kernel
theorem dL_falls_173 : decode cL_falls 173 = .ok (.istore 12, 2) := by decide +kernel
theorem dL_falls_175 : decode cL_falls 175 = .ok (.iload 12, 2) := by decide +kernel
theorem dL_falls_177 : decode cL_falls 177 = .ok (.aload_n 0, 1) := by decide +kernel
theorem dL_falls_178 : decode cL_falls 178 = .ok (.iconst 5, 1) := by decide +kernel
theorem dL_falls_179 : decode cL_falls 179 = .ok (.invokevirtual 27, 3) := by decide +kernel
theorem dL_falls_182 : decode cL_falls 182 = .ok (.if_icmp .ge 25, 3) := by decide +kernel
theorem dL_falls_185 : decode cL_falls 185 = .ok (.aload_n 0, 1) := by decide +kernel
theorem dL_falls_186 : decode cL_falls 186 = .ok (.iload 12, 2) := by decide +kernel
theorem dL_falls_188 : decode cL_falls 188 = .ok (.iconst 3, 1) := by decide +kernel
theorem dL_falls_189 : decode cL_falls 189 = .ok (.invokevirtual 63, 3) := by decide +kernel
theorem dL_falls_192 : decode cL_falls 192 = .ok (.bipush (-100), 2) := by decide +kernel
theorem dL_falls_194 : decode cL_falls 194 = .ok (.if_icmp .eq 7, 3) := by decide +kernel
theorem dL_falls_197 : decode cL_falls 197 = .ok (.iload 12, 2) := by decide +kernel
theorem dL_falls_199 : decode cL_falls 199 = .ok (.istore 11, 2) := by decide +kernel
theorem dL_falls_201 : decode cL_falls 201 = .ok (.iinc 12 1, 3) := by decide +kernel
theorem dL_falls_204 : decode cL_falls 204 = .ok (.goto (-29), 3) := by decide +kernel
theorem dL_falls_207 : decode cL_falls 207 = .ok (.iload 11, 2) := by decide +kernel
theorem dL_falls_209 : decode cL_falls 209 = .ok (.ifCond .lt 12, 3) := by decide +kernel
theorem dL_falls_212 : decode cL_falls 212 = .ok (.aload_n 0, 1) := by decide +kernel
theorem dL_falls_213 : decode cL_falls 213 = .ok (.iload 11, 2) := by decide +kernel
theorem dL_falls_215 : decode cL_falls 215 = .ok (.iconst 0, 1) := by decide +kernel
theorem dL_falls_216 : decode cL_falls 216 = .ok (.invokevirtual 109, 3) := by decide +kernel
theorem dL_falls_219 : decode cL_falls 219 = .ok (.istore 9, 2) := by decide +kernel
theorem dL_falls_221 : decode cL_falls 221 = .ok (.iload 11, 2) := by decide +kernel
theorem dL_falls_223 : decode cL_falls 223 = .ok (.ifCond .lt 12, 3) := by decide +kernel
theorem dL_falls_226 : decode cL_falls 226 = .ok (.aload_n 0, 1) := by decide +kernel
theorem dL_falls_227 : decode cL_falls 227 = .ok (.iload 11, 2) := by decide +kernel
theorem dL_falls_229 : decode cL_falls 229 = .ok (.iconst 1, 1) := by decide +kernel
theorem dL_falls_230 : decode cL_falls 230 = .ok (.invokevirtual 109, 3) := by decide +kernel
theorem dL_falls_233 : decode cL_falls 233 = .ok (.istore 10, 2) := by decide +kernel
theorem dL_falls_235 : decode cL_falls 235 = .ok (.aload_n 0, 1) := by decide +kernel
theorem dL_falls_236 : decode cL_falls 236 = .ok (.invokevirtual 100, 3) := by decide +kernel
theorem dL_falls_239 : decode cL_falls 239 = .ok (.iload 4, 2) := by decide +kernel
theorem dL_falls_241 : decode cL_falls 241 = .ok (.if_icmp .ne 63, 3) := by decide +kernel
theorem dL_falls_244 : decode cL_falls 244 = .ok (.aload_n 0, 1) := by decide +kernel
theorem dL_falls_245 : decode cL_falls 245 = .ok (.invokevirtual 94, 3) := by decide +kernel
theorem dL_falls_248 : decode cL_falls 248 = .ok (.ifCond .ne 56, 3) := by decide +kernel
theorem dL_falls_251 : decode cL_falls 251 = .ok (.aload_n 0, 1) := by decide +kernel
theorem dL_falls_252 : decode cL_falls 252 = .ok (.iconst 4, 1) := by decide +kernel
theorem dL_falls_253 : decode cL_falls 253 = .ok (.invokevirtual 27, 3) := by decide +kernel
theorem dL_falls_256 : decode cL_falls 256 = .ok (.iload_n 3, 1) := by decide +kernel
theorem dL_falls_257 : decode cL_falls 257 = .ok (.iload 4, 2) := by decide +kernel
theorem dL_falls_259 : decode cL_falls 259 = .ok (.iadd, 1) := by decide +kernel
theorem dL_falls_260 : decode cL_falls 260 = .ok (.if_icmp .ne 44, 3) := by decide +kernel
theorem dL_falls_263 : decode cL_falls 263 = .ok (.aload_n 0, 1) := by decide +kernel
theorem dL_falls_264 : decode cL_falls 264 = .ok (.bipush 11, 2) := by decide +kernel
theorem dL_falls_266 : decode cL_falls 266 = .ok (.invokevirtual 27, 3) := by decide +kernel
theorem dL_falls_269 : decode cL_falls 269 = .ok (.iload_n 2, 1) := by decide +kernel
theorem dL_falls_270 : decode cL_falls 270 = .ok (.iload 5, 2) := by decide +kernel
theorem dL_falls_272 : decode cL_falls 272 = .ok (.iadd, 1) := by decide +kernel
theorem dL_falls_273 : decode cL_falls 273 = .ok (.if_icmp .ne 31, 3) := by decide +kernel
theorem dL_falls_276 : decode cL_falls 276 = .ok (.aload_n 0, 1) := by decide +kernel
theorem dL_falls_277 : decode cL_falls 277 = .ok (.iconst 0, 1) := by decide +kernel
theorem dL_falls_278 : decode cL_falls 278 = .ok (.invokevirtual 75, 3) := by decide +kernel
theorem dL_falls_281 : decode cL_falls 281 = .ok (.iload 6, 2) := by decide +kernel
theorem dL_falls_283 : decode cL_falls 283 = .ok (.if_icmp .ne 21, 3) := by decide +kernel
theorem dL_falls_286 : decode cL_falls 286 = .ok (.aload_n 0, 1) := by decide +kernel
theorem dL_falls_287 : decode cL_falls 287 = .ok (.invokevirtual 113, 3) := by decide +kernel
theorem dL_falls_290 : decode cL_falls 290 = .ok (.iload 7, 2) := by decide +kernel
theorem dL_falls_292 : decode cL_falls 292 = .ok (.if_icmp .ne 12, 3) := by decide +kernel
theorem dL_falls_295 : decode cL_falls 295 = .ok (.aload_n 0, 1) := by decide +kernel
theorem dL_falls_296 : decode cL_falls 296 = .ok (.invokevirtual 81, 3) := by decide +kernel
theorem dL_falls_299 : decode cL_falls 299 = .ok (.iload 8, 2) := by decide +kernel
theorem dL_falls_301 : decode cL_falls 301 = .ok (.if_icmp .eq 5, 3) := by decide +kernel
theorem dL_falls_304 : decode cL_falls 304 = .ok (.iconst 0, 1) := by decide +kernel
theorem dL_falls_305 : decode cL_falls 305 = .ok (.ireturn, 1) := by decide +kernel
theorem dL_falls_306 : decode cL_falls 306 = .ok (.iload 11, 2) := by decide +kernel
theorem dL_falls_308 : decode cL_falls 308 = .ok (.ifCond .lt 27, 3) := by decide +kernel
theorem dL_falls_311 : decode cL_falls 311 = .ok (.aload_n 0, 1) := by decide +kernel
theorem dL_falls_312 : decode cL_falls 312 = .ok (.iload 11, 2) := by decide +kernel
theorem dL_falls_314 : decode cL_falls 314 = .ok (.iconst 3, 1) := by decide +kernel
theorem dL_falls_315 : decode cL_falls 315 = .ok (.invokevirtual 63, 3) := by decide +kernel
theorem dL_falls_318 : decode cL_falls 318 = .ok (.iload 9, 2) := by decide +kernel
theorem dL_falls_320 : decode cL_falls 320 = .ok (.if_icmp .ne 19, 3) := by decide +kernel
theorem dL_falls_323 : decode cL_falls 323 = .ok (.aload_n 0, 1) := by decide +kernel
theorem dL_falls_324 : decode cL_falls 324 = .ok (.iload 11, 2) := by decide +kernel
theorem dL_falls_326 : decode cL_falls 326 = .ok (.iconst 4, 1) := by decide +kernel
theorem dL_falls_327 : decode cL_falls 327 = .ok (.invokevirtual 63, 3) := by decide +kernel
theorem dL_falls_330 : decode cL_falls 330 = .ok (.iload 10, 2) := by decide +kernel
theorem dL_falls_332 : decode cL_falls 332 = .ok (.if_icmp .ne 7, 3) := by decide +kernel
theorem dL_falls_335 : decode cL_falls 335 = .ok (.iconst 1, 1) := by decide +kernel
theorem dL_falls_336 : decode cL_falls 336 = .ok (.goto 4, 3) := by decide +kernel
theorem dL_falls_339 : decode cL_falls 339 = .ok (.iconst 0, 1) := by decide +kernel
theorem dL_falls_340 : decode cL_falls 340 = .ok (.ireturn, 1) := by decide +kernel
abbrev mL_falls : KM := (RL, cL_falls, 13, (some .boolean), { frames := 8, cells := 0, slots := 0, locals := 181 }, 0, 0)
def fL_falls_L235 (v2 : Int32) (v3 : Int32) (v4 : Int32) (v5 : Int32) (v6 : Int32) (v7 : Int32) (v8 : Int32) (v9 : Int32) (v10 : Int32) (v11 : Int32) (σ : Sto) : Option (Bool × Sto) :=
  (fX6_settle σ).bind fun r46 =>
  if r46.1 = v4 then
    (fX6_moves r46.2).bind fun r49 =>
    if r49.1 = 0 then
      (fX6_count 4 r49.2).bind fun r52 =>
      if r52.1 = 0 then
        if r52.2.1 = (v3 + v4) then
          (fX6_count 11 r52.2.2).bind fun r55 =>
          if r55.1 = 0 then
            if r55.2.1 = (v2 + v5) then
              (fX6_regions 0 r55.2.2).bind fun r58 =>
              if r58.1 = 0 then
                if r58.2.1 = v6 then
                  (fX6_edges r58.2.2).bind fun r61 =>
                  if r61.1 = v7 then
                    (fX6_symmetries r61.2).bind fun r64 =>
                    if r64.1 = v8 then
                      if v11 < 0 then
                        some (true, r64.2)
                      else
                        (fX6_chip v11 3 r64.2).bind fun r67 =>
                        if r67.1 = 0 then
                          if r67.2 = v9 then
                            (fX6_chip v11 4 r64.2).bind fun r70 =>
                            if r70.1 = 0 then
                              if r70.2 = v10 then
                                some (true, r64.2)
                              else
                                some (false, r64.2)
                            else none
                          else
                            some (false, r64.2)
                        else none
                    else
                      some (false, r64.2)
                  else
                    some (false, r61.2)
                else
                  some (false, r58.2.2)
              else none
            else
              some (false, r55.2.2)
          else none
        else
          some (false, r52.2.2)
      else none
    else
      some (false, r49.2)
  else
    some (false, r46.2)
def fL_falls_L221 (v2 : Int32) (v3 : Int32) (v4 : Int32) (v5 : Int32) (v6 : Int32) (v7 : Int32) (v8 : Int32) (v9 : Int32) (v10 : Int32) (v11 : Int32) (σ : Sto) : Option (Bool × Sto) :=
  if v11 < 0 then
    fL_falls_L235 v2 v3 v4 v5 v6 v7 v8 v9 v10 v11 σ
  else
    (fX6_restsAt v11 1 σ).bind fun r73 =>
    if r73.1 = 0 then
      fL_falls_L235 v2 v3 v4 v5 v6 v7 v8 v9 r73.2.1 v11 r73.2.2
    else none
def fL_falls_L201 (K175 : Int32 → Int32 → Int32 → Int32 → Int32 → Int32 → Int32 → Int32 → Int32 → Int32 → Int32 → Sto → Option (Bool × Sto)) (v2 : Int32) (v3 : Int32) (v4 : Int32) (v5 : Int32) (v6 : Int32) (v7 : Int32) (v8 : Int32) (v9 : Int32) (v10 : Int32) (v11 : Int32) (v12 : Int32) (σ : Sto) : Option (Bool × Sto) :=
  K175 v2 v3 v4 v5 v6 v7 v8 v9 v10 v11 (v12 + 1) σ
def fL_falls_L175 : Nat → Int32 → Int32 → Int32 → Int32 → Int32 → Int32 → Int32 → Int32 → Int32 → Int32 → Int32 → Sto → Option (Bool × Sto)
  | 0, _, _, _, _, _, _, _, _, _, _, _, _ => none
  | fu + 1, v2, v3, v4, v5, v6, v7, v8, v9, v10, v11, v12, σ =>
    (fX6_count 5 σ).bind fun r43 =>
    if r43.1 = 0 then
      if r43.2.1 ≤ v12 then
        if v11 < 0 then
          fL_falls_L221 v2 v3 v4 v5 v6 v7 v8 v9 v10 v11 r43.2.2
        else
          (fX6_restsAt v11 0 r43.2.2).bind fun r76 =>
          if r76.1 = 0 then
            fL_falls_L221 v2 v3 v4 v5 v6 v7 v8 r76.2.1 v10 v11 r76.2.2
          else none
      else
        (fX6_chip v12 3 r43.2.2).bind fun r79 =>
        if r79.1 = 0 then
          if r79.2 = (-100) then
            fL_falls_L201 (fL_falls_L175 fu) v2 v3 v4 v5 v6 v7 v8 v9 v10 v11 v12 r43.2.2
          else
            fL_falls_L201 (fL_falls_L175 fu) v2 v3 v4 v5 v6 v7 v8 v9 v10 v12 v12 r43.2.2
        else none
    else none
def fL_falls (σ : Sto) : Option (Bool × Sto) :=
  (fX6_moves σ).bind fun r1 =>
  (fX6_count 11 r1.2).bind fun r4 =>
  if r4.1 = 0 then
    (fX6_count 4 r4.2.2).bind fun r7 =>
    if r7.1 = 0 then
      if r1.1 = 0 then
        (fX6_tick r7.2.2).bind fun r82 =>
        if r82.1 = (-5) then
          (fX6_settle r82.2).bind fun r85 =>
          if r85.1 = (-5) then
            (fX6_settled 0 0 r85.2).bind fun r88 =>
            if r88.1 = 0 then
              if r88.2.1 = 0 then
                (fX6_settled 0 1 r88.2.2).bind fun r91 =>
                if r91.1 = 0 then
                  if r91.2.1 = 0 then
                    some (true, r91.2.2)
                  else
                    some (false, r91.2.2)
                else none
              else
                some (false, r88.2.2)
            else none
          else
            some (false, r85.2)
        else
          some (false, r82.2)
      else
        (fX6_tick r7.2.2).bind fun r10 =>
        if r10.1 = r1.1 then
          (fX6_count 11 r10.2).bind fun r13 =>
          if r13.1 = 0 then
            if r13.2.1 = (r4.2.1 + r1.1) then
              (fX6_count 4 r13.2.2).bind fun r16 =>
              if r16.1 = 0 then
                if r16.2.1 = (r7.2.1 + 1) then
                  (fX6_undo r16.2.2).bind fun r19 =>
                  if r19.1 < 0 then
                    some (false, r19.2)
                  else
                    (fX6_moves r19.2).bind fun r22 =>
                    if r22.1 = r1.1 then
                      (fX6_count 4 r22.2).bind fun r25 =>
                      if r25.1 = 0 then
                        if r25.2.1 = r7.2.1 then
                          (fX6_settled 0 0 r25.2.2).bind fun r28 =>
                          if r28.1 = 0 then
                            (fX6_settled 0 1 r28.2.2).bind fun r31 =>
                            if r31.1 = 0 then
                              (fX6_settled 0 2 r31.2.2).bind fun r34 =>
                              if r34.1 = 0 then
                                (fX6_settled 0 3 r34.2.2).bind fun r37 =>
                                if r37.1 = 0 then
                                  (fX6_settled 0 4 r37.2.2).bind fun r40 =>
                                  if r40.1 = 0 then
                                    fL_falls_L175 kFU r4.2.1 r7.2.1 r28.2.1 r31.2.1 r34.2.1 r37.2.1 r40.2.1 (-100) (-100) (-1) 0 r40.2.2
                                  else none
                                else none
                              else none
                            else none
                          else none
                        else
                          some (false, r25.2.2)
                      else none
                    else
                      some (false, r22.2)
                else
                  some (false, r16.2.2)
              else none
            else
              some (false, r13.2.2)
          else none
        else
          some (false, r10.2)
    else none
  else none
set_option maxHeartbeats 4000000 in
set_option maxRecDepth 100000 in
theorem wL_falls_L235 (sh : KSh) (hk : KAG sh) (l : Launch) (hst : l.stackTraces = false) : ∀ (v2 : Int32), ∀ (v3 : Int32), ∀ (v4 : Int32), ∀ (v5 : Int32), ∀ (v6 : Int32), ∀ (v7 : Int32), ∀ (v8 : Int32), ∀ (v9 : Int32), ∀ (v10 : Int32), ∀ (v11 : Int32), ∀ (σ : Sto), ∀ (r : (Bool × Sto)), fL_falls_L235 v2 v3 v4 v5 v6 v7 v8 v9 v10 v11 σ = some r → VV sh l mL_falls 0 0 235 [(0, .ref 0), (2, .int v2), (3, .int v3), (4, .int v4), (5, .int v5), (6, .int v6), (7, .int v7), (8, .int v8), (9, .int v9), (10, .int v10), (11, .int v11)] [] σ (0, .int (kb r.1), r.2) := by
  intro v2 v3 v4 v5 v6 v7 v8 v9 v10 v11 σ r h
  rw [fL_falls_L235] at h
  refine kv_aload_n (pc := 235) 0 dL_falls_235 rfl rfl ?_
  refine kv_cV (pc := 236) [] (fun r46 => (0, .int r46.1, r46.2)) (fun r46 => (.int r46.1 :: [])) (fun r46 => r46.2) 239 0 0 h (fun r46 g47 => tX6_settle sh hk l hst  σ r46 g47) dL_falls_236 rfl (ks_0 hk) rfl yw_X6_settle lk_L_100 (by decide) (Nat.le_of_ble_eq_true rfl) (by decide) (fun _ => rfl) (fun _ => rfl) ⟨rfl, rfl, rfl⟩ (fun _ _ h0 => absurd rfl h0) (fun r46 g47 z48 h => ?_)
  refine kv_iload (pc := 239) 3 dL_falls_239 rfl ?_
  refine kv_icmp_ne (pc := 241) (tgt := 304) dL_falls_241 (by decide) h (fun h => ?_) (fun h => ?_)
  · refine kv_iconst (pc := 304) (v := 0) dL_falls_304 (by decide) ?_
    exact kv_zret (pc := 305) dL_falls_305 rfl rfl (by cases h; rfl) (by decide) (by decide)
  · refine kv_aload_n (pc := 244) 0 dL_falls_244 rfl rfl ?_
    refine kv_cV (pc := 245) [] (fun r49 => (0, .int r49.1, r49.2)) (fun r49 => (.int r49.1 :: [])) (fun r49 => r49.2) 248 0 0 h (fun r49 g50 => tX6_moves sh hk l hst  r46.2 r49 g50) dL_falls_245 rfl (ks_0 hk) rfl yw_X6_moves lk_L_94 (by decide) (Nat.le_of_ble_eq_true rfl) (by decide) (fun _ => rfl) (fun _ => rfl) ⟨rfl, rfl, rfl⟩ (fun _ _ h0 => absurd rfl h0) (fun r49 g50 z51 h => ?_)
    refine kv_if_ne (pc := 248) (tgt := 304) dL_falls_248 (by decide) h (fun h => ?_) (fun h => ?_)
    · refine kv_iconst (pc := 304) (v := 0) dL_falls_304 (by decide) ?_
      exact kv_zret (pc := 305) dL_falls_305 rfl rfl (by cases h; rfl) (by decide) (by decide)
    · refine kv_aload_n (pc := 251) 0 dL_falls_251 rfl rfl ?_
      refine kv_iconst (pc := 252) (v := 4) dL_falls_252 (by decide) ?_
      refine kv_cVn (pc := 253) [.int 4] (fun r52 => (r52.1, .int r52.2.1, r52.2.2)) (fun r52 => (.int r52.2.1 :: [])) (fun r52 => r52.2.2) 256 0 0 h (fun r52 g53 hnt => tX6_count sh hk l hst 4 r49.2 r52 g53 hnt) dL_falls_253 rfl (ks_0 hk) rfl yw_X6_count lk_L_27 (by decide) (Nat.le_of_ble_eq_true rfl) (by decide) (fun _ => rfl) (fun _ => rfl) ⟨rfl, rfl, rfl⟩ (fun r h => Decidable.byContradiction (fun h9 => by rw [if_neg h9] at h; cases h)) (fun r52 g53 z54 h => ?_)
      rw [if_pos z54] at h
      refine kv_iload_n (pc := 256) 2 dL_falls_256 rfl rfl ?_
      refine kv_iload (pc := 257) 3 dL_falls_257 rfl ?_
      refine kv_iadd (pc := 259) dL_falls_259 ?_
      refine kv_icmp_ne (pc := 260) (tgt := 304) dL_falls_260 (by decide) h (fun h => ?_) (fun h => ?_)
      · refine kv_iconst (pc := 304) (v := 0) dL_falls_304 (by decide) ?_
        exact kv_zret (pc := 305) dL_falls_305 rfl rfl (by cases h; rfl) (by decide) (by decide)
      · refine kv_aload_n (pc := 263) 0 dL_falls_263 rfl rfl ?_
        refine kv_bipush (pc := 264) (v := 11) dL_falls_264 (by decide) ?_
        refine kv_cVn (pc := 266) [.int 11] (fun r55 => (r55.1, .int r55.2.1, r55.2.2)) (fun r55 => (.int r55.2.1 :: [])) (fun r55 => r55.2.2) 269 0 0 h (fun r55 g56 hnt => tX6_count sh hk l hst 11 r52.2.2 r55 g56 hnt) dL_falls_266 rfl (ks_0 hk) rfl yw_X6_count lk_L_27 (by decide) (Nat.le_of_ble_eq_true rfl) (by decide) (fun _ => rfl) (fun _ => rfl) ⟨rfl, rfl, rfl⟩ (fun r h => Decidable.byContradiction (fun h9 => by rw [if_neg h9] at h; cases h)) (fun r55 g56 z57 h => ?_)
        rw [if_pos z57] at h
        refine kv_iload_n (pc := 269) 1 dL_falls_269 rfl rfl ?_
        refine kv_iload (pc := 270) 4 dL_falls_270 rfl ?_
        refine kv_iadd (pc := 272) dL_falls_272 ?_
        refine kv_icmp_ne (pc := 273) (tgt := 304) dL_falls_273 (by decide) h (fun h => ?_) (fun h => ?_)
        · refine kv_iconst (pc := 304) (v := 0) dL_falls_304 (by decide) ?_
          exact kv_zret (pc := 305) dL_falls_305 rfl rfl (by cases h; rfl) (by decide) (by decide)
        · refine kv_aload_n (pc := 276) 0 dL_falls_276 rfl rfl ?_
          refine kv_iconst (pc := 277) (v := 0) dL_falls_277 (by decide) ?_
          refine kv_cVn (pc := 278) [.int 0] (fun r58 => (r58.1, .int r58.2.1, r58.2.2)) (fun r58 => (.int r58.2.1 :: [])) (fun r58 => r58.2.2) 281 0 0 h (fun r58 g59 hnt => tX6_regions sh hk l hst 0 r55.2.2 r58 g59 hnt) dL_falls_278 rfl (ks_0 hk) rfl yw_X6_regions lk_L_75 (by decide) (Nat.le_of_ble_eq_true rfl) (by decide) (fun _ => rfl) (fun _ => rfl) ⟨rfl, rfl, rfl⟩ (fun r h => Decidable.byContradiction (fun h9 => by rw [if_neg h9] at h; cases h)) (fun r58 g59 z60 h => ?_)
          rw [if_pos z60] at h
          refine kv_iload (pc := 281) 5 dL_falls_281 rfl ?_
          refine kv_icmp_ne (pc := 283) (tgt := 304) dL_falls_283 (by decide) h (fun h => ?_) (fun h => ?_)
          · refine kv_iconst (pc := 304) (v := 0) dL_falls_304 (by decide) ?_
            exact kv_zret (pc := 305) dL_falls_305 rfl rfl (by cases h; rfl) (by decide) (by decide)
          · refine kv_aload_n (pc := 286) 0 dL_falls_286 rfl rfl ?_
            refine kv_cV (pc := 287) [] (fun r61 => (0, .int r61.1, r61.2)) (fun r61 => (.int r61.1 :: [])) (fun r61 => r61.2) 290 0 0 h (fun r61 g62 => tX6_edges sh hk l hst  r58.2.2 r61 g62) dL_falls_287 rfl (ks_0 hk) rfl yw_X6_edges lk_L_113 (by decide) (Nat.le_of_ble_eq_true rfl) (by decide) (fun _ => rfl) (fun _ => rfl) ⟨rfl, rfl, rfl⟩ (fun _ _ h0 => absurd rfl h0) (fun r61 g62 z63 h => ?_)
            refine kv_iload (pc := 290) 6 dL_falls_290 rfl ?_
            refine kv_icmp_ne (pc := 292) (tgt := 304) dL_falls_292 (by decide) h (fun h => ?_) (fun h => ?_)
            · refine kv_iconst (pc := 304) (v := 0) dL_falls_304 (by decide) ?_
              exact kv_zret (pc := 305) dL_falls_305 rfl rfl (by cases h; rfl) (by decide) (by decide)
            · refine kv_aload_n (pc := 295) 0 dL_falls_295 rfl rfl ?_
              refine kv_cV (pc := 296) [] (fun r64 => (0, .int r64.1, r64.2)) (fun r64 => (.int r64.1 :: [])) (fun r64 => r64.2) 299 0 0 h (fun r64 g65 => tX6_symmetries sh hk l hst  r61.2 r64 g65) dL_falls_296 rfl (ks_0 hk) rfl yw_X6_symmetries lk_L_81 (by decide) (Nat.le_of_ble_eq_true rfl) (by decide) (fun _ => rfl) (fun _ => rfl) ⟨rfl, rfl, rfl⟩ (fun _ _ h0 => absurd rfl h0) (fun r64 g65 z66 h => ?_)
              refine kv_iload (pc := 299) 7 dL_falls_299 rfl ?_
              refine kv_icmp_eq (pc := 301) (tgt := 306) dL_falls_301 (by decide) h (fun h => ?_) (fun h => ?_)
              · refine kv_iload (pc := 306) 10 dL_falls_306 rfl ?_
                refine kv_if_lt (pc := 308) (tgt := 335) dL_falls_308 (by decide) h (fun h => ?_) (fun h => ?_)
                · refine kv_iconst (pc := 335) (v := 1) dL_falls_335 (by decide) ?_
                  refine kv_goto (pc := 336) (tgt := 340) dL_falls_336 (by decide) ?_
                  exact kv_zret (pc := 340) dL_falls_340 rfl rfl (by cases h; rfl) (by decide) (by decide)
                · refine kv_aload_n (pc := 311) 0 dL_falls_311 rfl rfl ?_
                  refine kv_iload (pc := 312) 10 dL_falls_312 rfl ?_
                  refine kv_iconst (pc := 314) (v := 3) dL_falls_314 (by decide) ?_
                  refine kv_cVn (pc := 315) [.int v11, .int 3] (fun r67 => (r67.1, .int r67.2, r64.2)) (fun r67 => (.int r67.2 :: [])) (fun r67 => r64.2) 318 0 0 h (fun r67 g68 hnt => tX6_chip sh hk l hst v11 3 r64.2 r67 g68 hnt) dL_falls_315 rfl (ks_0 hk) rfl yw_X6_chip lk_L_63 (by decide) (Nat.le_of_ble_eq_true rfl) (by decide) (fun _ => rfl) (fun _ => rfl) ⟨rfl, rfl, rfl⟩ (fun r h => Decidable.byContradiction (fun h9 => by rw [if_neg h9] at h; cases h)) (fun r67 g68 z69 h => ?_)
                  rw [if_pos z69] at h
                  refine kv_iload (pc := 318) 8 dL_falls_318 rfl ?_
                  refine kv_icmp_ne (pc := 320) (tgt := 339) dL_falls_320 (by decide) h (fun h => ?_) (fun h => ?_)
                  · refine kv_iconst (pc := 339) (v := 0) dL_falls_339 (by decide) ?_
                    exact kv_zret (pc := 340) dL_falls_340 rfl rfl (by cases h; rfl) (by decide) (by decide)
                  · refine kv_aload_n (pc := 323) 0 dL_falls_323 rfl rfl ?_
                    refine kv_iload (pc := 324) 10 dL_falls_324 rfl ?_
                    refine kv_iconst (pc := 326) (v := 4) dL_falls_326 (by decide) ?_
                    refine kv_cVn (pc := 327) [.int v11, .int 4] (fun r70 => (r70.1, .int r70.2, r64.2)) (fun r70 => (.int r70.2 :: [])) (fun r70 => r64.2) 330 0 0 h (fun r70 g71 hnt => tX6_chip sh hk l hst v11 4 r64.2 r70 g71 hnt) dL_falls_327 rfl (ks_0 hk) rfl yw_X6_chip lk_L_63 (by decide) (Nat.le_of_ble_eq_true rfl) (by decide) (fun _ => rfl) (fun _ => rfl) ⟨rfl, rfl, rfl⟩ (fun r h => Decidable.byContradiction (fun h9 => by rw [if_neg h9] at h; cases h)) (fun r70 g71 z72 h => ?_)
                    rw [if_pos z72] at h
                    refine kv_iload (pc := 330) 9 dL_falls_330 rfl ?_
                    refine kv_icmp_ne (pc := 332) (tgt := 339) dL_falls_332 (by decide) h (fun h => ?_) (fun h => ?_)
                    · refine kv_iconst (pc := 339) (v := 0) dL_falls_339 (by decide) ?_
                      exact kv_zret (pc := 340) dL_falls_340 rfl rfl (by cases h; rfl) (by decide) (by decide)
                    · refine kv_iconst (pc := 335) (v := 1) dL_falls_335 (by decide) ?_
                      refine kv_goto (pc := 336) (tgt := 340) dL_falls_336 (by decide) ?_
                      exact kv_zret (pc := 340) dL_falls_340 rfl rfl (by cases h; rfl) (by decide) (by decide)
              · refine kv_iconst (pc := 304) (v := 0) dL_falls_304 (by decide) ?_
                exact kv_zret (pc := 305) dL_falls_305 rfl rfl (by cases h; rfl) (by decide) (by decide)
set_option maxHeartbeats 4000000 in
set_option maxRecDepth 100000 in
theorem wL_falls_L221 (sh : KSh) (hk : KAG sh) (l : Launch) (hst : l.stackTraces = false) : ∀ (v2 : Int32), ∀ (v3 : Int32), ∀ (v4 : Int32), ∀ (v5 : Int32), ∀ (v6 : Int32), ∀ (v7 : Int32), ∀ (v8 : Int32), ∀ (v9 : Int32), ∀ (v10 : Int32), ∀ (v11 : Int32), ∀ (σ : Sto), ∀ (r : (Bool × Sto)), fL_falls_L221 v2 v3 v4 v5 v6 v7 v8 v9 v10 v11 σ = some r → VV sh l mL_falls 0 0 221 [(0, .ref 0), (2, .int v2), (3, .int v3), (4, .int v4), (5, .int v5), (6, .int v6), (7, .int v7), (8, .int v8), (9, .int v9), (10, .int v10), (11, .int v11)] [] σ (0, .int (kb r.1), r.2) := by
  intro v2 v3 v4 v5 v6 v7 v8 v9 v10 v11 σ r h
  rw [fL_falls_L221] at h
  refine kv_iload (pc := 221) 10 dL_falls_221 rfl ?_
  refine kv_if_lt (pc := 223) (tgt := 235) dL_falls_223 (by decide) h (fun h => ?_) (fun h => ?_)
  · refine kv_sub (pc := 235) [(0, .ref 0), (2, .int v2), (3, .int v3), (4, .int v4), (5, .int v5), (6, .int v6), (7, .int v7), (8, .int v8), (9, .int v9), (10, .int v10), (11, .int v11)] [0, 1, 2, 3, 4, 5, 6, 7, 8, 9, 10] rfl ?_
    exact wL_falls_L235 sh hk l hst v2 v3 v4 v5 v6 v7 v8 v9 v10 v11 σ r h
  · refine kv_aload_n (pc := 226) 0 dL_falls_226 rfl rfl ?_
    refine kv_iload (pc := 227) 10 dL_falls_227 rfl ?_
    refine kv_iconst (pc := 229) (v := 1) dL_falls_229 (by decide) ?_
    refine kv_cVn (pc := 230) [.int v11, .int 1] (fun r73 => (r73.1, .int r73.2.1, r73.2.2)) (fun r73 => (.int r73.2.1 :: [])) (fun r73 => r73.2.2) 233 0 0 h (fun r73 g74 hnt => tX6_restsAt sh hk l hst v11 1 σ r73 g74 hnt) dL_falls_230 rfl (ks_0 hk) rfl yw_X6_restsAt lk_L_109 (by decide) (Nat.le_of_ble_eq_true rfl) (by decide) (fun _ => rfl) (fun _ => rfl) ⟨rfl, rfl, rfl⟩ (fun r h => Decidable.byContradiction (fun h9 => by rw [if_neg h9] at h; cases h)) (fun r73 g74 z75 h => ?_)
    rw [if_pos z75] at h
    refine kv_istore (pc := 233) [(10, .int r73.2.1), (0, .ref 0), (2, .int v2), (3, .int v3), (4, .int v4), (5, .int v5), (6, .int v6), (7, .int v7), (8, .int v8), (9, .int v9), (11, .int v11)] dL_falls_233 (by decide) rfl ?_
    refine kv_sub (pc := 235) [(0, .ref 0), (2, .int v2), (3, .int v3), (4, .int v4), (5, .int v5), (6, .int v6), (7, .int v7), (8, .int v8), (9, .int v9), (10, .int r73.2.1), (11, .int v11)] [1, 2, 3, 4, 5, 6, 7, 8, 9, 0, 10] rfl ?_
    exact wL_falls_L235 sh hk l hst v2 v3 v4 v5 v6 v7 v8 v9 r73.2.1 v11 r73.2.2 r h
set_option maxHeartbeats 4000000 in
set_option maxRecDepth 100000 in
theorem wL_falls_L201 (sh : KSh) (hk : KAG sh) (l : Launch) (hst : l.stackTraces = false) (K175 : Int32 → Int32 → Int32 → Int32 → Int32 → Int32 → Int32 → Int32 → Int32 → Int32 → Int32 → Sto → Option (Bool × Sto)) (hK175 : ∀ (v2 : Int32), ∀ (v3 : Int32), ∀ (v4 : Int32), ∀ (v5 : Int32), ∀ (v6 : Int32), ∀ (v7 : Int32), ∀ (v8 : Int32), ∀ (v9 : Int32), ∀ (v10 : Int32), ∀ (v11 : Int32), ∀ (v12 : Int32), ∀ (σ : Sto), ∀ (r : (Bool × Sto)), K175 v2 v3 v4 v5 v6 v7 v8 v9 v10 v11 v12 σ = some r → VV sh l mL_falls 0 0 175 [(0, .ref 0), (2, .int v2), (3, .int v3), (4, .int v4), (5, .int v5), (6, .int v6), (7, .int v7), (8, .int v8), (9, .int v9), (10, .int v10), (11, .int v11), (12, .int v12)] [] σ (0, .int (kb r.1), r.2)) : ∀ (v2 : Int32), ∀ (v3 : Int32), ∀ (v4 : Int32), ∀ (v5 : Int32), ∀ (v6 : Int32), ∀ (v7 : Int32), ∀ (v8 : Int32), ∀ (v9 : Int32), ∀ (v10 : Int32), ∀ (v11 : Int32), ∀ (v12 : Int32), ∀ (σ : Sto), ∀ (r : (Bool × Sto)), fL_falls_L201 K175 v2 v3 v4 v5 v6 v7 v8 v9 v10 v11 v12 σ = some r → VV sh l mL_falls 0 0 201 [(0, .ref 0), (2, .int v2), (3, .int v3), (4, .int v4), (5, .int v5), (6, .int v6), (7, .int v7), (8, .int v8), (9, .int v9), (10, .int v10), (11, .int v11), (12, .int v12)] [] σ (0, .int (kb r.1), r.2) := by
  intro v2 v3 v4 v5 v6 v7 v8 v9 v10 v11 v12 σ r h
  rw [fL_falls_L201] at h
  refine kv_iinc (pc := 201) (v := v12 + 1) 11 [(12, .int (v12 + 1)), (0, .ref 0), (2, .int v2), (3, .int v3), (4, .int v4), (5, .int v5), (6, .int v6), (7, .int v7), (8, .int v8), (9, .int v9), (10, .int v10), (11, .int v11)] dL_falls_201 rfl rfl (by decide) rfl ?_
  refine kv_goto (pc := 204) (tgt := 175) dL_falls_204 (by decide) ?_
  refine kv_sub (pc := 175) [(0, .ref 0), (2, .int v2), (3, .int v3), (4, .int v4), (5, .int v5), (6, .int v6), (7, .int v7), (8, .int v8), (9, .int v9), (10, .int v10), (11, .int v11), (12, .int (v12 + 1))] [1, 2, 3, 4, 5, 6, 7, 8, 9, 10, 11, 0] rfl ?_
  exact hK175 v2 v3 v4 v5 v6 v7 v8 v9 v10 v11 (v12 + 1) σ r h
set_option maxHeartbeats 4000000 in
set_option maxRecDepth 100000 in
theorem wL_falls_L175 (sh : KSh) (hk : KAG sh) (l : Launch) (hst : l.stackTraces = false) : ∀ (fu : Nat), ∀ (v2 : Int32), ∀ (v3 : Int32), ∀ (v4 : Int32), ∀ (v5 : Int32), ∀ (v6 : Int32), ∀ (v7 : Int32), ∀ (v8 : Int32), ∀ (v9 : Int32), ∀ (v10 : Int32), ∀ (v11 : Int32), ∀ (v12 : Int32), ∀ (σ : Sto), ∀ (r : (Bool × Sto)), fL_falls_L175 fu v2 v3 v4 v5 v6 v7 v8 v9 v10 v11 v12 σ = some r → VV sh l mL_falls 0 0 175 [(0, .ref 0), (2, .int v2), (3, .int v3), (4, .int v4), (5, .int v5), (6, .int v6), (7, .int v7), (8, .int v8), (9, .int v9), (10, .int v10), (11, .int v11), (12, .int v12)] [] σ (0, .int (kb r.1), r.2) := by
  intro fu
  induction fu with
  | zero => intro v2 v3 v4 v5 v6 v7 v8 v9 v10 v11 v12 σ r h; rw [fL_falls_L175] at h; cases h
  | succ fu ih =>
    intro v2 v3 v4 v5 v6 v7 v8 v9 v10 v11 v12 σ r h
    rw [fL_falls_L175] at h
    refine kv_iload (pc := 175) 11 dL_falls_175 rfl ?_
    refine kv_aload_n (pc := 177) 0 dL_falls_177 rfl rfl ?_
    refine kv_iconst (pc := 178) (v := 5) dL_falls_178 (by decide) ?_
    refine kv_cVn (pc := 179) [.int 5] (fun r43 => (r43.1, .int r43.2.1, r43.2.2)) (fun r43 => (.int r43.2.1 :: [.int v12])) (fun r43 => r43.2.2) 182 0 0 h (fun r43 g44 hnt => tX6_count sh hk l hst 5 σ r43 g44 hnt) dL_falls_179 rfl (ks_0 hk) rfl yw_X6_count lk_L_27 (by decide) (Nat.le_of_ble_eq_true rfl) (by decide) (fun _ => rfl) (fun _ => rfl) ⟨rfl, rfl, rfl⟩ (fun r h => Decidable.byContradiction (fun h9 => by rw [if_neg h9] at h; cases h)) (fun r43 g44 z45 h => ?_)
    rw [if_pos z45] at h
    refine kv_icmp_ge (pc := 182) (tgt := 207) dL_falls_182 (by decide) h (fun h => ?_) (fun h => ?_)
    · refine kv_iload (pc := 207) 10 dL_falls_207 rfl ?_
      refine kv_if_lt (pc := 209) (tgt := 221) dL_falls_209 (by decide) h (fun h => ?_) (fun h => ?_)
      · refine kv_sub (pc := 221) [(0, .ref 0), (2, .int v2), (3, .int v3), (4, .int v4), (5, .int v5), (6, .int v6), (7, .int v7), (8, .int v8), (9, .int v9), (10, .int v10), (11, .int v11)] [0, 1, 2, 3, 4, 5, 6, 7, 8, 9, 10] rfl ?_
        exact wL_falls_L221 sh hk l hst v2 v3 v4 v5 v6 v7 v8 v9 v10 v11 r43.2.2 r h
      · refine kv_aload_n (pc := 212) 0 dL_falls_212 rfl rfl ?_
        refine kv_iload (pc := 213) 10 dL_falls_213 rfl ?_
        refine kv_iconst (pc := 215) (v := 0) dL_falls_215 (by decide) ?_
        refine kv_cVn (pc := 216) [.int v11, .int 0] (fun r76 => (r76.1, .int r76.2.1, r76.2.2)) (fun r76 => (.int r76.2.1 :: [])) (fun r76 => r76.2.2) 219 0 0 h (fun r76 g77 hnt => tX6_restsAt sh hk l hst v11 0 r43.2.2 r76 g77 hnt) dL_falls_216 rfl (ks_0 hk) rfl yw_X6_restsAt lk_L_109 (by decide) (Nat.le_of_ble_eq_true rfl) (by decide) (fun _ => rfl) (fun _ => rfl) ⟨rfl, rfl, rfl⟩ (fun r h => Decidable.byContradiction (fun h9 => by rw [if_neg h9] at h; cases h)) (fun r76 g77 z78 h => ?_)
        rw [if_pos z78] at h
        refine kv_istore (pc := 219) [(9, .int r76.2.1), (0, .ref 0), (2, .int v2), (3, .int v3), (4, .int v4), (5, .int v5), (6, .int v6), (7, .int v7), (8, .int v8), (10, .int v10), (11, .int v11), (12, .int v12)] dL_falls_219 (by decide) rfl ?_
        refine kv_sub (pc := 221) [(0, .ref 0), (2, .int v2), (3, .int v3), (4, .int v4), (5, .int v5), (6, .int v6), (7, .int v7), (8, .int v8), (9, .int r76.2.1), (10, .int v10), (11, .int v11)] [1, 2, 3, 4, 5, 6, 7, 8, 0, 9, 10] rfl ?_
        exact wL_falls_L221 sh hk l hst v2 v3 v4 v5 v6 v7 v8 r76.2.1 v10 v11 r76.2.2 r h
    · refine kv_aload_n (pc := 185) 0 dL_falls_185 rfl rfl ?_
      refine kv_iload (pc := 186) 11 dL_falls_186 rfl ?_
      refine kv_iconst (pc := 188) (v := 3) dL_falls_188 (by decide) ?_
      refine kv_cVn (pc := 189) [.int v12, .int 3] (fun r79 => (r79.1, .int r79.2, r43.2.2)) (fun r79 => (.int r79.2 :: [])) (fun r79 => r43.2.2) 192 0 0 h (fun r79 g80 hnt => tX6_chip sh hk l hst v12 3 r43.2.2 r79 g80 hnt) dL_falls_189 rfl (ks_0 hk) rfl yw_X6_chip lk_L_63 (by decide) (Nat.le_of_ble_eq_true rfl) (by decide) (fun _ => rfl) (fun _ => rfl) ⟨rfl, rfl, rfl⟩ (fun r h => Decidable.byContradiction (fun h9 => by rw [if_neg h9] at h; cases h)) (fun r79 g80 z81 h => ?_)
      rw [if_pos z81] at h
      refine kv_bipush (pc := 192) (v := (-100)) dL_falls_192 (by decide) ?_
      refine kv_icmp_eq (pc := 194) (tgt := 201) dL_falls_194 (by decide) h (fun h => ?_) (fun h => ?_)
      · refine kv_sub (pc := 201) [(0, .ref 0), (2, .int v2), (3, .int v3), (4, .int v4), (5, .int v5), (6, .int v6), (7, .int v7), (8, .int v8), (9, .int v9), (10, .int v10), (11, .int v11), (12, .int v12)] [0, 1, 2, 3, 4, 5, 6, 7, 8, 9, 10, 11] rfl ?_
        exact wL_falls_L201 sh hk l hst (fL_falls_L175 fu) ih v2 v3 v4 v5 v6 v7 v8 v9 v10 v11 v12 r43.2.2 r h
      · refine kv_iload (pc := 197) 11 dL_falls_197 rfl ?_
        refine kv_istore (pc := 199) [(11, .int v12), (0, .ref 0), (2, .int v2), (3, .int v3), (4, .int v4), (5, .int v5), (6, .int v6), (7, .int v7), (8, .int v8), (9, .int v9), (10, .int v10), (12, .int v12)] dL_falls_199 (by decide) rfl ?_
        refine kv_sub (pc := 201) [(0, .ref 0), (2, .int v2), (3, .int v3), (4, .int v4), (5, .int v5), (6, .int v6), (7, .int v7), (8, .int v8), (9, .int v9), (10, .int v10), (11, .int v12), (12, .int v12)] [1, 2, 3, 4, 5, 6, 7, 8, 9, 10, 0, 11] rfl ?_
        exact wL_falls_L201 sh hk l hst (fL_falls_L175 fu) ih v2 v3 v4 v5 v6 v7 v8 v9 v10 v12 v12 r43.2.2 r h
set_option maxHeartbeats 4000000 in
set_option maxRecDepth 100000 in
theorem tL_falls (sh : KSh) (hk : KAG sh) (l : Launch) (hst : l.stackTraces = false) (σ : Sto) (r : (Bool × Sto)) (h : fL_falls σ = some r) : CT sh l mL_falls yL_falls [.ref 0] σ (0, .int (kb r.1), r.2) := by
  refine kct [(0, .ref 0)] hst (by decide +kernel) rfl rfl (Nat.le_of_ble_eq_true rfl) ?_
  rw [fL_falls] at h
  refine kv_aload_n (pc := 0) 0 dL_falls_0 rfl rfl ?_
  refine kv_cV (pc := 1) [] (fun r1 => (0, .int r1.1, r1.2)) (fun r1 => (.int r1.1 :: [])) (fun r1 => r1.2) 4 0 0 h (fun r1 g2 => tX6_moves sh hk l hst  σ r1 g2) dL_falls_1 rfl (ks_0 hk) rfl yw_X6_moves lk_L_94 (by decide) (Nat.le_of_ble_eq_true rfl) (by decide) (fun _ => rfl) (fun _ => rfl) ⟨rfl, rfl, rfl⟩ (fun _ _ h0 => absurd rfl h0) (fun r1 g2 z3 h => ?_)
  refine kv_istore_n (pc := 4) [(1, .int r1.1), (0, .ref 0)] dL_falls_4 rfl (by decide) rfl ?_
  refine kv_aload_n (pc := 5) 1 dL_falls_5 rfl rfl ?_
  refine kv_bipush (pc := 6) (v := 11) dL_falls_6 (by decide) ?_
  refine kv_cVn (pc := 8) [.int 11] (fun r4 => (r4.1, .int r4.2.1, r4.2.2)) (fun r4 => (.int r4.2.1 :: [])) (fun r4 => r4.2.2) 11 0 0 h (fun r4 g5 hnt => tX6_count sh hk l hst 11 r1.2 r4 g5 hnt) dL_falls_8 rfl (ks_0 hk) rfl yw_X6_count lk_L_27 (by decide) (Nat.le_of_ble_eq_true rfl) (by decide) (fun _ => rfl) (fun _ => rfl) ⟨rfl, rfl, rfl⟩ (fun r h => Decidable.byContradiction (fun h9 => by rw [if_neg h9] at h; cases h)) (fun r4 g5 z6 h => ?_)
  rw [if_pos z6] at h
  refine kv_istore_n (pc := 11) [(2, .int r4.2.1), (1, .int r1.1), (0, .ref 0)] dL_falls_11 rfl (by decide) rfl ?_
  refine kv_aload_n (pc := 12) 2 dL_falls_12 rfl rfl ?_
  refine kv_iconst (pc := 13) (v := 4) dL_falls_13 (by decide) ?_
  refine kv_cVn (pc := 14) [.int 4] (fun r7 => (r7.1, .int r7.2.1, r7.2.2)) (fun r7 => (.int r7.2.1 :: [])) (fun r7 => r7.2.2) 17 0 0 h (fun r7 g8 hnt => tX6_count sh hk l hst 4 r4.2.2 r7 g8 hnt) dL_falls_14 rfl (ks_0 hk) rfl yw_X6_count lk_L_27 (by decide) (Nat.le_of_ble_eq_true rfl) (by decide) (fun _ => rfl) (fun _ => rfl) ⟨rfl, rfl, rfl⟩ (fun r h => Decidable.byContradiction (fun h9 => by rw [if_neg h9] at h; cases h)) (fun r7 g8 z9 h => ?_)
  rw [if_pos z9] at h
  refine kv_istore_n (pc := 17) [(3, .int r7.2.1), (2, .int r4.2.1), (1, .int r1.1), (0, .ref 0)] dL_falls_17 rfl (by decide) rfl ?_
  refine kv_iload_n (pc := 18) 2 dL_falls_18 rfl rfl ?_
  refine kv_if_ne (pc := 19) (tgt := 64) dL_falls_19 (by decide) h (fun h => ?_) (fun h => ?_)
  · refine kv_aload_n (pc := 64) 3 dL_falls_64 rfl rfl ?_
    refine kv_cV (pc := 65) [] (fun r10 => (0, .int r10.1, r10.2)) (fun r10 => (.int r10.1 :: [])) (fun r10 => r10.2) 68 0 0 h (fun r10 g11 => tX6_tick sh hk l hst  r7.2.2 r10 g11) dL_falls_65 rfl (ks_0 hk) rfl yw_X6_tick lk_L_97 (by decide) (Nat.le_of_ble_eq_true rfl) (by decide) (fun _ => rfl) (fun _ => rfl) ⟨rfl, rfl, rfl⟩ (fun _ _ h0 => absurd rfl h0) (fun r10 g11 z12 h => ?_)
    refine kv_iload_n (pc := 68) 2 dL_falls_68 rfl rfl ?_
    refine kv_icmp_ne (pc := 69) (tgt := 119) dL_falls_69 (by decide) h (fun h => ?_) (fun h => ?_)
    · refine kv_iconst (pc := 119) (v := 0) dL_falls_119 (by decide) ?_
      exact kv_zret (pc := 120) dL_falls_120 rfl rfl (by cases h; rfl) (by decide) (by decide)
    · refine kv_aload_n (pc := 72) 3 dL_falls_72 rfl rfl ?_
      refine kv_bipush (pc := 73) (v := 11) dL_falls_73 (by decide) ?_
      refine kv_cVn (pc := 75) [.int 11] (fun r13 => (r13.1, .int r13.2.1, r13.2.2)) (fun r13 => (.int r13.2.1 :: [])) (fun r13 => r13.2.2) 78 0 0 h (fun r13 g14 hnt => tX6_count sh hk l hst 11 r10.2 r13 g14 hnt) dL_falls_75 rfl (ks_0 hk) rfl yw_X6_count lk_L_27 (by decide) (Nat.le_of_ble_eq_true rfl) (by decide) (fun _ => rfl) (fun _ => rfl) ⟨rfl, rfl, rfl⟩ (fun r h => Decidable.byContradiction (fun h9 => by rw [if_neg h9] at h; cases h)) (fun r13 g14 z15 h => ?_)
      rw [if_pos z15] at h
      refine kv_iload_n (pc := 78) 1 dL_falls_78 rfl rfl ?_
      refine kv_iload_n (pc := 79) 2 dL_falls_79 rfl rfl ?_
      refine kv_iadd (pc := 80) dL_falls_80 ?_
      refine kv_icmp_ne (pc := 81) (tgt := 119) dL_falls_81 (by decide) h (fun h => ?_) (fun h => ?_)
      · refine kv_iconst (pc := 119) (v := 0) dL_falls_119 (by decide) ?_
        exact kv_zret (pc := 120) dL_falls_120 rfl rfl (by cases h; rfl) (by decide) (by decide)
      · refine kv_aload_n (pc := 84) 3 dL_falls_84 rfl rfl ?_
        refine kv_iconst (pc := 85) (v := 4) dL_falls_85 (by decide) ?_
        refine kv_cVn (pc := 86) [.int 4] (fun r16 => (r16.1, .int r16.2.1, r16.2.2)) (fun r16 => (.int r16.2.1 :: [])) (fun r16 => r16.2.2) 89 0 0 h (fun r16 g17 hnt => tX6_count sh hk l hst 4 r13.2.2 r16 g17 hnt) dL_falls_86 rfl (ks_0 hk) rfl yw_X6_count lk_L_27 (by decide) (Nat.le_of_ble_eq_true rfl) (by decide) (fun _ => rfl) (fun _ => rfl) ⟨rfl, rfl, rfl⟩ (fun r h => Decidable.byContradiction (fun h9 => by rw [if_neg h9] at h; cases h)) (fun r16 g17 z18 h => ?_)
        rw [if_pos z18] at h
        refine kv_iload_n (pc := 89) 0 dL_falls_89 rfl rfl ?_
        refine kv_iconst (pc := 90) (v := 1) dL_falls_90 (by decide) ?_
        refine kv_iadd (pc := 91) dL_falls_91 ?_
        refine kv_icmp_ne (pc := 92) (tgt := 119) dL_falls_92 (by decide) h (fun h => ?_) (fun h => ?_)
        · refine kv_iconst (pc := 119) (v := 0) dL_falls_119 (by decide) ?_
          exact kv_zret (pc := 120) dL_falls_120 rfl rfl (by cases h; rfl) (by decide) (by decide)
        · refine kv_aload_n (pc := 95) 3 dL_falls_95 rfl rfl ?_
          refine kv_cV (pc := 96) [] (fun r19 => (0, .int r19.1, r19.2)) (fun r19 => (.int r19.1 :: [])) (fun r19 => r19.2) 99 0 0 h (fun r19 g20 => tX6_undo sh hk l hst  r16.2.2 r19 g20) dL_falls_96 rfl (ks_0 hk) rfl yw_X6_undo lk_L_106 (by decide) (Nat.le_of_ble_eq_true rfl) (by decide) (fun _ => rfl) (fun _ => rfl) ⟨rfl, rfl, rfl⟩ (fun _ _ h0 => absurd rfl h0) (fun r19 g20 z21 h => ?_)
          refine kv_if_lt (pc := 99) (tgt := 119) dL_falls_99 (by decide) h (fun h => ?_) (fun h => ?_)
          · refine kv_iconst (pc := 119) (v := 0) dL_falls_119 (by decide) ?_
            exact kv_zret (pc := 120) dL_falls_120 rfl rfl (by cases h; rfl) (by decide) (by decide)
          · refine kv_aload_n (pc := 102) 3 dL_falls_102 rfl rfl ?_
            refine kv_cV (pc := 103) [] (fun r22 => (0, .int r22.1, r22.2)) (fun r22 => (.int r22.1 :: [])) (fun r22 => r22.2) 106 0 0 h (fun r22 g23 => tX6_moves sh hk l hst  r19.2 r22 g23) dL_falls_103 rfl (ks_0 hk) rfl yw_X6_moves lk_L_94 (by decide) (Nat.le_of_ble_eq_true rfl) (by decide) (fun _ => rfl) (fun _ => rfl) ⟨rfl, rfl, rfl⟩ (fun _ _ h0 => absurd rfl h0) (fun r22 g23 z24 h => ?_)
            refine kv_iload_n (pc := 106) 2 dL_falls_106 rfl rfl ?_
            refine kv_icmp_ne (pc := 107) (tgt := 119) dL_falls_107 (by decide) h (fun h => ?_) (fun h => ?_)
            · refine kv_iconst (pc := 119) (v := 0) dL_falls_119 (by decide) ?_
              exact kv_zret (pc := 120) dL_falls_120 rfl rfl (by cases h; rfl) (by decide) (by decide)
            · refine kv_aload_n (pc := 110) 3 dL_falls_110 rfl rfl ?_
              refine kv_iconst (pc := 111) (v := 4) dL_falls_111 (by decide) ?_
              refine kv_cVn (pc := 112) [.int 4] (fun r25 => (r25.1, .int r25.2.1, r25.2.2)) (fun r25 => (.int r25.2.1 :: [])) (fun r25 => r25.2.2) 115 0 0 h (fun r25 g26 hnt => tX6_count sh hk l hst 4 r22.2 r25 g26 hnt) dL_falls_112 rfl (ks_0 hk) rfl yw_X6_count lk_L_27 (by decide) (Nat.le_of_ble_eq_true rfl) (by decide) (fun _ => rfl) (fun _ => rfl) ⟨rfl, rfl, rfl⟩ (fun r h => Decidable.byContradiction (fun h9 => by rw [if_neg h9] at h; cases h)) (fun r25 g26 z27 h => ?_)
              rw [if_pos z27] at h
              refine kv_iload_n (pc := 115) 0 dL_falls_115 rfl rfl ?_
              refine kv_icmp_eq (pc := 116) (tgt := 121) dL_falls_116 (by decide) h (fun h => ?_) (fun h => ?_)
              · refine kv_aload_n (pc := 121) 3 dL_falls_121 rfl rfl ?_
                refine kv_iconst (pc := 122) (v := 0) dL_falls_122 (by decide) ?_
                refine kv_iconst (pc := 123) (v := 0) dL_falls_123 (by decide) ?_
                refine kv_cVn (pc := 124) [.int 0, .int 0] (fun r28 => (r28.1, .int r28.2.1, r28.2.2)) (fun r28 => (.int r28.2.1 :: [])) (fun r28 => r28.2.2) 127 0 0 h (fun r28 g29 hnt => tX6_settled sh hk l hst 0 0 r25.2.2 r28 g29 hnt) dL_falls_124 rfl (ks_0 hk) rfl yw_X6_settled lk_L_103 (by decide) (Nat.le_of_ble_eq_true rfl) (by decide) (fun _ => rfl) (fun _ => rfl) ⟨rfl, rfl, rfl⟩ (fun r h => Decidable.byContradiction (fun h9 => by rw [if_neg h9] at h; cases h)) (fun r28 g29 z30 h => ?_)
                rw [if_pos z30] at h
                refine kv_istore (pc := 127) [(4, .int r28.2.1), (3, .int r7.2.1), (2, .int r4.2.1), (1, .int r1.1), (0, .ref 0)] dL_falls_127 (by decide) rfl ?_
                refine kv_aload_n (pc := 129) 4 dL_falls_129 rfl rfl ?_
                refine kv_iconst (pc := 130) (v := 0) dL_falls_130 (by decide) ?_
                refine kv_iconst (pc := 131) (v := 1) dL_falls_131 (by decide) ?_
                refine kv_cVn (pc := 132) [.int 0, .int 1] (fun r31 => (r31.1, .int r31.2.1, r31.2.2)) (fun r31 => (.int r31.2.1 :: [])) (fun r31 => r31.2.2) 135 0 0 h (fun r31 g32 hnt => tX6_settled sh hk l hst 0 1 r28.2.2 r31 g32 hnt) dL_falls_132 rfl (ks_0 hk) rfl yw_X6_settled lk_L_103 (by decide) (Nat.le_of_ble_eq_true rfl) (by decide) (fun _ => rfl) (fun _ => rfl) ⟨rfl, rfl, rfl⟩ (fun r h => Decidable.byContradiction (fun h9 => by rw [if_neg h9] at h; cases h)) (fun r31 g32 z33 h => ?_)
                rw [if_pos z33] at h
                refine kv_istore (pc := 135) [(5, .int r31.2.1), (4, .int r28.2.1), (3, .int r7.2.1), (2, .int r4.2.1), (1, .int r1.1), (0, .ref 0)] dL_falls_135 (by decide) rfl ?_
                refine kv_aload_n (pc := 137) 5 dL_falls_137 rfl rfl ?_
                refine kv_iconst (pc := 138) (v := 0) dL_falls_138 (by decide) ?_
                refine kv_iconst (pc := 139) (v := 2) dL_falls_139 (by decide) ?_
                refine kv_cVn (pc := 140) [.int 0, .int 2] (fun r34 => (r34.1, .int r34.2.1, r34.2.2)) (fun r34 => (.int r34.2.1 :: [])) (fun r34 => r34.2.2) 143 0 0 h (fun r34 g35 hnt => tX6_settled sh hk l hst 0 2 r31.2.2 r34 g35 hnt) dL_falls_140 rfl (ks_0 hk) rfl yw_X6_settled lk_L_103 (by decide) (Nat.le_of_ble_eq_true rfl) (by decide) (fun _ => rfl) (fun _ => rfl) ⟨rfl, rfl, rfl⟩ (fun r h => Decidable.byContradiction (fun h9 => by rw [if_neg h9] at h; cases h)) (fun r34 g35 z36 h => ?_)
                rw [if_pos z36] at h
                refine kv_istore (pc := 143) [(6, .int r34.2.1), (5, .int r31.2.1), (4, .int r28.2.1), (3, .int r7.2.1), (2, .int r4.2.1), (1, .int r1.1), (0, .ref 0)] dL_falls_143 (by decide) rfl ?_
                refine kv_aload_n (pc := 145) 6 dL_falls_145 rfl rfl ?_
                refine kv_iconst (pc := 146) (v := 0) dL_falls_146 (by decide) ?_
                refine kv_iconst (pc := 147) (v := 3) dL_falls_147 (by decide) ?_
                refine kv_cVn (pc := 148) [.int 0, .int 3] (fun r37 => (r37.1, .int r37.2.1, r37.2.2)) (fun r37 => (.int r37.2.1 :: [])) (fun r37 => r37.2.2) 151 0 0 h (fun r37 g38 hnt => tX6_settled sh hk l hst 0 3 r34.2.2 r37 g38 hnt) dL_falls_148 rfl (ks_0 hk) rfl yw_X6_settled lk_L_103 (by decide) (Nat.le_of_ble_eq_true rfl) (by decide) (fun _ => rfl) (fun _ => rfl) ⟨rfl, rfl, rfl⟩ (fun r h => Decidable.byContradiction (fun h9 => by rw [if_neg h9] at h; cases h)) (fun r37 g38 z39 h => ?_)
                rw [if_pos z39] at h
                refine kv_istore (pc := 151) [(7, .int r37.2.1), (6, .int r34.2.1), (5, .int r31.2.1), (4, .int r28.2.1), (3, .int r7.2.1), (2, .int r4.2.1), (1, .int r1.1), (0, .ref 0)] dL_falls_151 (by decide) rfl ?_
                refine kv_aload_n (pc := 153) 7 dL_falls_153 rfl rfl ?_
                refine kv_iconst (pc := 154) (v := 0) dL_falls_154 (by decide) ?_
                refine kv_iconst (pc := 155) (v := 4) dL_falls_155 (by decide) ?_
                refine kv_cVn (pc := 156) [.int 0, .int 4] (fun r40 => (r40.1, .int r40.2.1, r40.2.2)) (fun r40 => (.int r40.2.1 :: [])) (fun r40 => r40.2.2) 159 0 0 h (fun r40 g41 hnt => tX6_settled sh hk l hst 0 4 r37.2.2 r40 g41 hnt) dL_falls_156 rfl (ks_0 hk) rfl yw_X6_settled lk_L_103 (by decide) (Nat.le_of_ble_eq_true rfl) (by decide) (fun _ => rfl) (fun _ => rfl) ⟨rfl, rfl, rfl⟩ (fun r h => Decidable.byContradiction (fun h9 => by rw [if_neg h9] at h; cases h)) (fun r40 g41 z42 h => ?_)
                rw [if_pos z42] at h
                refine kv_istore (pc := 159) [(8, .int r40.2.1), (7, .int r37.2.1), (6, .int r34.2.1), (5, .int r31.2.1), (4, .int r28.2.1), (3, .int r7.2.1), (2, .int r4.2.1), (1, .int r1.1), (0, .ref 0)] dL_falls_159 (by decide) rfl ?_
                refine kv_bipush (pc := 161) (v := (-100)) dL_falls_161 (by decide) ?_
                refine kv_istore (pc := 163) [(9, .int (-100)), (8, .int r40.2.1), (7, .int r37.2.1), (6, .int r34.2.1), (5, .int r31.2.1), (4, .int r28.2.1), (3, .int r7.2.1), (2, .int r4.2.1), (1, .int r1.1), (0, .ref 0)] dL_falls_163 (by decide) rfl ?_
                refine kv_bipush (pc := 165) (v := (-100)) dL_falls_165 (by decide) ?_
                refine kv_istore (pc := 167) [(10, .int (-100)), (9, .int (-100)), (8, .int r40.2.1), (7, .int r37.2.1), (6, .int r34.2.1), (5, .int r31.2.1), (4, .int r28.2.1), (3, .int r7.2.1), (2, .int r4.2.1), (1, .int r1.1), (0, .ref 0)] dL_falls_167 (by decide) rfl ?_
                refine kv_iconst (pc := 169) (v := (-1)) dL_falls_169 (by decide) ?_
                refine kv_istore (pc := 170) [(11, .int (-1)), (10, .int (-100)), (9, .int (-100)), (8, .int r40.2.1), (7, .int r37.2.1), (6, .int r34.2.1), (5, .int r31.2.1), (4, .int r28.2.1), (3, .int r7.2.1), (2, .int r4.2.1), (1, .int r1.1), (0, .ref 0)] dL_falls_170 (by decide) rfl ?_
                refine kv_iconst (pc := 172) (v := 0) dL_falls_172 (by decide) ?_
                refine kv_istore (pc := 173) [(12, .int 0), (11, .int (-1)), (10, .int (-100)), (9, .int (-100)), (8, .int r40.2.1), (7, .int r37.2.1), (6, .int r34.2.1), (5, .int r31.2.1), (4, .int r28.2.1), (3, .int r7.2.1), (2, .int r4.2.1), (1, .int r1.1), (0, .ref 0)] dL_falls_173 (by decide) rfl ?_
                refine kv_sub (pc := 175) [(0, .ref 0), (2, .int r4.2.1), (3, .int r7.2.1), (4, .int r28.2.1), (5, .int r31.2.1), (6, .int r34.2.1), (7, .int r37.2.1), (8, .int r40.2.1), (9, .int (-100)), (10, .int (-100)), (11, .int (-1)), (12, .int 0)] [12, 10, 9, 8, 7, 6, 5, 4, 3, 2, 1, 0] rfl ?_
                exact wL_falls_L175 sh hk l hst kFU r4.2.1 r7.2.1 r28.2.1 r31.2.1 r34.2.1 r37.2.1 r40.2.1 (-100) (-100) (-1) 0 r40.2.2 r h
              · refine kv_iconst (pc := 119) (v := 0) dL_falls_119 (by decide) ?_
                exact kv_zret (pc := 120) dL_falls_120 rfl rfl (by cases h; rfl) (by decide) (by decide)
  · refine kv_aload_n (pc := 22) 3 dL_falls_22 rfl rfl ?_
    refine kv_cV (pc := 23) [] (fun r82 => (0, .int r82.1, r82.2)) (fun r82 => (.int r82.1 :: [])) (fun r82 => r82.2) 26 0 0 h (fun r82 g83 => tX6_tick sh hk l hst  r7.2.2 r82 g83) dL_falls_23 rfl (ks_0 hk) rfl yw_X6_tick lk_L_97 (by decide) (Nat.le_of_ble_eq_true rfl) (by decide) (fun _ => rfl) (fun _ => rfl) ⟨rfl, rfl, rfl⟩ (fun _ _ h0 => absurd rfl h0) (fun r82 g83 z84 h => ?_)
    refine kv_bipush (pc := 26) (v := (-5)) dL_falls_26 (by decide) ?_
    refine kv_icmp_ne (pc := 28) (tgt := 62) dL_falls_28 (by decide) h (fun h => ?_) (fun h => ?_)
    · refine kv_iconst (pc := 62) (v := 0) dL_falls_62 (by decide) ?_
      exact kv_zret (pc := 63) dL_falls_63 rfl rfl (by cases h; rfl) (by decide) (by decide)
    · refine kv_aload_n (pc := 31) 3 dL_falls_31 rfl rfl ?_
      refine kv_cV (pc := 32) [] (fun r85 => (0, .int r85.1, r85.2)) (fun r85 => (.int r85.1 :: [])) (fun r85 => r85.2) 35 0 0 h (fun r85 g86 => tX6_settle sh hk l hst  r82.2 r85 g86) dL_falls_32 rfl (ks_0 hk) rfl yw_X6_settle lk_L_100 (by decide) (Nat.le_of_ble_eq_true rfl) (by decide) (fun _ => rfl) (fun _ => rfl) ⟨rfl, rfl, rfl⟩ (fun _ _ h0 => absurd rfl h0) (fun r85 g86 z87 h => ?_)
      refine kv_bipush (pc := 35) (v := (-5)) dL_falls_35 (by decide) ?_
      refine kv_icmp_ne (pc := 37) (tgt := 62) dL_falls_37 (by decide) h (fun h => ?_) (fun h => ?_)
      · refine kv_iconst (pc := 62) (v := 0) dL_falls_62 (by decide) ?_
        exact kv_zret (pc := 63) dL_falls_63 rfl rfl (by cases h; rfl) (by decide) (by decide)
      · refine kv_aload_n (pc := 40) 3 dL_falls_40 rfl rfl ?_
        refine kv_iconst (pc := 41) (v := 0) dL_falls_41 (by decide) ?_
        refine kv_iconst (pc := 42) (v := 0) dL_falls_42 (by decide) ?_
        refine kv_cVn (pc := 43) [.int 0, .int 0] (fun r88 => (r88.1, .int r88.2.1, r88.2.2)) (fun r88 => (.int r88.2.1 :: [])) (fun r88 => r88.2.2) 46 0 0 h (fun r88 g89 hnt => tX6_settled sh hk l hst 0 0 r85.2 r88 g89 hnt) dL_falls_43 rfl (ks_0 hk) rfl yw_X6_settled lk_L_103 (by decide) (Nat.le_of_ble_eq_true rfl) (by decide) (fun _ => rfl) (fun _ => rfl) ⟨rfl, rfl, rfl⟩ (fun r h => Decidable.byContradiction (fun h9 => by rw [if_neg h9] at h; cases h)) (fun r88 g89 z90 h => ?_)
        rw [if_pos z90] at h
        refine kv_if_ne (pc := 46) (tgt := 62) dL_falls_46 (by decide) h (fun h => ?_) (fun h => ?_)
        · refine kv_iconst (pc := 62) (v := 0) dL_falls_62 (by decide) ?_
          exact kv_zret (pc := 63) dL_falls_63 rfl rfl (by cases h; rfl) (by decide) (by decide)
        · refine kv_aload_n (pc := 49) 3 dL_falls_49 rfl rfl ?_
          refine kv_iconst (pc := 50) (v := 0) dL_falls_50 (by decide) ?_
          refine kv_iconst (pc := 51) (v := 1) dL_falls_51 (by decide) ?_
          refine kv_cVn (pc := 52) [.int 0, .int 1] (fun r91 => (r91.1, .int r91.2.1, r91.2.2)) (fun r91 => (.int r91.2.1 :: [])) (fun r91 => r91.2.2) 55 0 0 h (fun r91 g92 hnt => tX6_settled sh hk l hst 0 1 r88.2.2 r91 g92 hnt) dL_falls_52 rfl (ks_0 hk) rfl yw_X6_settled lk_L_103 (by decide) (Nat.le_of_ble_eq_true rfl) (by decide) (fun _ => rfl) (fun _ => rfl) ⟨rfl, rfl, rfl⟩ (fun r h => Decidable.byContradiction (fun h9 => by rw [if_neg h9] at h; cases h)) (fun r91 g92 z93 h => ?_)
          rw [if_pos z93] at h
          refine kv_if_ne (pc := 55) (tgt := 62) dL_falls_55 (by decide) h (fun h => ?_) (fun h => ?_)
          · refine kv_iconst (pc := 62) (v := 0) dL_falls_62 (by decide) ?_
            exact kv_zret (pc := 63) dL_falls_63 rfl rfl (by cases h; rfl) (by decide) (by decide)
          · refine kv_iconst (pc := 58) (v := 1) dL_falls_58 (by decide) ?_
            refine kv_goto (pc := 59) (tgt := 63) dL_falls_59 (by decide) ?_
            exact kv_zret (pc := 63) dL_falls_63 rfl rfl (by cases h; rfl) (by decide) (by decide)
theorem yw_L_falls : KMS yL_falls mL_falls 1 := ⟨⟨by decide +kernel, by decide +kernel, by decide +kernel⟩, ⟨rfl, rfl⟩, kg_in 1087 (by decide +kernel) (by decide +kernel), kg_in 45 (by decide +kernel) (by decide +kernel), kg_in 1088 (by decide +kernel) (by decide +kernel)⟩
theorem dL_adds_0 : decode cL_adds 0 = .ok (.aload_n 0, 1) := by decide +kernel
theorem dL_adds_1 : decode cL_adds 1 = .ok (.iconst 1, 1) := by decide +kernel
theorem dL_adds_2 : decode cL_adds 2 = .ok (.invokevirtual 27, 3) := by decide +kernel
theorem dL_adds_5 : decode cL_adds 5 = .ok (.istore_n 2, 1) := by decide +kernel
theorem dL_adds_6 : decode cL_adds 6 = .ok (.aload_n 1, 1) := by decide +kernel
theorem dL_adds_7 : decode cL_adds 7 = .ok (.iconst 2, 1) := by decide +kernel
theorem dL_adds_8 : decode cL_adds 8 = .ok (.iload_n 2, 1) := by decide +kernel
theorem dL_adds_9 : decode cL_adds 9 = .ok (.imul, 1) := by decide +kernel
theorem dL_adds_10 : decode cL_adds 10 = .ok (.iconst 1, 1) := by decide +kernel
theorem dL_adds_11 : decode cL_adds 11 = .ok (.iadd, 1) := by decide +kernel
theorem dL_adds_12 : decode cL_adds 12 = .ok (.invokevirtual 116, 3) := by decide +kernel
theorem dL_adds_15 : decode cL_adds 15 = .ok (.iload_n 2, 1) := by decide +kernel
theorem dL_adds_16 : decode cL_adds 16 = .ok (.isub, 1) := by decide +kernel
theorem dL_adds_17 : decode cL_adds 17 = .ok (.istore_n 3, 1) := by decide +kernel
theorem dL_adds_18 : decode cL_adds 18 = .ok (.aload_n 1, 1) := by decide +kernel
theorem dL_adds_19 : decode cL_adds 19 = .ok (.iconst 2, 1) := by decide +kernel
theorem dL_adds_20 : decode cL_adds 20 = .ok (.iload_n 2, 1) := by decide +kernel
theorem dL_adds_21 : decode cL_adds 21 = .ok (.imul, 1) := by decide +kernel
theorem dL_adds_22 : decode cL_adds 22 = .ok (.iconst 1, 1) := by decide +kernel
theorem dL_adds_23 : decode cL_adds 23 = .ok (.iadd, 1) := by decide +kernel
theorem dL_adds_24 : decode cL_adds 24 = .ok (.invokevirtual 116, 3) := by decide +kernel
theorem dL_adds_27 : decode cL_adds 27 = .ok (.iload_n 2, 1) := by decide +kernel
theorem dL_adds_28 : decode cL_adds 28 = .ok (.isub, 1) := by decide +kernel
theorem dL_adds_29 : decode cL_adds 29 = .ok (.istore 4, 2) := by decide +kernel
theorem dL_adds_31 : decode cL_adds 31 = .ok (.aload_n 0, 1) := by decide +kernel
theorem dL_adds_32 : decode cL_adds 32 = .ok (.iload_n 3, 1) := by decide +kernel
theorem dL_adds_33 : decode cL_adds 33 = .ok (.iload 4, 2) := by decide +kernel
theorem dL_adds_35 : decode cL_adds 35 = .ok (.invokestatic 54, 3) := by decide +kernel
theorem dL_adds_38 : decode cL_adds 38 = .ok (.ifCond .ne 5, 3) := by decide +kernel
theorem dL_adds_41 : decode cL_adds 41 = .ok (.iconst 1, 1) := by decide +kernel
theorem dL_adds_42 : decode cL_adds 42 = .ok (.ireturn, 1) := by decide +kernel
theorem dL_adds_43 : decode cL_adds 43 = .ok (.aload_n 0, 1) := by decide +kernel
theorem dL_adds_44 : decode cL_adds 44 = .ok (.iconst 5, 1) := by decide +kernel
theorem dL_adds_45 : decode cL_adds 45 = .ok (.invokevirtual 27, 3) := by decide +kernel
theorem dL_adds_48 : decode cL_adds 48 = .ok (.istore 5, 2) := by decide +kernel
theorem dL_adds_50 : decode cL_adds 50 = .ok (.aload_n 0, 1) := by decide +kernel
theorem dL_adds_51 : decode cL_adds 51 = .ok (.iload_n 3, 1) := by decide +kernel
theorem dL_adds_52 : decode cL_adds 52 = .ok (.iload 4, 2) := by decide +kernel
theorem dL_adds_54 : decode cL_adds 54 = .ok (.invokevirtual 60, 3) := by decide +kernel
theorem dL_adds_57 : decode cL_adds 57 = .ok (.istore 6, 2) := by decide +kernel
theorem dL_adds_59 : decode cL_adds 59 = .ok (.aload_n 0, 1) := by decide +kernel
theorem dL_adds_60 : decode cL_adds 60 = .ok (.aload_n 1, 1) := by decide +kernel
theorem dL_adds_61 : decode cL_adds 61 = .ok (.iconst 4, 1) := by decide +kernel
theorem dL_adds_62 : decode cL_adds 62 = .ok (.invokevirtual 116, 3) := by decide +kernel
theorem dL_adds_65 : decode cL_adds 65 = .ok (.iconst 1, 1) := by decide +kernel
theorem dL_adds_66 : decode cL_adds 66 = .ok (.aload_n 1, 1) := by decide +kernel
theorem dL_adds_67 : decode cL_adds 67 = .ok (.bipush 9, 2) := by decide +kernel
theorem dL_adds_69 : decode cL_adds 69 = .ok (.invokevirtual 116, 3) := by decide +kernel
theorem dL_adds_72 : decode cL_adds 72 = .ok (.iadd, 1) := by decide +kernel
theorem dL_adds_73 : decode cL_adds 73 = .ok (.iconst 1, 1) := by decide +kernel
theorem dL_adds_74 : decode cL_adds 74 = .ok (.aload_n 1, 1) := by decide +kernel
theorem dL_adds_75 : decode cL_adds 75 = .ok (.bipush 9, 2) := by decide +kernel
theorem dL_adds_77 : decode cL_adds 77 = .ok (.invokevirtual 116, 3) := by decide +kernel
theorem dL_adds_80 : decode cL_adds 80 = .ok (.iadd, 1) := by decide +kernel
theorem dL_adds_81 : decode cL_adds 81 = .ok (.iload_n 3, 1) := by decide +kernel
theorem dL_adds_82 : decode cL_adds 82 = .ok (.iload 4, 2) := by decide +kernel
theorem dL_adds_84 : decode cL_adds 84 = .ok (.invokevirtual 121, 3) := by decide +kernel
theorem dL_adds_87 : decode cL_adds 87 = .ok (.istore 7, 2) := by decide +kernel
theorem dL_adds_89 : decode cL_adds 89 = .ok (.iload 5, 2) := by decide +kernel
theorem dL_adds_91 : decode cL_adds 91 = .ok (.bipush 30, 2) := by decide +kernel
theorem dL_adds_93 : decode cL_adds 93 = .ok (.if_icmp .ne 15, 3) := by decide +kernel
theorem dL_adds_96 : decode cL_adds 96 = .ok (.iload 7, 2) := by decide +kernel
theorem dL_adds_98 : decode cL_adds 98 = .ok (.iconst (-1), 1) := by decide +kernel
theorem dL_adds_99 : decode cL_adds 99 = .ok (.if_icmp .ne 7, 3) := by decide +kernel
theorem dL_adds_102 : decode cL_adds 102 = .ok (.iconst 1, 1) := by decide +kernel
theorem dL_adds_103 : decode cL_adds 103 = .ok (.goto 4, 3) := by decide +kernel
theorem dL_adds_106 : decode cL_adds 106 = .ok (.iconst 0, 1) := by decide +kernel
theorem dL_adds_107 : decode cL_adds 107 = .ok (.ireturn, 1) := by decide +kernel
theorem dL_adds_108 : decode cL_adds 108 = .ok (.iload 6, 2) := by decide +kernel
theorem dL_adds_110 : decode cL_adds 110 = .ok (.iconst (-1), 1) := by decide +kernel
theorem dL_adds_111 : decode cL_adds 111 = .ok (.if_icmp .ne 30, 3) := by decide +kernel
theorem dL_adds_114 : decode cL_adds 114 = .ok (.iload 7, 2) := by decide +kernel
theorem dL_adds_116 : decode cL_adds 116 = .ok (.iload 5, 2) := by decide +kernel
theorem dL_adds_118 : decode cL_adds 118 = .ok (.if_icmp .ne 19, 3) := by decide +kernel
theorem dL_adds_121 : decode cL_adds 121 = .ok (.aload_n 0, 1) := by decide +kernel
theorem dL_adds_122 : decode cL_adds 122 = .ok (.iload_n 3, 1) := by decide +kernel
theorem dL_adds_123 : decode cL_adds 123 = .ok (.iload 4, 2) := by decide +kernel
theorem dL_adds_125 : decode cL_adds 125 = .ok (.invokevirtual 60, 3) := by decide +kernel
theorem dL_adds_128 : decode cL_adds 128 = .ok (.iload 5, 2) := by decide +kernel
theorem dL_adds_130 : decode cL_adds 130 = .ok (.if_icmp .ne 7, 3) := by decide +kernel
theorem dL_adds_133 : decode cL_adds 133 = .ok (.iconst 1, 1) := by decide +kernel
theorem dL_adds_134 : decode cL_adds 134 = .ok (.goto 19, 3) := by decide +kernel
theorem dL_adds_137 : decode cL_adds 137 = .ok (.iconst 0, 1) := by decide +kernel
theorem dL_adds_138 : decode cL_adds 138 = .ok (.goto 15, 3) := by decide +kernel
theorem dL_adds_141 : decode cL_adds 141 = .ok (.iload 7, 2) := by decide +kernel
theorem dL_adds_143 : decode cL_adds 143 = .ok (.bipush (-2), 2) := by decide +kernel
theorem dL_adds_145 : decode cL_adds 145 = .ok (.if_icmp .ne 7, 3) := by decide +kernel
theorem dL_adds_148 : decode cL_adds 148 = .ok (.iconst 1, 1) := by decide +kernel
theorem dL_adds_149 : decode cL_adds 149 = .ok (.goto 4, 3) := by decide +kernel
theorem dL_adds_152 : decode cL_adds 152 = .ok (.iconst 0, 1) := by decide +kernel
theorem dL_adds_153 : decode cL_adds 153 = .ok (.ireturn, 1) := by decide +kernel
abbrev mL_adds : KM := (RL, cL_adds, 8, (some .boolean), { frames := 11, cells := 0, slots := 0, locals := 222 }, 0, 0)
def fL_adds (sh : KSh) (σ : Sto) : Option (Bool × Sto) :=
  (fX6_count 1 σ).bind fun r1 =>
  if r1.1 = 0 then
    (fX7_next sh ((2 * r1.2.1) + 1) r1.2.2).bind fun r4 =>
    (fX7_next sh ((2 * r1.2.1) + 1) r4.2).bind fun r7 =>
    (fL_isBox (r4.1 - r1.2.1) (r7.1 - r1.2.1) r7.2).bind fun r10 =>
    if r10.1 = true then
      (fX6_count 5 r10.2).bind fun r13 =>
      if r13.1 = 0 then
        (fX6_chipAt (r4.1 - r1.2.1) (r7.1 - r1.2.1) r13.2.2).bind fun r16 =>
        if r16.1 = 0 then
          (fX7_next sh 4 r13.2.2).bind fun r19 =>
          (fX7_next sh 9 r19.2).bind fun r22 =>
          (fX7_next sh 9 r22.2).bind fun r25 =>
          (fX6_add r19.1 (1 + r22.1) (1 + r25.1) (r4.1 - r1.2.1) (r7.1 - r1.2.1) r25.2).bind fun r28 =>
          if r28.1 = 0 then
            if r13.2.1 = 30 then
              if r28.2.1 = (-1) then
                some (true, r28.2.2)
              else
                some (false, r28.2.2)
            else
              if r16.2 = (-1) then
                if r28.2.1 = r13.2.1 then
                  (fX6_chipAt (r4.1 - r1.2.1) (r7.1 - r1.2.1) r28.2.2).bind fun r31 =>
                  if r31.1 = 0 then
                    if r31.2 = r13.2.1 then
                      some (true, r28.2.2)
                    else
                      some (false, r28.2.2)
                  else none
                else
                  some (false, r28.2.2)
              else
                if r28.2.1 = (-2) then
                  some (true, r28.2.2)
                else
                  some (false, r28.2.2)
          else none
        else none
      else none
    else
      some (true, r10.2)
  else none
set_option maxHeartbeats 4000000 in
set_option maxRecDepth 100000 in
theorem tL_adds (sh : KSh) (hk : KAG sh) (l : Launch) (hst : l.stackTraces = false) (σ : Sto) (r : (Bool × Sto)) (h : fL_adds sh σ = some r) : CT sh l mL_adds yL_adds [.ref 0, .ref 133] σ (0, .int (kb r.1), r.2) := by
  refine kct [(0, .ref 0), (1, .ref 133)] hst (by decide +kernel) rfl rfl (Nat.le_of_ble_eq_true rfl) ?_
  rw [fL_adds] at h
  refine kv_aload_n (pc := 0) 0 dL_adds_0 rfl rfl ?_
  refine kv_iconst (pc := 1) (v := 1) dL_adds_1 (by decide) ?_
  refine kv_cVn (pc := 2) [.int 1] (fun r1 => (r1.1, .int r1.2.1, r1.2.2)) (fun r1 => (.int r1.2.1 :: [])) (fun r1 => r1.2.2) 5 0 0 h (fun r1 g2 hnt => tX6_count sh hk l hst 1 σ r1 g2 hnt) dL_adds_2 rfl (ks_0 hk) rfl yw_X6_count lk_L_27 (by decide) (Nat.le_of_ble_eq_true rfl) (by decide) (fun _ => rfl) (fun _ => rfl) ⟨rfl, rfl, rfl⟩ (fun r h => Decidable.byContradiction (fun h9 => by rw [if_neg h9] at h; cases h)) (fun r1 g2 z3 h => ?_)
  rw [if_pos z3] at h
  refine kv_istore_n (pc := 5) [(2, .int r1.2.1), (0, .ref 0), (1, .ref 133)] dL_adds_5 rfl (by decide) rfl ?_
  refine kv_aload_n (pc := 6) 2 dL_adds_6 rfl rfl ?_
  refine kv_iconst (pc := 7) (v := 2) dL_adds_7 (by decide) ?_
  refine kv_iload_n (pc := 8) 0 dL_adds_8 rfl rfl ?_
  refine kv_imul (pc := 9) dL_adds_9 ?_
  refine kv_iconst (pc := 10) (v := 1) dL_adds_10 (by decide) ?_
  refine kv_iadd (pc := 11) dL_adds_11 ?_
  refine kv_cV (pc := 12) [.int ((2 * r1.2.1) + 1)] (fun r4 => (0, .int r4.1, r4.2)) (fun r4 => (.int r4.1 :: [])) (fun r4 => r4.2) 15 0 0 h (fun r4 g5 => tX7_next sh hk l hst ((2 * r1.2.1) + 1) r1.2.2 r4 g5) dL_adds_12 rfl (ks_133 hk) rfl yw_X7_next lk_L_116 (by decide) (Nat.le_of_ble_eq_true rfl) (by decide) (fun _ => rfl) (fun _ => rfl) ⟨rfl, rfl, rfl⟩ (fun _ _ h0 => absurd rfl h0) (fun r4 g5 z6 h => ?_)
  refine kv_iload_n (pc := 15) 0 dL_adds_15 rfl rfl ?_
  refine kv_isub (pc := 16) dL_adds_16 ?_
  refine kv_istore_n (pc := 17) [(3, .int (r4.1 - r1.2.1)), (2, .int r1.2.1), (0, .ref 0), (1, .ref 133)] dL_adds_17 rfl (by decide) rfl ?_
  refine kv_aload_n (pc := 18) 3 dL_adds_18 rfl rfl ?_
  refine kv_iconst (pc := 19) (v := 2) dL_adds_19 (by decide) ?_
  refine kv_iload_n (pc := 20) 1 dL_adds_20 rfl rfl ?_
  refine kv_imul (pc := 21) dL_adds_21 ?_
  refine kv_iconst (pc := 22) (v := 1) dL_adds_22 (by decide) ?_
  refine kv_iadd (pc := 23) dL_adds_23 ?_
  refine kv_cV (pc := 24) [.int ((2 * r1.2.1) + 1)] (fun r7 => (0, .int r7.1, r7.2)) (fun r7 => (.int r7.1 :: [])) (fun r7 => r7.2) 27 0 0 h (fun r7 g8 => tX7_next sh hk l hst ((2 * r1.2.1) + 1) r4.2 r7 g8) dL_adds_24 rfl (ks_133 hk) rfl yw_X7_next lk_L_116 (by decide) (Nat.le_of_ble_eq_true rfl) (by decide) (fun _ => rfl) (fun _ => rfl) ⟨rfl, rfl, rfl⟩ (fun _ _ h0 => absurd rfl h0) (fun r7 g8 z9 h => ?_)
  refine kv_iload_n (pc := 27) 1 dL_adds_27 rfl rfl ?_
  refine kv_isub (pc := 28) dL_adds_28 ?_
  refine kv_istore (pc := 29) [(4, .int (r7.1 - r1.2.1)), (3, .int (r4.1 - r1.2.1)), (2, .int r1.2.1), (0, .ref 0), (1, .ref 133)] dL_adds_29 (by decide) rfl ?_
  refine kv_aload_n (pc := 31) 3 dL_adds_31 rfl rfl ?_
  refine kv_iload_n (pc := 32) 1 dL_adds_32 rfl rfl ?_
  refine kv_iload (pc := 33) 0 dL_adds_33 rfl ?_
  refine kv_cS (pc := 35) [.ref 0, .int (r4.1 - r1.2.1), .int (r7.1 - r1.2.1)] (fun r10 => (0, .int (kb r10.1), r10.2)) (fun r10 => (.int (kb r10.1) :: [])) (fun r10 => r10.2) 38 0 0 h (fun r10 g11 => tL_isBox sh hk l hst (r4.1 - r1.2.1) (r7.1 - r1.2.1) r7.2 r10 g11) dL_adds_35 rfl yw_L_isBox lk_L_54 (by decide) (Nat.le_of_ble_eq_true rfl) (by decide) (fun _ => rfl) (fun _ => rfl) ⟨rfl, rfl, rfl⟩ (fun _ _ h0 => absurd rfl h0) (fun r10 g11 z12 h => ?_)
  refine kv_ifb_ne (pc := 38) (tgt := 43) dL_adds_38 (by decide) h (fun h => ?_) (fun h => ?_)
  · refine kv_aload_n (pc := 43) 3 dL_adds_43 rfl rfl ?_
    refine kv_iconst (pc := 44) (v := 5) dL_adds_44 (by decide) ?_
    refine kv_cVn (pc := 45) [.int 5] (fun r13 => (r13.1, .int r13.2.1, r13.2.2)) (fun r13 => (.int r13.2.1 :: [])) (fun r13 => r13.2.2) 48 0 0 h (fun r13 g14 hnt => tX6_count sh hk l hst 5 r10.2 r13 g14 hnt) dL_adds_45 rfl (ks_0 hk) rfl yw_X6_count lk_L_27 (by decide) (Nat.le_of_ble_eq_true rfl) (by decide) (fun _ => rfl) (fun _ => rfl) ⟨rfl, rfl, rfl⟩ (fun r h => Decidable.byContradiction (fun h9 => by rw [if_neg h9] at h; cases h)) (fun r13 g14 z15 h => ?_)
    rw [if_pos z15] at h
    refine kv_istore (pc := 48) [(5, .int r13.2.1), (4, .int (r7.1 - r1.2.1)), (3, .int (r4.1 - r1.2.1)), (2, .int r1.2.1), (0, .ref 0), (1, .ref 133)] dL_adds_48 (by decide) rfl ?_
    refine kv_aload_n (pc := 50) 4 dL_adds_50 rfl rfl ?_
    refine kv_iload_n (pc := 51) 2 dL_adds_51 rfl rfl ?_
    refine kv_iload (pc := 52) 1 dL_adds_52 rfl ?_
    refine kv_cVn (pc := 54) [.int (r4.1 - r1.2.1), .int (r7.1 - r1.2.1)] (fun r16 => (r16.1, .int r16.2, r13.2.2)) (fun r16 => (.int r16.2 :: [])) (fun r16 => r13.2.2) 57 0 0 h (fun r16 g17 hnt => tX6_chipAt sh hk l hst (r4.1 - r1.2.1) (r7.1 - r1.2.1) r13.2.2 r16 g17 hnt) dL_adds_54 rfl (ks_0 hk) rfl yw_X6_chipAt lk_L_60 (by decide) (Nat.le_of_ble_eq_true rfl) (by decide) (fun _ => rfl) (fun _ => rfl) ⟨rfl, rfl, rfl⟩ (fun r h => Decidable.byContradiction (fun h9 => by rw [if_neg h9] at h; cases h)) (fun r16 g17 z18 h => ?_)
    rw [if_pos z18] at h
    refine kv_istore (pc := 57) [(6, .int r16.2), (5, .int r13.2.1), (4, .int (r7.1 - r1.2.1)), (3, .int (r4.1 - r1.2.1)), (2, .int r1.2.1), (0, .ref 0), (1, .ref 133)] dL_adds_57 (by decide) rfl ?_
    refine kv_aload_n (pc := 59) 5 dL_adds_59 rfl rfl ?_
    refine kv_aload_n (pc := 60) 6 dL_adds_60 rfl rfl ?_
    refine kv_iconst (pc := 61) (v := 4) dL_adds_61 (by decide) ?_
    refine kv_cV (pc := 62) [.int 4] (fun r19 => (0, .int r19.1, r19.2)) (fun r19 => (.int r19.1 :: [.ref 0])) (fun r19 => r19.2) 65 0 0 h (fun r19 g20 => tX7_next sh hk l hst 4 r13.2.2 r19 g20) dL_adds_62 rfl (ks_133 hk) rfl yw_X7_next lk_L_116 (by decide) (Nat.le_of_ble_eq_true rfl) (by decide) (fun _ => rfl) (fun _ => rfl) ⟨rfl, rfl, rfl⟩ (fun _ _ h0 => absurd rfl h0) (fun r19 g20 z21 h => ?_)
    refine kv_iconst (pc := 65) (v := 1) dL_adds_65 (by decide) ?_
    refine kv_aload_n (pc := 66) 6 dL_adds_66 rfl rfl ?_
    refine kv_bipush (pc := 67) (v := 9) dL_adds_67 (by decide) ?_
    refine kv_cV (pc := 69) [.int 9] (fun r22 => (0, .int r22.1, r22.2)) (fun r22 => (.int r22.1 :: [.int 1, .int r19.1, .ref 0])) (fun r22 => r22.2) 72 0 0 h (fun r22 g23 => tX7_next sh hk l hst 9 r19.2 r22 g23) dL_adds_69 rfl (ks_133 hk) rfl yw_X7_next lk_L_116 (by decide) (Nat.le_of_ble_eq_true rfl) (by decide) (fun _ => rfl) (fun _ => rfl) ⟨rfl, rfl, rfl⟩ (fun _ _ h0 => absurd rfl h0) (fun r22 g23 z24 h => ?_)
    refine kv_iadd (pc := 72) dL_adds_72 ?_
    refine kv_iconst (pc := 73) (v := 1) dL_adds_73 (by decide) ?_
    refine kv_aload_n (pc := 74) 6 dL_adds_74 rfl rfl ?_
    refine kv_bipush (pc := 75) (v := 9) dL_adds_75 (by decide) ?_
    refine kv_cV (pc := 77) [.int 9] (fun r25 => (0, .int r25.1, r25.2)) (fun r25 => (.int r25.1 :: [.int 1, .int (1 + r22.1), .int r19.1, .ref 0])) (fun r25 => r25.2) 80 0 0 h (fun r25 g26 => tX7_next sh hk l hst 9 r22.2 r25 g26) dL_adds_77 rfl (ks_133 hk) rfl yw_X7_next lk_L_116 (by decide) (Nat.le_of_ble_eq_true rfl) (by decide) (fun _ => rfl) (fun _ => rfl) ⟨rfl, rfl, rfl⟩ (fun _ _ h0 => absurd rfl h0) (fun r25 g26 z27 h => ?_)
    refine kv_iadd (pc := 80) dL_adds_80 ?_
    refine kv_iload_n (pc := 81) 3 dL_adds_81 rfl rfl ?_
    refine kv_iload (pc := 82) 2 dL_adds_82 rfl ?_
    refine kv_cVn (pc := 84) [.int r19.1, .int (1 + r22.1), .int (1 + r25.1), .int (r4.1 - r1.2.1), .int (r7.1 - r1.2.1)] (fun r28 => (r28.1, .int r28.2.1, r28.2.2)) (fun r28 => (.int r28.2.1 :: [])) (fun r28 => r28.2.2) 87 0 0 h (fun r28 g29 hnt => tX6_add sh hk l hst r19.1 (1 + r22.1) (1 + r25.1) (r4.1 - r1.2.1) (r7.1 - r1.2.1) r25.2 r28 g29 hnt) dL_adds_84 rfl (ks_0 hk) rfl yw_X6_add lk_L_121 (by decide) (Nat.le_of_ble_eq_true rfl) (by decide) (fun _ => rfl) (fun _ => rfl) ⟨rfl, rfl, rfl⟩ (fun r h => Decidable.byContradiction (fun h9 => by rw [if_neg h9] at h; cases h)) (fun r28 g29 z30 h => ?_)
    rw [if_pos z30] at h
    refine kv_istore (pc := 87) [(7, .int r28.2.1), (6, .int r16.2), (5, .int r13.2.1), (4, .int (r7.1 - r1.2.1)), (3, .int (r4.1 - r1.2.1)), (2, .int r1.2.1), (0, .ref 0), (1, .ref 133)] dL_adds_87 (by decide) rfl ?_
    refine kv_iload (pc := 89) 2 dL_adds_89 rfl ?_
    refine kv_bipush (pc := 91) (v := 30) dL_adds_91 (by decide) ?_
    refine kv_icmp_ne (pc := 93) (tgt := 108) dL_adds_93 (by decide) h (fun h => ?_) (fun h => ?_)
    · refine kv_iload (pc := 108) 1 dL_adds_108 rfl ?_
      refine kv_iconst (pc := 110) (v := (-1)) dL_adds_110 (by decide) ?_
      refine kv_icmp_ne (pc := 111) (tgt := 141) dL_adds_111 (by decide) h (fun h => ?_) (fun h => ?_)
      · refine kv_iload (pc := 141) 0 dL_adds_141 rfl ?_
        refine kv_bipush (pc := 143) (v := (-2)) dL_adds_143 (by decide) ?_
        refine kv_icmp_ne (pc := 145) (tgt := 152) dL_adds_145 (by decide) h (fun h => ?_) (fun h => ?_)
        · refine kv_iconst (pc := 152) (v := 0) dL_adds_152 (by decide) ?_
          exact kv_zret (pc := 153) dL_adds_153 rfl rfl (by cases h; rfl) (by decide) (by decide)
        · refine kv_iconst (pc := 148) (v := 1) dL_adds_148 (by decide) ?_
          refine kv_goto (pc := 149) (tgt := 153) dL_adds_149 (by decide) ?_
          exact kv_zret (pc := 153) dL_adds_153 rfl rfl (by cases h; rfl) (by decide) (by decide)
      · refine kv_iload (pc := 114) 0 dL_adds_114 rfl ?_
        refine kv_iload (pc := 116) 2 dL_adds_116 rfl ?_
        refine kv_icmp_ne (pc := 118) (tgt := 137) dL_adds_118 (by decide) h (fun h => ?_) (fun h => ?_)
        · refine kv_iconst (pc := 137) (v := 0) dL_adds_137 (by decide) ?_
          refine kv_goto (pc := 138) (tgt := 153) dL_adds_138 (by decide) ?_
          exact kv_zret (pc := 153) dL_adds_153 rfl rfl (by cases h; rfl) (by decide) (by decide)
        · refine kv_aload_n (pc := 121) 6 dL_adds_121 rfl rfl ?_
          refine kv_iload_n (pc := 122) 4 dL_adds_122 rfl rfl ?_
          refine kv_iload (pc := 123) 3 dL_adds_123 rfl ?_
          refine kv_cVn (pc := 125) [.int (r4.1 - r1.2.1), .int (r7.1 - r1.2.1)] (fun r31 => (r31.1, .int r31.2, r28.2.2)) (fun r31 => (.int r31.2 :: [])) (fun r31 => r28.2.2) 128 0 0 h (fun r31 g32 hnt => tX6_chipAt sh hk l hst (r4.1 - r1.2.1) (r7.1 - r1.2.1) r28.2.2 r31 g32 hnt) dL_adds_125 rfl (ks_0 hk) rfl yw_X6_chipAt lk_L_60 (by decide) (Nat.le_of_ble_eq_true rfl) (by decide) (fun _ => rfl) (fun _ => rfl) ⟨rfl, rfl, rfl⟩ (fun r h => Decidable.byContradiction (fun h9 => by rw [if_neg h9] at h; cases h)) (fun r31 g32 z33 h => ?_)
          rw [if_pos z33] at h
          refine kv_iload (pc := 128) 2 dL_adds_128 rfl ?_
          refine kv_icmp_ne (pc := 130) (tgt := 137) dL_adds_130 (by decide) h (fun h => ?_) (fun h => ?_)
          · refine kv_iconst (pc := 137) (v := 0) dL_adds_137 (by decide) ?_
            refine kv_goto (pc := 138) (tgt := 153) dL_adds_138 (by decide) ?_
            exact kv_zret (pc := 153) dL_adds_153 rfl rfl (by cases h; rfl) (by decide) (by decide)
          · refine kv_iconst (pc := 133) (v := 1) dL_adds_133 (by decide) ?_
            refine kv_goto (pc := 134) (tgt := 153) dL_adds_134 (by decide) ?_
            exact kv_zret (pc := 153) dL_adds_153 rfl rfl (by cases h; rfl) (by decide) (by decide)
    · refine kv_iload (pc := 96) 0 dL_adds_96 rfl ?_
      refine kv_iconst (pc := 98) (v := (-1)) dL_adds_98 (by decide) ?_
      refine kv_icmp_ne (pc := 99) (tgt := 106) dL_adds_99 (by decide) h (fun h => ?_) (fun h => ?_)
      · refine kv_iconst (pc := 106) (v := 0) dL_adds_106 (by decide) ?_
        exact kv_zret (pc := 107) dL_adds_107 rfl rfl (by cases h; rfl) (by decide) (by decide)
      · refine kv_iconst (pc := 102) (v := 1) dL_adds_102 (by decide) ?_
        refine kv_goto (pc := 103) (tgt := 107) dL_adds_103 (by decide) ?_
        exact kv_zret (pc := 107) dL_adds_107 rfl rfl (by cases h; rfl) (by decide) (by decide)
  · refine kv_iconst (pc := 41) (v := 1) dL_adds_41 (by decide) ?_
    exact kv_zret (pc := 42) dL_adds_42 rfl rfl (by cases h; rfl) (by decide) (by decide)
theorem yw_L_adds : KMS yL_adds mL_adds 2 := ⟨⟨by decide +kernel, by decide +kernel, by decide +kernel⟩, ⟨rfl, rfl⟩, kg_in 1067 (by decide +kernel) (by decide +kernel), kg_in 45 (by decide +kernel) (by decide +kernel), kg_in 1068 (by decide +kernel) (by decide +kernel)⟩
theorem dL_acts_0 : decode cL_acts 0 = .ok (.aload_n 0, 1) := by decide +kernel
theorem dL_acts_1 : decode cL_acts 1 = .ok (.iconst 5, 1) := by decide +kernel
theorem dL_acts_2 : decode cL_acts 2 = .ok (.invokevirtual 27, 3) := by decide +kernel
theorem dL_acts_5 : decode cL_acts 5 = .ok (.istore_n 2, 1) := by decide +kernel
theorem dL_acts_6 : decode cL_acts 6 = .ok (.aload_n 1, 1) := by decide +kernel
theorem dL_acts_7 : decode cL_acts 7 = .ok (.bipush 8, 2) := by decide +kernel
theorem dL_acts_9 : decode cL_acts 9 = .ok (.invokevirtual 116, 3) := by decide +kernel
theorem dL_acts_12 : decode cL_acts 12 = .ok (.tableswitch 389 0 5 #[40, 45, 106, 181, 264, 352], 40) := by decide +kernel
theorem dL_acts_52 : decode cL_acts 52 = .ok (.aload_n 0, 1) := by decide +kernel
theorem dL_acts_53 : decode cL_acts 53 = .ok (.invokestatic 125, 3) := by decide +kernel
theorem dL_acts_56 : decode cL_acts 56 = .ok (.ireturn, 1) := by decide +kernel
theorem dL_acts_57 : decode cL_acts 57 = .ok (.aload_n 0, 1) := by decide +kernel
theorem dL_acts_58 : decode cL_acts 58 = .ok (.iconst 2, 1) := by decide +kernel
theorem dL_acts_59 : decode cL_acts 59 = .ok (.invokevirtual 27, 3) := by decide +kernel
theorem dL_acts_62 : decode cL_acts 62 = .ok (.istore_n 3, 1) := by decide +kernel
theorem dL_acts_63 : decode cL_acts 63 = .ok (.iconst 1, 1) := by decide +kernel
theorem dL_acts_64 : decode cL_acts 64 = .ok (.aload_n 1, 1) := by decide +kernel
theorem dL_acts_65 : decode cL_acts 65 = .ok (.bipush 7, 2) := by decide +kernel
theorem dL_acts_67 : decode cL_acts 67 = .ok (.invokevirtual 116, 3) := by decide +kernel
theorem dL_acts_70 : decode cL_acts 70 = .ok (.iadd, 1) := by decide +kernel
theorem dL_acts_71 : decode cL_acts 71 = .ok (.istore 4, 2) := by decide +kernel
theorem dL_acts_73 : decode cL_acts 73 = .ok (.aload_n 0, 1) := by decide +kernel
theorem dL_acts_74 : decode cL_acts 74 = .ok (.iload 4, 2) := by decide +kernel
theorem dL_acts_76 : decode cL_acts 76 = .ok (.invokevirtual 128, 3) := by decide +kernel
theorem dL_acts_79 : decode cL_acts 79 = .ok (.iload_n 3, 1) := by decide +kernel
theorem dL_acts_80 : decode cL_acts 80 = .ok (.iload 4, 2) := by decide +kernel
theorem dL_acts_82 : decode cL_acts 82 = .ok (.iadd, 1) := by decide +kernel
theorem dL_acts_83 : decode cL_acts 83 = .ok (.aload_n 0, 1) := by decide +kernel
theorem dL_acts_84 : decode cL_acts 84 = .ok (.bipush 14, 2) := by decide +kernel
theorem dL_acts_86 : decode cL_acts 86 = .ok (.invokevirtual 27, 3) := by decide +kernel
theorem dL_acts_89 : decode cL_acts 89 = .ok (.irem, 1) := by decide +kernel
theorem dL_acts_90 : decode cL_acts 90 = .ok (.if_icmp .ne 26, 3) := by decide +kernel
theorem dL_acts_93 : decode cL_acts 93 = .ok (.aload_n 0, 1) := by decide +kernel
theorem dL_acts_94 : decode cL_acts 94 = .ok (.iconst 2, 1) := by decide +kernel
theorem dL_acts_95 : decode cL_acts 95 = .ok (.invokevirtual 27, 3) := by decide +kernel
theorem dL_acts_98 : decode cL_acts 98 = .ok (.iload_n 3, 1) := by decide +kernel
theorem dL_acts_99 : decode cL_acts 99 = .ok (.iload 4, 2) := by decide +kernel
theorem dL_acts_101 : decode cL_acts 101 = .ok (.iadd, 1) := by decide +kernel
theorem dL_acts_102 : decode cL_acts 102 = .ok (.aload_n 0, 1) := by decide +kernel
theorem dL_acts_103 : decode cL_acts 103 = .ok (.bipush 14, 2) := by decide +kernel
theorem dL_acts_105 : decode cL_acts 105 = .ok (.invokevirtual 27, 3) := by decide +kernel
theorem dL_acts_108 : decode cL_acts 108 = .ok (.irem, 1) := by decide +kernel
theorem dL_acts_109 : decode cL_acts 109 = .ok (.if_icmp .ne 7, 3) := by decide +kernel
theorem dL_acts_112 : decode cL_acts 112 = .ok (.iconst 1, 1) := by decide +kernel
theorem dL_acts_113 : decode cL_acts 113 = .ok (.goto 4, 3) := by decide +kernel
theorem dL_acts_116 : decode cL_acts 116 = .ok (.iconst 0, 1) := by decide +kernel
theorem dL_acts_117 : decode cL_acts 117 = .ok (.ireturn, 1) := by decide +kernel
theorem dL_acts_118 : decode cL_acts 118 = .ok (.iload_n 2, 1) := by decide +kernel
theorem dL_acts_119 : decode cL_acts 119 = .ok (.ifCond .ne 5, 3) := by decide +kernel
theorem dL_acts_122 : decode cL_acts 122 = .ok (.iconst 1, 1) := by decide +kernel
theorem dL_acts_123 : decode cL_acts 123 = .ok (.ireturn, 1) := by decide +kernel
theorem dL_acts_124 : decode cL_acts 124 = .ok (.aload_n 1, 1) := by decide +kernel
theorem dL_acts_125 : decode cL_acts 125 = .ok (.iload_n 2, 1) := by decide +kernel
theorem dL_acts_126 : decode cL_acts 126 = .ok (.invokevirtual 116, 3) := by decide +kernel
theorem dL_acts_129 : decode cL_acts 129 = .ok (.istore 5, 2) := by decide +kernel
theorem dL_acts_131 : decode cL_acts 131 = .ok (.aload_n 0, 1) := by decide +kernel
theorem dL_acts_132 : decode cL_acts 132 = .ok (.iload 5, 2) := by decide +kernel
theorem dL_acts_134 : decode cL_acts 134 = .ok (.iconst 3, 1) := by decide +kernel
theorem dL_acts_135 : decode cL_acts 135 = .ok (.invokevirtual 63, 3) := by decide +kernel
theorem dL_acts_138 : decode cL_acts 138 = .ok (.bipush (-100), 2) := by decide +kernel
theorem dL_acts_140 : decode cL_acts 140 = .ok (.if_icmp .eq 7, 3) := by decide +kernel
theorem dL_acts_143 : decode cL_acts 143 = .ok (.iconst 1, 1) := by decide +kernel
theorem dL_acts_144 : decode cL_acts 144 = .ok (.goto 4, 3) := by decide +kernel
theorem dL_acts_147 : decode cL_acts 147 = .ok (.iconst 0, 1) := by decide +kernel
theorem dL_acts_148 : decode cL_acts 148 = .ok (.istore 6, 2) := by decide +kernel
theorem dL_acts_150 : decode cL_acts 150 = .ok (.iconst 1, 1) := by decide +kernel
theorem dL_acts_151 : decode cL_acts 151 = .ok (.aload_n 1, 1) := by decide +kernel
theorem dL_acts_152 : decode cL_acts 152 = .ok (.bipush 9, 2) := by decide +kernel
theorem dL_acts_154 : decode cL_acts 154 = .ok (.invokevirtual 116, 3) := by decide +kernel
theorem dL_acts_157 : decode cL_acts 157 = .ok (.iadd, 1) := by decide +kernel
theorem dL_acts_158 : decode cL_acts 158 = .ok (.istore 7, 2) := by decide +kernel
theorem dL_acts_160 : decode cL_acts 160 = .ok (.aload_n 0, 1) := by decide +kernel
theorem dL_acts_161 : decode cL_acts 161 = .ok (.iload 5, 2) := by decide +kernel
theorem dL_acts_163 : decode cL_acts 163 = .ok (.iload 7, 2) := by decide +kernel
theorem dL_acts_165 : decode cL_acts 165 = .ok (.invokevirtual 131, 3) := by decide +kernel
theorem dL_acts_168 : decode cL_acts 168 = .ok (.iload 6, 2) := by decide +kernel
theorem dL_acts_170 : decode cL_acts 170 = .ok (.ifCond .eq 12, 3) := by decide +kernel
theorem dL_acts_173 : decode cL_acts 173 = .ok (.aload_n 0, 1) := by decide +kernel
theorem dL_acts_174 : decode cL_acts 174 = .ok (.iload 7, 2) := by decide +kernel
theorem dL_acts_176 : decode cL_acts 176 = .ok (.invokevirtual 72, 3) := by decide +kernel
theorem dL_acts_179 : decode cL_acts 179 = .ok (.goto 5, 3) := by decide +kernel
theorem dL_acts_182 : decode cL_acts 182 = .ok (.bipush (-3), 2) := by decide +kernel
theorem dL_acts_184 : decode cL_acts 184 = .ok (.if_icmp .ne 7, 3) := by decide +kernel
theorem dL_acts_187 : decode cL_acts 187 = .ok (.iconst 1, 1) := by decide +kernel
theorem dL_acts_188 : decode cL_acts 188 = .ok (.goto 4, 3) := by decide +kernel
theorem dL_acts_191 : decode cL_acts 191 = .ok (.iconst 0, 1) := by decide +kernel
theorem dL_acts_192 : decode cL_acts 192 = .ok (.ireturn, 1) := by decide +kernel
theorem dL_acts_193 : decode cL_acts 193 = .ok (.iload_n 2, 1) := by decide +kernel
theorem dL_acts_194 : decode cL_acts 194 = .ok (.ifCond .ne 5, 3) := by decide +kernel
theorem dL_acts_197 : decode cL_acts 197 = .ok (.iconst 1, 1) := by decide +kernel
theorem dL_acts_198 : decode cL_acts 198 = .ok (.ireturn, 1) := by decide +kernel
theorem dL_acts_199 : decode cL_acts 199 = .ok (.aload_n 1, 1) := by decide +kernel
theorem dL_acts_200 : decode cL_acts 200 = .ok (.iload_n 2, 1) := by decide +kernel
theorem dL_acts_201 : decode cL_acts 201 = .ok (.invokevirtual 116, 3) := by decide +kernel
theorem dL_acts_204 : decode cL_acts 204 = .ok (.istore 8, 2) := by decide +kernel
theorem dL_acts_206 : decode cL_acts 206 = .ok (.aload_n 0, 1) := by decide +kernel
theorem dL_acts_207 : decode cL_acts 207 = .ok (.bipush 6, 2) := by decide +kernel
theorem dL_acts_209 : decode cL_acts 209 = .ok (.invokevirtual 27, 3) := by decide +kernel
theorem dL_acts_212 : decode cL_acts 212 = .ok (.istore 9, 2) := by decide +kernel
theorem dL_acts_214 : decode cL_acts 214 = .ok (.aload_n 0, 1) := by decide +kernel
theorem dL_acts_215 : decode cL_acts 215 = .ok (.iload 8, 2) := by decide +kernel
theorem dL_acts_217 : decode cL_acts 217 = .ok (.iconst 3, 1) := by decide +kernel
theorem dL_acts_218 : decode cL_acts 218 = .ok (.invokevirtual 63, 3) := by decide +kernel
theorem dL_acts_221 : decode cL_acts 221 = .ok (.bipush (-100), 2) := by decide +kernel
theorem dL_acts_223 : decode cL_acts 223 = .ok (.if_icmp .ne 22, 3) := by decide +kernel
theorem dL_acts_226 : decode cL_acts 226 = .ok (.aload_n 0, 1) := by decide +kernel
theorem dL_acts_227 : decode cL_acts 227 = .ok (.iload 8, 2) := by decide +kernel
theorem dL_acts_229 : decode cL_acts 229 = .ok (.invokevirtual 134, 3) := by decide +kernel
theorem dL_acts_232 : decode cL_acts 232 = .ok (.bipush (-3), 2) := by decide +kernel
theorem dL_acts_234 : decode cL_acts 234 = .ok (.if_icmp .ne 7, 3) := by decide +kernel
theorem dL_acts_237 : decode cL_acts 237 = .ok (.iconst 1, 1) := by decide +kernel
theorem dL_acts_238 : decode cL_acts 238 = .ok (.goto 37, 3) := by decide +kernel
theorem dL_acts_241 : decode cL_acts 241 = .ok (.iconst 0, 1) := by decide +kernel
theorem dL_acts_242 : decode cL_acts 242 = .ok (.goto 33, 3) := by decide +kernel
theorem dL_acts_245 : decode cL_acts 245 = .ok (.aload_n 0, 1) := by decide +kernel
theorem dL_acts_246 : decode cL_acts 246 = .ok (.iload 8, 2) := by decide +kernel
theorem dL_acts_248 : decode cL_acts 248 = .ok (.invokevirtual 134, 3) := by decide +kernel
theorem dL_acts_251 : decode cL_acts 251 = .ok (.iload 9, 2) := by decide +kernel
theorem dL_acts_253 : decode cL_acts 253 = .ok (.iconst 1, 1) := by decide +kernel
theorem dL_acts_254 : decode cL_acts 254 = .ok (.isub, 1) := by decide +kernel
theorem dL_acts_255 : decode cL_acts 255 = .ok (.if_icmp .ne 19, 3) := by decide +kernel
theorem dL_acts_258 : decode cL_acts 258 = .ok (.aload_n 0, 1) := by decide +kernel
theorem dL_acts_259 : decode cL_acts 259 = .ok (.iload 8, 2) := by decide +kernel
theorem dL_acts_261 : decode cL_acts 261 = .ok (.iconst 4, 1) := by decide +kernel
theorem dL_acts_262 : decode cL_acts 262 = .ok (.invokevirtual 63, 3) := by decide +kernel
theorem dL_acts_265 : decode cL_acts 265 = .ok (.bipush (-100), 2) := by decide +kernel
theorem dL_acts_267 : decode cL_acts 267 = .ok (.if_icmp .ne 7, 3) := by decide +kernel
theorem dL_acts_270 : decode cL_acts 270 = .ok (.iconst 1, 1) := by decide +kernel
theorem dL_acts_271 : decode cL_acts 271 = .ok (.goto 4, 3) := by decide +kernel
theorem dL_acts_274 : decode cL_acts 274 = .ok (.iconst 0, 1) := by decide +kernel
theorem dL_acts_275 : decode cL_acts 275 = .ok (.ireturn, 1) := by decide +kernel
theorem dL_acts_276 : decode cL_acts 276 = .ok (.aload_n 0, 1) := by decide +kernel
theorem dL_acts_277 : decode cL_acts 277 = .ok (.bipush 10, 2) := by decide +kernel
theorem dL_acts_279 : decode cL_acts 279 = .ok (.invokevirtual 27, 3) := by decide +kernel
theorem dL_acts_282 : decode cL_acts 282 = .ok (.iconst 2, 1) := by decide +kernel
theorem dL_acts_283 : decode cL_acts 283 = .ok (.irem, 1) := by decide +kernel
theorem dL_acts_284 : decode cL_acts 284 = .ok (.ifCond .ne 7, 3) := by decide +kernel
theorem dL_acts_287 : decode cL_acts 287 = .ok (.iconst 1, 1) := by decide +kernel
theorem dL_acts_288 : decode cL_acts 288 = .ok (.goto 4, 3) := by decide +kernel
theorem dL_acts_291 : decode cL_acts 291 = .ok (.iconst 0, 1) := by decide +kernel
theorem dL_acts_292 : decode cL_acts 292 = .ok (.istore 10, 2) := by decide +kernel
theorem dL_acts_294 : decode cL_acts 294 = .ok (.aload_n 0, 1) := by decide +kernel
theorem dL_acts_295 : decode cL_acts 295 = .ok (.iconst 0, 1) := by decide +kernel
theorem dL_acts_296 : decode cL_acts 296 = .ok (.iload 10, 2) := by decide +kernel
theorem dL_acts_298 : decode cL_acts 298 = .ok (.invokevirtual 137, 3) := by decide +kernel
theorem dL_acts_301 : decode cL_acts 301 = .ok (.aload_n 0, 1) := by decide +kernel
theorem dL_acts_302 : decode cL_acts 302 = .ok (.bipush 9, 2) := by decide +kernel
theorem dL_acts_304 : decode cL_acts 304 = .ok (.invokevirtual 27, 3) := by decide +kernel
theorem dL_acts_307 : decode cL_acts 307 = .ok (.if_icmp .ne 55, 3) := by decide +kernel
theorem dL_acts_310 : decode cL_acts 310 = .ok (.aload_n 0, 1) := by decide +kernel
theorem dL_acts_311 : decode cL_acts 311 = .ok (.iconst 0, 1) := by decide +kernel
theorem dL_acts_312 : decode cL_acts 312 = .ok (.iload 10, 2) := by decide +kernel
theorem dL_acts_314 : decode cL_acts 314 = .ok (.invokevirtual 137, 3) := by decide +kernel
theorem dL_acts_317 : decode cL_acts 317 = .ok (.bipush (-4), 2) := by decide +kernel
theorem dL_acts_319 : decode cL_acts 319 = .ok (.if_icmp .ne 43, 3) := by decide +kernel
theorem dL_acts_322 : decode cL_acts 322 = .ok (.aload_n 1, 1) := by decide +kernel
theorem dL_acts_323 : decode cL_acts 323 = .ok (.iconst 2, 1) := by decide +kernel
theorem dL_acts_324 : decode cL_acts 324 = .ok (.invokevirtual 116, 3) := by decide +kernel
theorem dL_acts_327 : decode cL_acts 327 = .ok (.ifCond .eq 31, 3) := by decide +kernel
theorem dL_acts_330 : decode cL_acts 330 = .ok (.aload_n 0, 1) := by decide +kernel
theorem dL_acts_331 : decode cL_acts 331 = .ok (.invokevirtual 106, 3) := by decide +kernel
theorem dL_acts_334 : decode cL_acts 334 = .ok (.ifCond .lt 28, 3) := by decide +kernel
theorem dL_acts_337 : decode cL_acts 337 = .ok (.aload_n 0, 1) := by decide +kernel
theorem dL_acts_338 : decode cL_acts 338 = .ok (.bipush 10, 2) := by decide +kernel
theorem dL_acts_340 : decode cL_acts 340 = .ok (.invokevirtual 27, 3) := by decide +kernel
theorem dL_acts_343 : decode cL_acts 343 = .ok (.iconst 2, 1) := by decide +kernel
theorem dL_acts_344 : decode cL_acts 344 = .ok (.irem, 1) := by decide +kernel
theorem dL_acts_345 : decode cL_acts 345 = .ok (.ifCond .ne 7, 3) := by decide +kernel
theorem dL_acts_348 : decode cL_acts 348 = .ok (.iconst 1, 1) := by decide +kernel
theorem dL_acts_349 : decode cL_acts 349 = .ok (.goto 4, 3) := by decide +kernel
theorem dL_acts_352 : decode cL_acts 352 = .ok (.iconst 0, 1) := by decide +kernel
theorem dL_acts_353 : decode cL_acts 353 = .ok (.iload 10, 2) := by decide +kernel
theorem dL_acts_355 : decode cL_acts 355 = .ok (.if_icmp .ne 7, 3) := by decide +kernel
theorem dL_acts_358 : decode cL_acts 358 = .ok (.iconst 1, 1) := by decide +kernel
theorem dL_acts_359 : decode cL_acts 359 = .ok (.goto 4, 3) := by decide +kernel
theorem dL_acts_362 : decode cL_acts 362 = .ok (.iconst 0, 1) := by decide +kernel
theorem dL_acts_363 : decode cL_acts 363 = .ok (.ireturn, 1) := by decide +kernel
theorem dL_acts_364 : decode cL_acts 364 = .ok (.aload_n 0, 1) := by decide +kernel
theorem dL_acts_365 : decode cL_acts 365 = .ok (.iconst 3, 1) := by decide +kernel
theorem dL_acts_366 : decode cL_acts 366 = .ok (.invokevirtual 27, 3) := by decide +kernel
theorem dL_acts_369 : decode cL_acts 369 = .ok (.istore 11, 2) := by decide +kernel
theorem dL_acts_371 : decode cL_acts 371 = .ok (.aload_n 0, 1) := by decide +kernel
theorem dL_acts_372 : decode cL_acts 372 = .ok (.iconst 1, 1) := by decide +kernel
theorem dL_acts_373 : decode cL_acts 373 = .ok (.aload_n 1, 1) := by decide +kernel
theorem dL_acts_374 : decode cL_acts 374 = .ok (.bipush 100, 2) := by decide +kernel
theorem dL_acts_376 : decode cL_acts 376 = .ok (.invokevirtual 116, 3) := by decide +kernel
theorem dL_acts_379 : decode cL_acts 379 = .ok (.iadd, 1) := by decide +kernel
theorem dL_acts_380 : decode cL_acts 380 = .ok (.invokevirtual 140, 3) := by decide +kernel
theorem dL_acts_383 : decode cL_acts 383 = .ok (.iload 11, 2) := by decide +kernel
theorem dL_acts_385 : decode cL_acts 385 = .ok (.if_icmp .ne 14, 3) := by decide +kernel
theorem dL_acts_388 : decode cL_acts 388 = .ok (.aload_n 0, 1) := by decide +kernel
theorem dL_acts_389 : decode cL_acts 389 = .ok (.invokestatic 143, 3) := by decide +kernel
theorem dL_acts_392 : decode cL_acts 392 = .ok (.ifCond .eq 7, 3) := by decide +kernel
theorem dL_acts_395 : decode cL_acts 395 = .ok (.iconst 1, 1) := by decide +kernel
theorem dL_acts_396 : decode cL_acts 396 = .ok (.goto 4, 3) := by decide +kernel
theorem dL_acts_399 : decode cL_acts 399 = .ok (.iconst 0, 1) := by decide +kernel
theorem dL_acts_400 : decode cL_acts 400 = .ok (.ireturn, 1) := by decide +kernel
theorem dL_acts_401 : decode cL_acts 401 = .ok (.aload_n 0, 1) := by decide +kernel
theorem dL_acts_402 : decode cL_acts 402 = .ok (.aload_n 1, 1) := by decide +kernel
theorem dL_acts_403 : decode cL_acts 403 = .ok (.invokestatic 146, 3) := by decide +kernel
theorem dL_acts_406 : decode cL_acts 406 = .ok (.ireturn, 1) := by decide +kernel
abbrev mL_acts : KM := (RL, cL_acts, 12, (some .boolean), { frames := 12, cells := 0, slots := 0, locals := 249 }, 0, 0)
def fL_acts_L184 (sh : KSh) (s0 : Int32) (s1 : Int32) (σ : Sto) : Option (Bool × Sto) :=
  if s1 = s0 then
    some (true, σ)
  else
    some (false, σ)
def fL_acts_L148 (sh : KSh) (v5 : Int32) (s0 : Int32) (σ : Sto) : Option (Bool × Sto) :=
  (fX7_next sh 9 σ).bind fun r39 =>
  (fX6_paint v5 (1 + r39.1) r39.2).bind fun r42 =>
  if r42.1 = 0 then
    if s0 = 0 then
      fL_acts_L184 sh (-3) r42.2.1 r42.2.2
    else
      (fX6_cellsOf (1 + r39.1) r42.2.2).bind fun r45 =>
      if r45.1 = 0 then
        fL_acts_L184 sh r45.2.1 r42.2.1 r45.2.2
      else none
  else none
def fL_acts_L353 (sh : KSh) (v10 : Int32) (s0 : Int32) (σ : Sto) : Option (Bool × Sto) :=
  if s0 = v10 then
    some (true, σ)
  else
    some (false, σ)
def fL_acts_L292 (sh : KSh) (s0 : Int32) (σ : Sto) : Option (Bool × Sto) :=
  (fX6_cover 0 s0 σ).bind fun r71 =>
  if r71.1 = 0 then
    (fX6_count 9 r71.2.2).bind fun r74 =>
    if r74.1 = 0 then
      if r71.2.1 = r74.2.1 then
        (fX6_cover 0 s0 r74.2.2).bind fun r77 =>
        if r77.1 = 0 then
          if r77.2.1 = (-4) then
            (fX7_next sh 2 r77.2.2).bind fun r80 =>
            if r80.1 = 0 then
              some (true, r80.2)
            else
              (fX6_undo r80.2).bind fun r83 =>
              if r83.1 < 0 then
                some (false, r83.2)
              else
                (fX6_count 10 r83.2).bind fun r86 =>
                if r86.1 = 0 then
                  if (krem r86.2.1 2) = 0 then
                    fL_acts_L353 sh s0 1 r86.2.2
                  else
                    fL_acts_L353 sh s0 0 r86.2.2
                else none
          else
            some (false, r77.2.2)
        else none
      else
        some (false, r74.2.2)
    else none
  else none
def fL_acts (sh : KSh) (σ : Sto) : Option (Bool × Sto) :=
  (fX6_count 5 σ).bind fun r1 =>
  if r1.1 = 0 then
    (fX7_next sh 8 r1.2.2).bind fun r4 =>
    if r4.1 = 0 then
      (fL_falls r4.2).bind fun r8 =>
      some (r8.1, r8.2)
    else
      if r4.1 = 1 then
        (fX6_count 2 r4.2).bind fun r12 =>
        if r12.1 = 0 then
          (fX7_next sh 7 r12.2.2).bind fun r15 =>
          (fX6_turn (1 + r15.1) r15.2).bind fun r18 =>
          if r18.1 = 0 then
            (fX6_count 14 r18.2.2).bind fun r21 =>
            if r21.1 = 0 then
              if r21.2.1 = 0 then none else
              if r18.2.1 = (krem (r12.2.1 + (1 + r15.1)) r21.2.1) then
                (fX6_count 2 r21.2.2).bind fun r25 =>
                if r25.1 = 0 then
                  (fX6_count 14 r25.2.2).bind fun r28 =>
                  if r28.1 = 0 then
                    if r28.2.1 = 0 then none else
                    if r25.2.1 = (krem (r12.2.1 + (1 + r15.1)) r28.2.1) then
                      some (true, r28.2.2)
                    else
                      some (false, r28.2.2)
                  else none
                else none
              else
                some (false, r21.2.2)
            else none
          else none
        else none
      else
        if r4.1 = 2 then
          if r1.2.1 = 0 then
            some (true, r4.2)
          else
            (fX7_next sh r1.2.1 r4.2).bind fun r33 =>
            (fX6_chip r33.1 3 r33.2).bind fun r36 =>
            if r36.1 = 0 then
              if r36.2 = (-100) then
                fL_acts_L148 sh r33.1 0 r33.2
              else
                fL_acts_L148 sh r33.1 1 r33.2
            else none
        else
          if r4.1 = 3 then
            if r1.2.1 = 0 then
              some (true, r4.2)
            else
              (fX7_next sh r1.2.1 r4.2).bind fun r49 =>
              (fX6_count 6 r49.2).bind fun r52 =>
              if r52.1 = 0 then
                (fX6_chip r49.1 3 r52.2.2).bind fun r55 =>
                if r55.1 = 0 then
                  if r55.2 = (-100) then
                    (fX6_take r49.1 r52.2.2).bind fun r64 =>
                    if r64.1 = 0 then
                      if r64.2.1 = (-3) then
                        some (true, r64.2.2)
                      else
                        some (false, r64.2.2)
                    else none
                  else
                    (fX6_take r49.1 r52.2.2).bind fun r58 =>
                    if r58.1 = 0 then
                      if r58.2.1 = (r52.2.1 - 1) then
                        (fX6_chip r49.1 4 r58.2.2).bind fun r61 =>
                        if r61.1 = 0 then
                          if r61.2 = (-100) then
                            some (true, r58.2.2)
                          else
                            some (false, r58.2.2)
                        else none
                      else
                        some (false, r58.2.2)
                    else none
                else none
              else none
          else
            if r4.1 = 4 then
              (fX6_count 10 r4.2).bind fun r68 =>
              if r68.1 = 0 then
                if (krem r68.2.1 2) = 0 then
                  fL_acts_L292 sh 1 r68.2.2
                else
                  fL_acts_L292 sh 0 r68.2.2
              else none
            else
              if r4.1 = 5 then
                (fX6_count 3 r4.2).bind fun r90 =>
                if r90.1 = 0 then
                  (fX7_next sh 100 r90.2.2).bind fun r93 =>
                  (fX6_setKeep (1 + r93.1) r93.2).bind fun r96 =>
                  if r96.1 = 0 then
                    if r96.2.1 = r90.2.1 then
                      (fL_hasMaps r96.2.2).bind fun r99 =>
                      if r99.1 = true then
                        some (true, r99.2)
                      else
                        some (false, r99.2)
                    else
                      some (false, r96.2.2)
                  else none
                else none
              else
                (fL_adds sh r4.2).bind fun r102 =>
                some (r102.1, r102.2)
  else none
set_option maxHeartbeats 4000000 in
set_option maxRecDepth 100000 in
theorem wL_acts_L184 (sh : KSh) (hk : KAG sh) (l : Launch) (hst : l.stackTraces = false) : ∀ (s0 : Int32), ∀ (s1 : Int32), ∀ (σ : Sto), ∀ (r : (Bool × Sto)), fL_acts_L184 sh s0 s1 σ = some r → VV sh l mL_acts 0 0 184 [] [.int s0, .int s1] σ (0, .int (kb r.1), r.2) := by
  intro s0 s1 σ r h
  rw [fL_acts_L184] at h
  refine kv_icmp_ne (pc := 184) (tgt := 191) dL_acts_184 (by decide) h (fun h => ?_) (fun h => ?_)
  · refine kv_iconst (pc := 191) (v := 0) dL_acts_191 (by decide) ?_
    exact kv_zret (pc := 192) dL_acts_192 rfl rfl (by cases h; rfl) (by decide) (by decide)
  · refine kv_iconst (pc := 187) (v := 1) dL_acts_187 (by decide) ?_
    refine kv_goto (pc := 188) (tgt := 192) dL_acts_188 (by decide) ?_
    exact kv_zret (pc := 192) dL_acts_192 rfl rfl (by cases h; rfl) (by decide) (by decide)
set_option maxHeartbeats 4000000 in
set_option maxRecDepth 100000 in
theorem wL_acts_L148 (sh : KSh) (hk : KAG sh) (l : Launch) (hst : l.stackTraces = false) : ∀ (v5 : Int32), ∀ (s0 : Int32), ∀ (σ : Sto), ∀ (r : (Bool × Sto)), fL_acts_L148 sh v5 s0 σ = some r → VV sh l mL_acts 0 0 148 [(0, .ref 0), (1, .ref 133), (5, .int v5)] [.int s0] σ (0, .int (kb r.1), r.2) := by
  intro v5 s0 σ r h
  rw [fL_acts_L148] at h
  refine kv_istore (pc := 148) [(6, .int s0), (0, .ref 0), (1, .ref 133), (5, .int v5)] dL_acts_148 (by decide) rfl ?_
  refine kv_iconst (pc := 150) (v := 1) dL_acts_150 (by decide) ?_
  refine kv_aload_n (pc := 151) 2 dL_acts_151 rfl rfl ?_
  refine kv_bipush (pc := 152) (v := 9) dL_acts_152 (by decide) ?_
  refine kv_cV (pc := 154) [.int 9] (fun r39 => (0, .int r39.1, r39.2)) (fun r39 => (.int r39.1 :: [.int 1])) (fun r39 => r39.2) 157 0 0 h (fun r39 g40 => tX7_next sh hk l hst 9 σ r39 g40) dL_acts_154 rfl (ks_133 hk) rfl yw_X7_next lk_L_116 (by decide) (Nat.le_of_ble_eq_true rfl) (by decide) (fun _ => rfl) (fun _ => rfl) ⟨rfl, rfl, rfl⟩ (fun _ _ h0 => absurd rfl h0) (fun r39 g40 z41 h => ?_)
  refine kv_iadd (pc := 157) dL_acts_157 ?_
  refine kv_istore (pc := 158) [(7, .int (1 + r39.1)), (6, .int s0), (0, .ref 0), (1, .ref 133), (5, .int v5)] dL_acts_158 (by decide) rfl ?_
  refine kv_aload_n (pc := 160) 2 dL_acts_160 rfl rfl ?_
  refine kv_iload (pc := 161) 4 dL_acts_161 rfl ?_
  refine kv_iload (pc := 163) 0 dL_acts_163 rfl ?_
  refine kv_cVn (pc := 165) [.int v5, .int (1 + r39.1)] (fun r42 => (r42.1, .int r42.2.1, r42.2.2)) (fun r42 => (.int r42.2.1 :: [])) (fun r42 => r42.2.2) 168 0 0 h (fun r42 g43 hnt => tX6_paint sh hk l hst v5 (1 + r39.1) r39.2 r42 g43 hnt) dL_acts_165 rfl (ks_0 hk) rfl yw_X6_paint lk_L_131 (by decide) (Nat.le_of_ble_eq_true rfl) (by decide) (fun _ => rfl) (fun _ => rfl) ⟨rfl, rfl, rfl⟩ (fun r h => Decidable.byContradiction (fun h9 => by rw [if_neg h9] at h; cases h)) (fun r42 g43 z44 h => ?_)
  rw [if_pos z44] at h
  refine kv_iload (pc := 168) 1 dL_acts_168 rfl ?_
  refine kv_if_eq (pc := 170) (tgt := 182) dL_acts_170 (by decide) h (fun h => ?_) (fun h => ?_)
  · refine kv_bipush (pc := 182) (v := (-3)) dL_acts_182 (by decide) ?_
    refine kv_sub (pc := 184) [] [] rfl ?_
    exact wL_acts_L184 sh hk l hst (-3) r42.2.1 r42.2.2 r h
  · refine kv_aload_n (pc := 173) 2 dL_acts_173 rfl rfl ?_
    refine kv_iload (pc := 174) 0 dL_acts_174 rfl ?_
    refine kv_cVn (pc := 176) [.int (1 + r39.1)] (fun r45 => (r45.1, .int r45.2.1, r45.2.2)) (fun r45 => (.int r45.2.1 :: [.int r42.2.1])) (fun r45 => r45.2.2) 179 0 0 h (fun r45 g46 hnt => tX6_cellsOf sh hk l hst (1 + r39.1) r42.2.2 r45 g46 hnt) dL_acts_176 rfl (ks_0 hk) rfl yw_X6_cellsOf lk_L_72 (by decide) (Nat.le_of_ble_eq_true rfl) (by decide) (fun _ => rfl) (fun _ => rfl) ⟨rfl, rfl, rfl⟩ (fun r h => Decidable.byContradiction (fun h9 => by rw [if_neg h9] at h; cases h)) (fun r45 g46 z47 h => ?_)
    rw [if_pos z47] at h
    refine kv_goto (pc := 179) (tgt := 184) dL_acts_179 (by decide) ?_
    refine kv_sub (pc := 184) [] [] rfl ?_
    exact wL_acts_L184 sh hk l hst r45.2.1 r42.2.1 r45.2.2 r h
set_option maxHeartbeats 4000000 in
set_option maxRecDepth 100000 in
theorem wL_acts_L353 (sh : KSh) (hk : KAG sh) (l : Launch) (hst : l.stackTraces = false) : ∀ (v10 : Int32), ∀ (s0 : Int32), ∀ (σ : Sto), ∀ (r : (Bool × Sto)), fL_acts_L353 sh v10 s0 σ = some r → VV sh l mL_acts 0 0 353 [(10, .int v10)] [.int s0] σ (0, .int (kb r.1), r.2) := by
  intro v10 s0 σ r h
  rw [fL_acts_L353] at h
  refine kv_iload (pc := 353) 0 dL_acts_353 rfl ?_
  refine kv_icmp_ne (pc := 355) (tgt := 362) dL_acts_355 (by decide) h (fun h => ?_) (fun h => ?_)
  · refine kv_iconst (pc := 362) (v := 0) dL_acts_362 (by decide) ?_
    exact kv_zret (pc := 363) dL_acts_363 rfl rfl (by cases h; rfl) (by decide) (by decide)
  · refine kv_iconst (pc := 358) (v := 1) dL_acts_358 (by decide) ?_
    refine kv_goto (pc := 359) (tgt := 363) dL_acts_359 (by decide) ?_
    exact kv_zret (pc := 363) dL_acts_363 rfl rfl (by cases h; rfl) (by decide) (by decide)
set_option maxHeartbeats 4000000 in
set_option maxRecDepth 100000 in
theorem wL_acts_L292 (sh : KSh) (hk : KAG sh) (l : Launch) (hst : l.stackTraces = false) : ∀ (s0 : Int32), ∀ (σ : Sto), ∀ (r : (Bool × Sto)), fL_acts_L292 sh s0 σ = some r → VV sh l mL_acts 0 0 292 [(0, .ref 0), (1, .ref 133)] [.int s0] σ (0, .int (kb r.1), r.2) := by
  intro s0 σ r h
  rw [fL_acts_L292] at h
  refine kv_istore (pc := 292) [(10, .int s0), (0, .ref 0), (1, .ref 133)] dL_acts_292 (by decide) rfl ?_
  refine kv_aload_n (pc := 294) 1 dL_acts_294 rfl rfl ?_
  refine kv_iconst (pc := 295) (v := 0) dL_acts_295 (by decide) ?_
  refine kv_iload (pc := 296) 0 dL_acts_296 rfl ?_
  refine kv_cVn (pc := 298) [.int 0, .int s0] (fun r71 => (r71.1, .int r71.2.1, r71.2.2)) (fun r71 => (.int r71.2.1 :: [])) (fun r71 => r71.2.2) 301 0 0 h (fun r71 g72 hnt => tX6_cover sh hk l hst 0 s0 σ r71 g72 hnt) dL_acts_298 rfl (ks_0 hk) rfl yw_X6_cover lk_L_137 (by decide) (Nat.le_of_ble_eq_true rfl) (by decide) (fun _ => rfl) (fun _ => rfl) ⟨rfl, rfl, rfl⟩ (fun r h => Decidable.byContradiction (fun h9 => by rw [if_neg h9] at h; cases h)) (fun r71 g72 z73 h => ?_)
  rw [if_pos z73] at h
  refine kv_aload_n (pc := 301) 1 dL_acts_301 rfl rfl ?_
  refine kv_bipush (pc := 302) (v := 9) dL_acts_302 (by decide) ?_
  refine kv_cVn (pc := 304) [.int 9] (fun r74 => (r74.1, .int r74.2.1, r74.2.2)) (fun r74 => (.int r74.2.1 :: [.int r71.2.1])) (fun r74 => r74.2.2) 307 0 0 h (fun r74 g75 hnt => tX6_count sh hk l hst 9 r71.2.2 r74 g75 hnt) dL_acts_304 rfl (ks_0 hk) rfl yw_X6_count lk_L_27 (by decide) (Nat.le_of_ble_eq_true rfl) (by decide) (fun _ => rfl) (fun _ => rfl) ⟨rfl, rfl, rfl⟩ (fun r h => Decidable.byContradiction (fun h9 => by rw [if_neg h9] at h; cases h)) (fun r74 g75 z76 h => ?_)
  rw [if_pos z76] at h
  refine kv_icmp_ne (pc := 307) (tgt := 362) dL_acts_307 (by decide) h (fun h => ?_) (fun h => ?_)
  · refine kv_iconst (pc := 362) (v := 0) dL_acts_362 (by decide) ?_
    exact kv_zret (pc := 363) dL_acts_363 rfl rfl (by cases h; rfl) (by decide) (by decide)
  · refine kv_aload_n (pc := 310) 1 dL_acts_310 rfl rfl ?_
    refine kv_iconst (pc := 311) (v := 0) dL_acts_311 (by decide) ?_
    refine kv_iload (pc := 312) 0 dL_acts_312 rfl ?_
    refine kv_cVn (pc := 314) [.int 0, .int s0] (fun r77 => (r77.1, .int r77.2.1, r77.2.2)) (fun r77 => (.int r77.2.1 :: [])) (fun r77 => r77.2.2) 317 0 0 h (fun r77 g78 hnt => tX6_cover sh hk l hst 0 s0 r74.2.2 r77 g78 hnt) dL_acts_314 rfl (ks_0 hk) rfl yw_X6_cover lk_L_137 (by decide) (Nat.le_of_ble_eq_true rfl) (by decide) (fun _ => rfl) (fun _ => rfl) ⟨rfl, rfl, rfl⟩ (fun r h => Decidable.byContradiction (fun h9 => by rw [if_neg h9] at h; cases h)) (fun r77 g78 z79 h => ?_)
    rw [if_pos z79] at h
    refine kv_bipush (pc := 317) (v := (-4)) dL_acts_317 (by decide) ?_
    refine kv_icmp_ne (pc := 319) (tgt := 362) dL_acts_319 (by decide) h (fun h => ?_) (fun h => ?_)
    · refine kv_iconst (pc := 362) (v := 0) dL_acts_362 (by decide) ?_
      exact kv_zret (pc := 363) dL_acts_363 rfl rfl (by cases h; rfl) (by decide) (by decide)
    · refine kv_aload_n (pc := 322) 2 dL_acts_322 rfl rfl ?_
      refine kv_iconst (pc := 323) (v := 2) dL_acts_323 (by decide) ?_
      refine kv_cV (pc := 324) [.int 2] (fun r80 => (0, .int r80.1, r80.2)) (fun r80 => (.int r80.1 :: [])) (fun r80 => r80.2) 327 0 0 h (fun r80 g81 => tX7_next sh hk l hst 2 r77.2.2 r80 g81) dL_acts_324 rfl (ks_133 hk) rfl yw_X7_next lk_L_116 (by decide) (Nat.le_of_ble_eq_true rfl) (by decide) (fun _ => rfl) (fun _ => rfl) ⟨rfl, rfl, rfl⟩ (fun _ _ h0 => absurd rfl h0) (fun r80 g81 z82 h => ?_)
      refine kv_if_eq (pc := 327) (tgt := 358) dL_acts_327 (by decide) h (fun h => ?_) (fun h => ?_)
      · refine kv_iconst (pc := 358) (v := 1) dL_acts_358 (by decide) ?_
        refine kv_goto (pc := 359) (tgt := 363) dL_acts_359 (by decide) ?_
        exact kv_zret (pc := 363) dL_acts_363 rfl rfl (by cases h; rfl) (by decide) (by decide)
      · refine kv_aload_n (pc := 330) 1 dL_acts_330 rfl rfl ?_
        refine kv_cV (pc := 331) [] (fun r83 => (0, .int r83.1, r83.2)) (fun r83 => (.int r83.1 :: [])) (fun r83 => r83.2) 334 0 0 h (fun r83 g84 => tX6_undo sh hk l hst  r80.2 r83 g84) dL_acts_331 rfl (ks_0 hk) rfl yw_X6_undo lk_L_106 (by decide) (Nat.le_of_ble_eq_true rfl) (by decide) (fun _ => rfl) (fun _ => rfl) ⟨rfl, rfl, rfl⟩ (fun _ _ h0 => absurd rfl h0) (fun r83 g84 z85 h => ?_)
        refine kv_if_lt (pc := 334) (tgt := 362) dL_acts_334 (by decide) h (fun h => ?_) (fun h => ?_)
        · refine kv_iconst (pc := 362) (v := 0) dL_acts_362 (by decide) ?_
          exact kv_zret (pc := 363) dL_acts_363 rfl rfl (by cases h; rfl) (by decide) (by decide)
        · refine kv_aload_n (pc := 337) 1 dL_acts_337 rfl rfl ?_
          refine kv_bipush (pc := 338) (v := 10) dL_acts_338 (by decide) ?_
          refine kv_cVn (pc := 340) [.int 10] (fun r86 => (r86.1, .int r86.2.1, r86.2.2)) (fun r86 => (.int r86.2.1 :: [])) (fun r86 => r86.2.2) 343 0 0 h (fun r86 g87 hnt => tX6_count sh hk l hst 10 r83.2 r86 g87 hnt) dL_acts_340 rfl (ks_0 hk) rfl yw_X6_count lk_L_27 (by decide) (Nat.le_of_ble_eq_true rfl) (by decide) (fun _ => rfl) (fun _ => rfl) ⟨rfl, rfl, rfl⟩ (fun r h => Decidable.byContradiction (fun h9 => by rw [if_neg h9] at h; cases h)) (fun r86 g87 z88 h => ?_)
          rw [if_pos z88] at h
          refine kv_iconst (pc := 343) (v := 2) dL_acts_343 (by decide) ?_
          refine kv_irem (pc := 344) dL_acts_344 (by decide) ?_
          refine kv_if_ne (pc := 345) (tgt := 352) dL_acts_345 (by decide) h (fun h => ?_) (fun h => ?_)
          · refine kv_iconst (pc := 352) (v := 0) dL_acts_352 (by decide) ?_
            refine kv_sub (pc := 353) [(10, .int s0)] [0] rfl ?_
            exact wL_acts_L353 sh hk l hst s0 0 r86.2.2 r h
          · refine kv_iconst (pc := 348) (v := 1) dL_acts_348 (by decide) ?_
            refine kv_goto (pc := 349) (tgt := 353) dL_acts_349 (by decide) ?_
            refine kv_sub (pc := 353) [(10, .int s0)] [0] rfl ?_
            exact wL_acts_L353 sh hk l hst s0 1 r86.2.2 r h
set_option maxHeartbeats 4000000 in
set_option maxRecDepth 100000 in
theorem tL_acts (sh : KSh) (hk : KAG sh) (l : Launch) (hst : l.stackTraces = false) (σ : Sto) (r : (Bool × Sto)) (h : fL_acts sh σ = some r) : CT sh l mL_acts yL_acts [.ref 0, .ref 133] σ (0, .int (kb r.1), r.2) := by
  refine kct [(0, .ref 0), (1, .ref 133)] hst (by decide +kernel) rfl rfl (Nat.le_of_ble_eq_true rfl) ?_
  rw [fL_acts] at h
  refine kv_aload_n (pc := 0) 0 dL_acts_0 rfl rfl ?_
  refine kv_iconst (pc := 1) (v := 5) dL_acts_1 (by decide) ?_
  refine kv_cVn (pc := 2) [.int 5] (fun r1 => (r1.1, .int r1.2.1, r1.2.2)) (fun r1 => (.int r1.2.1 :: [])) (fun r1 => r1.2.2) 5 0 0 h (fun r1 g2 hnt => tX6_count sh hk l hst 5 σ r1 g2 hnt) dL_acts_2 rfl (ks_0 hk) rfl yw_X6_count lk_L_27 (by decide) (Nat.le_of_ble_eq_true rfl) (by decide) (fun _ => rfl) (fun _ => rfl) ⟨rfl, rfl, rfl⟩ (fun r h => Decidable.byContradiction (fun h9 => by rw [if_neg h9] at h; cases h)) (fun r1 g2 z3 h => ?_)
  rw [if_pos z3] at h
  refine kv_istore_n (pc := 5) [(2, .int r1.2.1), (0, .ref 0), (1, .ref 133)] dL_acts_5 rfl (by decide) rfl ?_
  refine kv_aload_n (pc := 6) 2 dL_acts_6 rfl rfl ?_
  refine kv_bipush (pc := 7) (v := 8) dL_acts_7 (by decide) ?_
  refine kv_cV (pc := 9) [.int 8] (fun r4 => (0, .int r4.1, r4.2)) (fun r4 => (.int r4.1 :: [])) (fun r4 => r4.2) 12 0 0 h (fun r4 g5 => tX7_next sh hk l hst 8 r1.2.2 r4 g5) dL_acts_9 rfl (ks_133 hk) rfl yw_X7_next lk_L_116 (by decide) (Nat.le_of_ble_eq_true rfl) (by decide) (fun _ => rfl) (fun _ => rfl) ⟨rfl, rfl, rfl⟩ (fun _ _ h0 => absurd rfl h0) (fun r4 g5 z6 h => ?_)
  by_cases e7 : r4.1 = 0
  · rw [if_pos e7] at h
    refine kv_tableIn (pc := 12) (off := 40) (tgt := 52) dL_acts_12 (by rw [e7]; decide) (by rw [e7]; decide) (by rw [e7]; rfl) (by decide) ?_
    refine kv_aload_n (pc := 52) 1 dL_acts_52 rfl rfl ?_
    refine kv_cS (pc := 53) [.ref 0] (fun r8 => (0, .int (kb r8.1), r8.2)) (fun r8 => (.int (kb r8.1) :: [])) (fun r8 => r8.2) 56 0 0 h (fun r8 g9 => tL_falls sh hk l hst  r4.2 r8 g9) dL_acts_53 rfl yw_L_falls lk_L_125 (by decide) (Nat.le_of_ble_eq_true rfl) (by decide) (fun _ => rfl) (fun _ => rfl) ⟨rfl, rfl, rfl⟩ (fun _ _ h0 => absurd rfl h0) (fun r8 g9 z10 h => ?_)
    exact kv_zret (pc := 56) dL_acts_56 rfl (kb_n _) (by cases h; rfl) (by decide) (by decide)
  · rw [if_neg e7] at h
    by_cases e11 : r4.1 = 1
    · rw [if_pos e11] at h
      refine kv_tableIn (pc := 12) (off := 45) (tgt := 57) dL_acts_12 (by rw [e11]; decide) (by rw [e11]; decide) (by rw [e11]; rfl) (by decide) ?_
      refine kv_aload_n (pc := 57) 1 dL_acts_57 rfl rfl ?_
      refine kv_iconst (pc := 58) (v := 2) dL_acts_58 (by decide) ?_
      refine kv_cVn (pc := 59) [.int 2] (fun r12 => (r12.1, .int r12.2.1, r12.2.2)) (fun r12 => (.int r12.2.1 :: [])) (fun r12 => r12.2.2) 62 0 0 h (fun r12 g13 hnt => tX6_count sh hk l hst 2 r4.2 r12 g13 hnt) dL_acts_59 rfl (ks_0 hk) rfl yw_X6_count lk_L_27 (by decide) (Nat.le_of_ble_eq_true rfl) (by decide) (fun _ => rfl) (fun _ => rfl) ⟨rfl, rfl, rfl⟩ (fun r h => Decidable.byContradiction (fun h9 => by rw [if_neg h9] at h; cases h)) (fun r12 g13 z14 h => ?_)
      rw [if_pos z14] at h
      refine kv_istore_n (pc := 62) [(3, .int r12.2.1), (2, .int r1.2.1), (0, .ref 0), (1, .ref 133)] dL_acts_62 rfl (by decide) rfl ?_
      refine kv_iconst (pc := 63) (v := 1) dL_acts_63 (by decide) ?_
      refine kv_aload_n (pc := 64) 3 dL_acts_64 rfl rfl ?_
      refine kv_bipush (pc := 65) (v := 7) dL_acts_65 (by decide) ?_
      refine kv_cV (pc := 67) [.int 7] (fun r15 => (0, .int r15.1, r15.2)) (fun r15 => (.int r15.1 :: [.int 1])) (fun r15 => r15.2) 70 0 0 h (fun r15 g16 => tX7_next sh hk l hst 7 r12.2.2 r15 g16) dL_acts_67 rfl (ks_133 hk) rfl yw_X7_next lk_L_116 (by decide) (Nat.le_of_ble_eq_true rfl) (by decide) (fun _ => rfl) (fun _ => rfl) ⟨rfl, rfl, rfl⟩ (fun _ _ h0 => absurd rfl h0) (fun r15 g16 z17 h => ?_)
      refine kv_iadd (pc := 70) dL_acts_70 ?_
      refine kv_istore (pc := 71) [(4, .int (1 + r15.1)), (3, .int r12.2.1), (2, .int r1.2.1), (0, .ref 0), (1, .ref 133)] dL_acts_71 (by decide) rfl ?_
      refine kv_aload_n (pc := 73) 3 dL_acts_73 rfl rfl ?_
      refine kv_iload (pc := 74) 0 dL_acts_74 rfl ?_
      refine kv_cVn (pc := 76) [.int (1 + r15.1)] (fun r18 => (r18.1, .int r18.2.1, r18.2.2)) (fun r18 => (.int r18.2.1 :: [])) (fun r18 => r18.2.2) 79 0 0 h (fun r18 g19 hnt => tX6_turn sh hk l hst (1 + r15.1) r15.2 r18 g19 hnt) dL_acts_76 rfl (ks_0 hk) rfl yw_X6_turn lk_L_128 (by decide) (Nat.le_of_ble_eq_true rfl) (by decide) (fun _ => rfl) (fun _ => rfl) ⟨rfl, rfl, rfl⟩ (fun r h => Decidable.byContradiction (fun h9 => by rw [if_neg h9] at h; cases h)) (fun r18 g19 z20 h => ?_)
      rw [if_pos z20] at h
      refine kv_iload_n (pc := 79) 1 dL_acts_79 rfl rfl ?_
      refine kv_iload (pc := 80) 0 dL_acts_80 rfl ?_
      refine kv_iadd (pc := 82) dL_acts_82 ?_
      refine kv_aload_n (pc := 83) 3 dL_acts_83 rfl rfl ?_
      refine kv_bipush (pc := 84) (v := 14) dL_acts_84 (by decide) ?_
      refine kv_cVn (pc := 86) [.int 14] (fun r21 => (r21.1, .int r21.2.1, r21.2.2)) (fun r21 => (.int r21.2.1 :: [.int (r12.2.1 + (1 + r15.1)), .int r18.2.1])) (fun r21 => r21.2.2) 89 0 0 h (fun r21 g22 hnt => tX6_count sh hk l hst 14 r18.2.2 r21 g22 hnt) dL_acts_86 rfl (ks_0 hk) rfl yw_X6_count lk_L_27 (by decide) (Nat.le_of_ble_eq_true rfl) (by decide) (fun _ => rfl) (fun _ => rfl) ⟨rfl, rfl, rfl⟩ (fun r h => Decidable.byContradiction (fun h9 => by rw [if_neg h9] at h; cases h)) (fun r21 g22 z23 h => ?_)
      rw [if_pos z23] at h
      obtain ⟨c24, h⟩ := knz h
      refine kv_irem (pc := 89) dL_acts_89 c24 ?_
      refine kv_icmp_ne (pc := 90) (tgt := 116) dL_acts_90 (by decide) h (fun h => ?_) (fun h => ?_)
      · refine kv_iconst (pc := 116) (v := 0) dL_acts_116 (by decide) ?_
        exact kv_zret (pc := 117) dL_acts_117 rfl rfl (by cases h; rfl) (by decide) (by decide)
      · refine kv_aload_n (pc := 93) 3 dL_acts_93 rfl rfl ?_
        refine kv_iconst (pc := 94) (v := 2) dL_acts_94 (by decide) ?_
        refine kv_cVn (pc := 95) [.int 2] (fun r25 => (r25.1, .int r25.2.1, r25.2.2)) (fun r25 => (.int r25.2.1 :: [])) (fun r25 => r25.2.2) 98 0 0 h (fun r25 g26 hnt => tX6_count sh hk l hst 2 r21.2.2 r25 g26 hnt) dL_acts_95 rfl (ks_0 hk) rfl yw_X6_count lk_L_27 (by decide) (Nat.le_of_ble_eq_true rfl) (by decide) (fun _ => rfl) (fun _ => rfl) ⟨rfl, rfl, rfl⟩ (fun r h => Decidable.byContradiction (fun h9 => by rw [if_neg h9] at h; cases h)) (fun r25 g26 z27 h => ?_)
        rw [if_pos z27] at h
        refine kv_iload_n (pc := 98) 1 dL_acts_98 rfl rfl ?_
        refine kv_iload (pc := 99) 0 dL_acts_99 rfl ?_
        refine kv_iadd (pc := 101) dL_acts_101 ?_
        refine kv_aload_n (pc := 102) 3 dL_acts_102 rfl rfl ?_
        refine kv_bipush (pc := 103) (v := 14) dL_acts_103 (by decide) ?_
        refine kv_cVn (pc := 105) [.int 14] (fun r28 => (r28.1, .int r28.2.1, r28.2.2)) (fun r28 => (.int r28.2.1 :: [.int (r12.2.1 + (1 + r15.1)), .int r25.2.1])) (fun r28 => r28.2.2) 108 0 0 h (fun r28 g29 hnt => tX6_count sh hk l hst 14 r25.2.2 r28 g29 hnt) dL_acts_105 rfl (ks_0 hk) rfl yw_X6_count lk_L_27 (by decide) (Nat.le_of_ble_eq_true rfl) (by decide) (fun _ => rfl) (fun _ => rfl) ⟨rfl, rfl, rfl⟩ (fun r h => Decidable.byContradiction (fun h9 => by rw [if_neg h9] at h; cases h)) (fun r28 g29 z30 h => ?_)
        rw [if_pos z30] at h
        obtain ⟨c31, h⟩ := knz h
        refine kv_irem (pc := 108) dL_acts_108 c31 ?_
        refine kv_icmp_ne (pc := 109) (tgt := 116) dL_acts_109 (by decide) h (fun h => ?_) (fun h => ?_)
        · refine kv_iconst (pc := 116) (v := 0) dL_acts_116 (by decide) ?_
          exact kv_zret (pc := 117) dL_acts_117 rfl rfl (by cases h; rfl) (by decide) (by decide)
        · refine kv_iconst (pc := 112) (v := 1) dL_acts_112 (by decide) ?_
          refine kv_goto (pc := 113) (tgt := 117) dL_acts_113 (by decide) ?_
          exact kv_zret (pc := 117) dL_acts_117 rfl rfl (by cases h; rfl) (by decide) (by decide)
    · rw [if_neg e11] at h
      by_cases e32 : r4.1 = 2
      · rw [if_pos e32] at h
        refine kv_tableIn (pc := 12) (off := 106) (tgt := 118) dL_acts_12 (by rw [e32]; decide) (by rw [e32]; decide) (by rw [e32]; rfl) (by decide) ?_
        refine kv_iload_n (pc := 118) 0 dL_acts_118 rfl rfl ?_
        refine kv_if_ne (pc := 119) (tgt := 124) dL_acts_119 (by decide) h (fun h => ?_) (fun h => ?_)
        · refine kv_aload_n (pc := 124) 2 dL_acts_124 rfl rfl ?_
          refine kv_iload_n (pc := 125) 0 dL_acts_125 rfl rfl ?_
          refine kv_cV (pc := 126) [.int r1.2.1] (fun r33 => (0, .int r33.1, r33.2)) (fun r33 => (.int r33.1 :: [])) (fun r33 => r33.2) 129 0 0 h (fun r33 g34 => tX7_next sh hk l hst r1.2.1 r4.2 r33 g34) dL_acts_126 rfl (ks_133 hk) rfl yw_X7_next lk_L_116 (by decide) (Nat.le_of_ble_eq_true rfl) (by decide) (fun _ => rfl) (fun _ => rfl) ⟨rfl, rfl, rfl⟩ (fun _ _ h0 => absurd rfl h0) (fun r33 g34 z35 h => ?_)
          refine kv_istore (pc := 129) [(5, .int r33.1), (2, .int r1.2.1), (0, .ref 0), (1, .ref 133)] dL_acts_129 (by decide) rfl ?_
          refine kv_aload_n (pc := 131) 2 dL_acts_131 rfl rfl ?_
          refine kv_iload (pc := 132) 0 dL_acts_132 rfl ?_
          refine kv_iconst (pc := 134) (v := 3) dL_acts_134 (by decide) ?_
          refine kv_cVn (pc := 135) [.int r33.1, .int 3] (fun r36 => (r36.1, .int r36.2, r33.2)) (fun r36 => (.int r36.2 :: [])) (fun r36 => r33.2) 138 0 0 h (fun r36 g37 hnt => tX6_chip sh hk l hst r33.1 3 r33.2 r36 g37 hnt) dL_acts_135 rfl (ks_0 hk) rfl yw_X6_chip lk_L_63 (by decide) (Nat.le_of_ble_eq_true rfl) (by decide) (fun _ => rfl) (fun _ => rfl) ⟨rfl, rfl, rfl⟩ (fun r h => Decidable.byContradiction (fun h9 => by rw [if_neg h9] at h; cases h)) (fun r36 g37 z38 h => ?_)
          rw [if_pos z38] at h
          refine kv_bipush (pc := 138) (v := (-100)) dL_acts_138 (by decide) ?_
          refine kv_icmp_eq (pc := 140) (tgt := 147) dL_acts_140 (by decide) h (fun h => ?_) (fun h => ?_)
          · refine kv_iconst (pc := 147) (v := 0) dL_acts_147 (by decide) ?_
            refine kv_sub (pc := 148) [(0, .ref 0), (1, .ref 133), (5, .int r33.1)] [2, 3, 0] rfl ?_
            exact wL_acts_L148 sh hk l hst r33.1 0 r33.2 r h
          · refine kv_iconst (pc := 143) (v := 1) dL_acts_143 (by decide) ?_
            refine kv_goto (pc := 144) (tgt := 148) dL_acts_144 (by decide) ?_
            refine kv_sub (pc := 148) [(0, .ref 0), (1, .ref 133), (5, .int r33.1)] [2, 3, 0] rfl ?_
            exact wL_acts_L148 sh hk l hst r33.1 1 r33.2 r h
        · refine kv_iconst (pc := 122) (v := 1) dL_acts_122 (by decide) ?_
          exact kv_zret (pc := 123) dL_acts_123 rfl rfl (by cases h; rfl) (by decide) (by decide)
      · rw [if_neg e32] at h
        by_cases e48 : r4.1 = 3
        · rw [if_pos e48] at h
          refine kv_tableIn (pc := 12) (off := 181) (tgt := 193) dL_acts_12 (by rw [e48]; decide) (by rw [e48]; decide) (by rw [e48]; rfl) (by decide) ?_
          refine kv_iload_n (pc := 193) 0 dL_acts_193 rfl rfl ?_
          refine kv_if_ne (pc := 194) (tgt := 199) dL_acts_194 (by decide) h (fun h => ?_) (fun h => ?_)
          · refine kv_aload_n (pc := 199) 2 dL_acts_199 rfl rfl ?_
            refine kv_iload_n (pc := 200) 0 dL_acts_200 rfl rfl ?_
            refine kv_cV (pc := 201) [.int r1.2.1] (fun r49 => (0, .int r49.1, r49.2)) (fun r49 => (.int r49.1 :: [])) (fun r49 => r49.2) 204 0 0 h (fun r49 g50 => tX7_next sh hk l hst r1.2.1 r4.2 r49 g50) dL_acts_201 rfl (ks_133 hk) rfl yw_X7_next lk_L_116 (by decide) (Nat.le_of_ble_eq_true rfl) (by decide) (fun _ => rfl) (fun _ => rfl) ⟨rfl, rfl, rfl⟩ (fun _ _ h0 => absurd rfl h0) (fun r49 g50 z51 h => ?_)
            refine kv_istore (pc := 204) [(8, .int r49.1), (2, .int r1.2.1), (0, .ref 0), (1, .ref 133)] dL_acts_204 (by decide) rfl ?_
            refine kv_aload_n (pc := 206) 2 dL_acts_206 rfl rfl ?_
            refine kv_bipush (pc := 207) (v := 6) dL_acts_207 (by decide) ?_
            refine kv_cVn (pc := 209) [.int 6] (fun r52 => (r52.1, .int r52.2.1, r52.2.2)) (fun r52 => (.int r52.2.1 :: [])) (fun r52 => r52.2.2) 212 0 0 h (fun r52 g53 hnt => tX6_count sh hk l hst 6 r49.2 r52 g53 hnt) dL_acts_209 rfl (ks_0 hk) rfl yw_X6_count lk_L_27 (by decide) (Nat.le_of_ble_eq_true rfl) (by decide) (fun _ => rfl) (fun _ => rfl) ⟨rfl, rfl, rfl⟩ (fun r h => Decidable.byContradiction (fun h9 => by rw [if_neg h9] at h; cases h)) (fun r52 g53 z54 h => ?_)
            rw [if_pos z54] at h
            refine kv_istore (pc := 212) [(9, .int r52.2.1), (8, .int r49.1), (2, .int r1.2.1), (0, .ref 0), (1, .ref 133)] dL_acts_212 (by decide) rfl ?_
            refine kv_aload_n (pc := 214) 3 dL_acts_214 rfl rfl ?_
            refine kv_iload (pc := 215) 1 dL_acts_215 rfl ?_
            refine kv_iconst (pc := 217) (v := 3) dL_acts_217 (by decide) ?_
            refine kv_cVn (pc := 218) [.int r49.1, .int 3] (fun r55 => (r55.1, .int r55.2, r52.2.2)) (fun r55 => (.int r55.2 :: [])) (fun r55 => r52.2.2) 221 0 0 h (fun r55 g56 hnt => tX6_chip sh hk l hst r49.1 3 r52.2.2 r55 g56 hnt) dL_acts_218 rfl (ks_0 hk) rfl yw_X6_chip lk_L_63 (by decide) (Nat.le_of_ble_eq_true rfl) (by decide) (fun _ => rfl) (fun _ => rfl) ⟨rfl, rfl, rfl⟩ (fun r h => Decidable.byContradiction (fun h9 => by rw [if_neg h9] at h; cases h)) (fun r55 g56 z57 h => ?_)
            rw [if_pos z57] at h
            refine kv_bipush (pc := 221) (v := (-100)) dL_acts_221 (by decide) ?_
            refine kv_icmp_ne (pc := 223) (tgt := 245) dL_acts_223 (by decide) h (fun h => ?_) (fun h => ?_)
            · refine kv_aload_n (pc := 245) 3 dL_acts_245 rfl rfl ?_
              refine kv_iload (pc := 246) 1 dL_acts_246 rfl ?_
              refine kv_cVn (pc := 248) [.int r49.1] (fun r58 => (r58.1, .int r58.2.1, r58.2.2)) (fun r58 => (.int r58.2.1 :: [])) (fun r58 => r58.2.2) 251 0 0 h (fun r58 g59 hnt => tX6_take sh hk l hst r49.1 r52.2.2 r58 g59 hnt) dL_acts_248 rfl (ks_0 hk) rfl yw_X6_take lk_L_134 (by decide) (Nat.le_of_ble_eq_true rfl) (by decide) (fun _ => rfl) (fun _ => rfl) ⟨rfl, rfl, rfl⟩ (fun r h => Decidable.byContradiction (fun h9 => by rw [if_neg h9] at h; cases h)) (fun r58 g59 z60 h => ?_)
              rw [if_pos z60] at h
              refine kv_iload (pc := 251) 0 dL_acts_251 rfl ?_
              refine kv_iconst (pc := 253) (v := 1) dL_acts_253 (by decide) ?_
              refine kv_isub (pc := 254) dL_acts_254 ?_
              refine kv_icmp_ne (pc := 255) (tgt := 274) dL_acts_255 (by decide) h (fun h => ?_) (fun h => ?_)
              · refine kv_iconst (pc := 274) (v := 0) dL_acts_274 (by decide) ?_
                exact kv_zret (pc := 275) dL_acts_275 rfl rfl (by cases h; rfl) (by decide) (by decide)
              · refine kv_aload_n (pc := 258) 3 dL_acts_258 rfl rfl ?_
                refine kv_iload (pc := 259) 1 dL_acts_259 rfl ?_
                refine kv_iconst (pc := 261) (v := 4) dL_acts_261 (by decide) ?_
                refine kv_cVn (pc := 262) [.int r49.1, .int 4] (fun r61 => (r61.1, .int r61.2, r58.2.2)) (fun r61 => (.int r61.2 :: [])) (fun r61 => r58.2.2) 265 0 0 h (fun r61 g62 hnt => tX6_chip sh hk l hst r49.1 4 r58.2.2 r61 g62 hnt) dL_acts_262 rfl (ks_0 hk) rfl yw_X6_chip lk_L_63 (by decide) (Nat.le_of_ble_eq_true rfl) (by decide) (fun _ => rfl) (fun _ => rfl) ⟨rfl, rfl, rfl⟩ (fun r h => Decidable.byContradiction (fun h9 => by rw [if_neg h9] at h; cases h)) (fun r61 g62 z63 h => ?_)
                rw [if_pos z63] at h
                refine kv_bipush (pc := 265) (v := (-100)) dL_acts_265 (by decide) ?_
                refine kv_icmp_ne (pc := 267) (tgt := 274) dL_acts_267 (by decide) h (fun h => ?_) (fun h => ?_)
                · refine kv_iconst (pc := 274) (v := 0) dL_acts_274 (by decide) ?_
                  exact kv_zret (pc := 275) dL_acts_275 rfl rfl (by cases h; rfl) (by decide) (by decide)
                · refine kv_iconst (pc := 270) (v := 1) dL_acts_270 (by decide) ?_
                  refine kv_goto (pc := 271) (tgt := 275) dL_acts_271 (by decide) ?_
                  exact kv_zret (pc := 275) dL_acts_275 rfl rfl (by cases h; rfl) (by decide) (by decide)
            · refine kv_aload_n (pc := 226) 3 dL_acts_226 rfl rfl ?_
              refine kv_iload (pc := 227) 1 dL_acts_227 rfl ?_
              refine kv_cVn (pc := 229) [.int r49.1] (fun r64 => (r64.1, .int r64.2.1, r64.2.2)) (fun r64 => (.int r64.2.1 :: [])) (fun r64 => r64.2.2) 232 0 0 h (fun r64 g65 hnt => tX6_take sh hk l hst r49.1 r52.2.2 r64 g65 hnt) dL_acts_229 rfl (ks_0 hk) rfl yw_X6_take lk_L_134 (by decide) (Nat.le_of_ble_eq_true rfl) (by decide) (fun _ => rfl) (fun _ => rfl) ⟨rfl, rfl, rfl⟩ (fun r h => Decidable.byContradiction (fun h9 => by rw [if_neg h9] at h; cases h)) (fun r64 g65 z66 h => ?_)
              rw [if_pos z66] at h
              refine kv_bipush (pc := 232) (v := (-3)) dL_acts_232 (by decide) ?_
              refine kv_icmp_ne (pc := 234) (tgt := 241) dL_acts_234 (by decide) h (fun h => ?_) (fun h => ?_)
              · refine kv_iconst (pc := 241) (v := 0) dL_acts_241 (by decide) ?_
                refine kv_goto (pc := 242) (tgt := 275) dL_acts_242 (by decide) ?_
                exact kv_zret (pc := 275) dL_acts_275 rfl rfl (by cases h; rfl) (by decide) (by decide)
              · refine kv_iconst (pc := 237) (v := 1) dL_acts_237 (by decide) ?_
                refine kv_goto (pc := 238) (tgt := 275) dL_acts_238 (by decide) ?_
                exact kv_zret (pc := 275) dL_acts_275 rfl rfl (by cases h; rfl) (by decide) (by decide)
          · refine kv_iconst (pc := 197) (v := 1) dL_acts_197 (by decide) ?_
            exact kv_zret (pc := 198) dL_acts_198 rfl rfl (by cases h; rfl) (by decide) (by decide)
        · rw [if_neg e48] at h
          by_cases e67 : r4.1 = 4
          · rw [if_pos e67] at h
            refine kv_tableIn (pc := 12) (off := 264) (tgt := 276) dL_acts_12 (by rw [e67]; decide) (by rw [e67]; decide) (by rw [e67]; rfl) (by decide) ?_
            refine kv_aload_n (pc := 276) 1 dL_acts_276 rfl rfl ?_
            refine kv_bipush (pc := 277) (v := 10) dL_acts_277 (by decide) ?_
            refine kv_cVn (pc := 279) [.int 10] (fun r68 => (r68.1, .int r68.2.1, r68.2.2)) (fun r68 => (.int r68.2.1 :: [])) (fun r68 => r68.2.2) 282 0 0 h (fun r68 g69 hnt => tX6_count sh hk l hst 10 r4.2 r68 g69 hnt) dL_acts_279 rfl (ks_0 hk) rfl yw_X6_count lk_L_27 (by decide) (Nat.le_of_ble_eq_true rfl) (by decide) (fun _ => rfl) (fun _ => rfl) ⟨rfl, rfl, rfl⟩ (fun r h => Decidable.byContradiction (fun h9 => by rw [if_neg h9] at h; cases h)) (fun r68 g69 z70 h => ?_)
            rw [if_pos z70] at h
            refine kv_iconst (pc := 282) (v := 2) dL_acts_282 (by decide) ?_
            refine kv_irem (pc := 283) dL_acts_283 (by decide) ?_
            refine kv_if_ne (pc := 284) (tgt := 291) dL_acts_284 (by decide) h (fun h => ?_) (fun h => ?_)
            · refine kv_iconst (pc := 291) (v := 0) dL_acts_291 (by decide) ?_
              refine kv_sub (pc := 292) [(0, .ref 0), (1, .ref 133)] [1, 2] rfl ?_
              exact wL_acts_L292 sh hk l hst 0 r68.2.2 r h
            · refine kv_iconst (pc := 287) (v := 1) dL_acts_287 (by decide) ?_
              refine kv_goto (pc := 288) (tgt := 292) dL_acts_288 (by decide) ?_
              refine kv_sub (pc := 292) [(0, .ref 0), (1, .ref 133)] [1, 2] rfl ?_
              exact wL_acts_L292 sh hk l hst 1 r68.2.2 r h
          · rw [if_neg e67] at h
            by_cases e89 : r4.1 = 5
            · rw [if_pos e89] at h
              refine kv_tableIn (pc := 12) (off := 352) (tgt := 364) dL_acts_12 (by rw [e89]; decide) (by rw [e89]; decide) (by rw [e89]; rfl) (by decide) ?_
              refine kv_aload_n (pc := 364) 1 dL_acts_364 rfl rfl ?_
              refine kv_iconst (pc := 365) (v := 3) dL_acts_365 (by decide) ?_
              refine kv_cVn (pc := 366) [.int 3] (fun r90 => (r90.1, .int r90.2.1, r90.2.2)) (fun r90 => (.int r90.2.1 :: [])) (fun r90 => r90.2.2) 369 0 0 h (fun r90 g91 hnt => tX6_count sh hk l hst 3 r4.2 r90 g91 hnt) dL_acts_366 rfl (ks_0 hk) rfl yw_X6_count lk_L_27 (by decide) (Nat.le_of_ble_eq_true rfl) (by decide) (fun _ => rfl) (fun _ => rfl) ⟨rfl, rfl, rfl⟩ (fun r h => Decidable.byContradiction (fun h9 => by rw [if_neg h9] at h; cases h)) (fun r90 g91 z92 h => ?_)
              rw [if_pos z92] at h
              refine kv_istore (pc := 369) [(11, .int r90.2.1), (2, .int r1.2.1), (0, .ref 0), (1, .ref 133)] dL_acts_369 (by decide) rfl ?_
              refine kv_aload_n (pc := 371) 2 dL_acts_371 rfl rfl ?_
              refine kv_iconst (pc := 372) (v := 1) dL_acts_372 (by decide) ?_
              refine kv_aload_n (pc := 373) 3 dL_acts_373 rfl rfl ?_
              refine kv_bipush (pc := 374) (v := 100) dL_acts_374 (by decide) ?_
              refine kv_cV (pc := 376) [.int 100] (fun r93 => (0, .int r93.1, r93.2)) (fun r93 => (.int r93.1 :: [.int 1, .ref 0])) (fun r93 => r93.2) 379 0 0 h (fun r93 g94 => tX7_next sh hk l hst 100 r90.2.2 r93 g94) dL_acts_376 rfl (ks_133 hk) rfl yw_X7_next lk_L_116 (by decide) (Nat.le_of_ble_eq_true rfl) (by decide) (fun _ => rfl) (fun _ => rfl) ⟨rfl, rfl, rfl⟩ (fun _ _ h0 => absurd rfl h0) (fun r93 g94 z95 h => ?_)
              refine kv_iadd (pc := 379) dL_acts_379 ?_
              refine kv_cVn (pc := 380) [.int (1 + r93.1)] (fun r96 => (r96.1, .int r96.2.1, r96.2.2)) (fun r96 => (.int r96.2.1 :: [])) (fun r96 => r96.2.2) 383 0 0 h (fun r96 g97 hnt => tX6_setKeep sh hk l hst (1 + r93.1) r93.2 r96 g97 hnt) dL_acts_380 rfl (ks_0 hk) rfl yw_X6_setKeep lk_L_140 (by decide) (Nat.le_of_ble_eq_true rfl) (by decide) (fun _ => rfl) (fun _ => rfl) ⟨rfl, rfl, rfl⟩ (fun r h => Decidable.byContradiction (fun h9 => by rw [if_neg h9] at h; cases h)) (fun r96 g97 z98 h => ?_)
              rw [if_pos z98] at h
              refine kv_iload (pc := 383) 0 dL_acts_383 rfl ?_
              refine kv_icmp_ne (pc := 385) (tgt := 399) dL_acts_385 (by decide) h (fun h => ?_) (fun h => ?_)
              · refine kv_iconst (pc := 399) (v := 0) dL_acts_399 (by decide) ?_
                exact kv_zret (pc := 400) dL_acts_400 rfl rfl (by cases h; rfl) (by decide) (by decide)
              · refine kv_aload_n (pc := 388) 2 dL_acts_388 rfl rfl ?_
                refine kv_cS (pc := 389) [.ref 0] (fun r99 => (0, .int (kb r99.1), r99.2)) (fun r99 => (.int (kb r99.1) :: [])) (fun r99 => r99.2) 392 0 0 h (fun r99 g100 => tL_hasMaps sh hk l hst  r96.2.2 r99 g100) dL_acts_389 rfl yw_L_hasMaps lk_L_143 (by decide) (Nat.le_of_ble_eq_true rfl) (by decide) (fun _ => rfl) (fun _ => rfl) ⟨rfl, rfl, rfl⟩ (fun _ _ h0 => absurd rfl h0) (fun r99 g100 z101 h => ?_)
                refine kv_ifb_eq (pc := 392) (tgt := 399) dL_acts_392 (by decide) h (fun h => ?_) (fun h => ?_)
                · refine kv_iconst (pc := 399) (v := 0) dL_acts_399 (by decide) ?_
                  exact kv_zret (pc := 400) dL_acts_400 rfl rfl (by cases h; rfl) (by decide) (by decide)
                · refine kv_iconst (pc := 395) (v := 1) dL_acts_395 (by decide) ?_
                  refine kv_goto (pc := 396) (tgt := 400) dL_acts_396 (by decide) ?_
                  exact kv_zret (pc := 400) dL_acts_400 rfl rfl (by cases h; rfl) (by decide) (by decide)
            · rw [if_neg e89] at h
              have ne7 : ¬ r4.1.toInt = 0 := lv_neT e7 (by decide)
              have ne11 : ¬ r4.1.toInt = 1 := lv_neT e11 (by decide)
              have ne32 : ¬ r4.1.toInt = 2 := lv_neT e32 (by decide)
              have ne48 : ¬ r4.1.toInt = 3 := lv_neT e48 (by decide)
              have ne67 : ¬ r4.1.toInt = 4 := lv_neT e67 (by decide)
              have ne89 : ¬ r4.1.toInt = 5 := lv_neT e89 (by decide)
              refine kv_tableOut (pc := 12) (tgt := 401) dL_acts_12 (by omega) (by decide) ?_
              refine kv_aload_n (pc := 401) 1 dL_acts_401 rfl rfl ?_
              refine kv_aload_n (pc := 402) 2 dL_acts_402 rfl rfl ?_
              refine kv_cS (pc := 403) [.ref 0, .ref 133] (fun r102 => (0, .int (kb r102.1), r102.2)) (fun r102 => (.int (kb r102.1) :: [])) (fun r102 => r102.2) 406 0 0 h (fun r102 g103 => tL_adds sh hk l hst  r4.2 r102 g103) dL_acts_403 rfl yw_L_adds lk_L_146 (by decide) (Nat.le_of_ble_eq_true rfl) (by decide) (fun _ => rfl) (fun _ => rfl) ⟨rfl, rfl, rfl⟩ (fun _ _ h0 => absurd rfl h0) (fun r102 g103 z104 h => ?_)
              exact kv_zret (pc := 406) dL_acts_406 rfl (kb_n _) (by cases h; rfl) (by decide) (by decide)
