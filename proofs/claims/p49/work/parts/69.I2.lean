/-! the constructors -/
theorem io_1 : Cond.instanceMethod Lib.objectInit ∈ kg := kg_in 78 (by decide +kernel) (by decide +kernel)
theorem io_2 : Cond.code Lib.objectInit ⟨#[0xb1]⟩ 1 none ∈ kg := kg_in 79 (by decide +kernel) (by decide +kernel)
theorem io_z : Cond.arrayClass .boolean ∈ kg := kg_in 236 (by decide +kernel) (by decide +kernel)
theorem lI_X0_3 : Cond.methodLink RX0 3 Lib.objectInit ∈ kg := kg_in 267 (by decide +kernel) (by decide +kernel)
theorem fI_X0_9 : Cond.fieldLink RX0 9 (TX0 0).1 (TX0 0).2.1 (TX0 0).2.2.1 ∈ kg := kg_in 268 (by decide +kernel) (by decide +kernel)
theorem dX0_init_0 : decode cX0_init 0 = .ok (.aload_n 0, 1) := by decide +kernel
theorem dX0_init_1 : decode cX0_init 1 = .ok (.invokespecial 3, 3) := by decide +kernel
theorem dX0_init_4 : decode cX0_init 4 = .ok (.aload_n 0, 1) := by decide +kernel
theorem dX0_init_5 : decode cX0_init 5 = .ok (.bipush 30, 2) := by decide +kernel
theorem dX0_init_7 : decode cX0_init 7 = .ok (.newarray .int, 2) := by decide +kernel
theorem dX0_init_9 : decode cX0_init 9 = .ok (.putfield 9, 3) := by decide +kernel
theorem dX0_init_12 : decode cX0_init 12 = .ok (.return_, 1) := by decide +kernel
def iE_X0 (E0 : KE)  (h0 a1 : Nat) : KE := (E0.1, pick [(0, 1, fun _ => h0), (1, 1, fun _ => a1)] E0.2.1, E0.2.2)
def iS_X0  : Sto := pick [(0, 1, fun _ => fun i => 0), (1, 1, fun _ => fun _ => 0)] (fun _ _ => 0)
theorem pw_X0 : List.Pairwise (fun (x y : Nat × Nat) => x.1 + x.2 ≤ y.1 ∨ y.1 + y.2 ≤ x.1) [(0, 1), (1, 1)] := by decide +kernel
theorem mx_X0 : ∀ x ∈ ([(0, 1), (1, 1)] : List (Nat × Nat)), x.1 + x.2 ≤ 1000 := by decide +kernel
theorem iQ_X0 (E0 : KE)  (h0 a1 : Nat) : EQ E0 (iE_X0 E0  h0 a1) := ⟨rfl, rfl, fun k hk => pick_no _ (fun x hx => Nat.le_trans (mx_X0 x hx) hk)⟩
set_option maxRecDepth 100000 in
theorem iP_X0 (E0 : KE)   (h0 a1 : Nat)  : (([(h0, .inr (0, [.ref a1, .int 0])), (a1, .inl (E0.2.2 0, 30, .inl (fun _ => 0)))] : va_W)).Perm (kwl (iE_X0 E0  h0 a1) shX0 (iS_X0 )) := by
  have e0 : ([(h0, .inr (0, [.ref a1, .int 0])), (a1, .inl (E0.2.2 0, 30, .inl (fun _ => 0)))] : va_W) = [0, 1].map (ent (iE_X0 E0  h0 a1) shX0 (iS_X0 )) := rfl
  rw [e0]
  unfold kwl
  exact List.Perm.map _ (by decide +kernel)
abbrev mI_X0 : KM := (RX0, cX0_init, 1, none, { frames := 1, cells := 1, slots := 30, locals := 12 }, 1, 30)
theorem kI_X0 : KMI yX0_init mI_X0 := ⟨rfl, ⟨by decide +kernel, by decide +kernel, by decide +kernel⟩, ⟨rfl, rfl⟩, kg_in 265 (by decide +kernel) (by decide +kernel), kg_in 54 (by decide +kernel) (by decide +kernel), kg_in 266 (by decide +kernel) (by decide +kernel)⟩
set_option maxHeartbeats 4000000 in
set_option maxRecDepth 100000 in
theorem iC_X0 (l : Launch) (hst : l.stackTraces = false) (sh0 : KSh) (hz0 : ∀ q, 1000 ≤ q → ∃ n, sh0 q = .inr (2, n)) : IC l sh0 yX0_init mI_X0 0 (ifs tyX0 2) shX0 0 (fun _ => True) := by
  refine ic_of hst (by decide +kernel) rfl rfl (by decide) ?_
  intro E0 h0 A p e s m below meth c Q C hin hret
  refine ii_re (ws' := ([(h0, .inr (0, [.null, .int 0]))] : va_W)) rfl ?_
  refine ii_aload_n (pc := 0) C 0 dX0_init_0 rfl rfl ?_
  refine ii_objInit (pc := 1) C dX0_init_1 lI_X0_3 io_1 io_2 (by decide) (by decide) ?_
  refine ii_aload_n (pc := 4) C 0 dX0_init_4 rfl rfl ?_
  refine ii_bipush (pc := 5) (v := 30) C dX0_init_5 (by decide) ?_
  refine ii_newI (pc := 7) (N := 30) C dX0_init_7 io_i (by decide) (by decide) (Nat.le_of_ble_eq_true rfl) (show _ ∧ _ from ⟨Nat.le_of_ble_eq_true rfl, Nat.le_of_ble_eq_true rfl⟩) (fun a1 => ?_)
  refine ii_re (ws' := ([(h0, .inr (0, [.null, .int 0])), (a1, .inl (E0.2.2 0, 30, .inl (fun _ => 0)))] : va_W)) rfl ?_
  refine ii_putF (pc := 9) (i := 0) 0 tyX0 tyX0_ok nmX0 C hin dX0_init_9 rfl rfl (by decide) rfl fI_X0_9 rfl rfl rfl rfl rfl ?_
  refine ii_re (ws' := ([(h0, .inr (0, [.ref a1, .int 0])), (a1, .inl (E0.2.2 0, 30, .inl (fun _ => 0)))] : va_W)) rfl ?_
  refine ii_perm (iP_X0 E0   h0 a1 ) ?_
  exact hret (iE_X0 E0  h0 a1) (iS_X0 ) 12 _ (iQ_X0 E0 h0 a1) rfl trivial dX0_init_12
theorem lI_X2_3 : Cond.methodLink RX2 3 Lib.objectInit ∈ kg := kg_in 280 (by decide +kernel) (by decide +kernel)
theorem fI_X2_9 : Cond.fieldLink RX2 9 (TX2 0).1 (TX2 0).2.1 (TX2 0).2.2.1 ∈ kg := kg_in 281 (by decide +kernel) (by decide +kernel)
theorem dX2_init_0 : decode cX2_init 0 = .ok (.aload_n 0, 1) := by decide +kernel
theorem dX2_init_1 : decode cX2_init 1 = .ok (.invokespecial 3, 3) := by decide +kernel
theorem dX2_init_4 : decode cX2_init 4 = .ok (.aload_n 0, 1) := by decide +kernel
theorem dX2_init_5 : decode cX2_init 5 = .ok (.sipush 225, 3) := by decide +kernel
theorem dX2_init_8 : decode cX2_init 8 = .ok (.newarray .int, 2) := by decide +kernel
theorem dX2_init_10 : decode cX2_init 10 = .ok (.putfield 9, 3) := by decide +kernel
theorem dX2_init_13 : decode cX2_init 13 = .ok (.return_, 1) := by decide +kernel
def iE_X2 (E0 : KE)  (h0 a1 : Nat) : KE := (E0.1, pick [(0, 1, fun _ => h0), (1, 1, fun _ => a1)] E0.2.1, E0.2.2)
def iS_X2  : Sto := pick [(0, 1, fun _ => fun i => 0), (1, 1, fun _ => fun _ => 0)] (fun _ _ => 0)
theorem pw_X2 : List.Pairwise (fun (x y : Nat × Nat) => x.1 + x.2 ≤ y.1 ∨ y.1 + y.2 ≤ x.1) [(0, 1), (1, 1)] := by decide +kernel
theorem mx_X2 : ∀ x ∈ ([(0, 1), (1, 1)] : List (Nat × Nat)), x.1 + x.2 ≤ 1000 := by decide +kernel
theorem iQ_X2 (E0 : KE)  (h0 a1 : Nat) : EQ E0 (iE_X2 E0  h0 a1) := ⟨rfl, rfl, fun k hk => pick_no _ (fun x hx => Nat.le_trans (mx_X2 x hx) hk)⟩
set_option maxRecDepth 100000 in
theorem iP_X2 (E0 : KE)   (h0 a1 : Nat)  : (([(h0, .inr (2, [.ref a1, .int 0])), (a1, .inl (E0.2.2 0, 225, .inl (fun _ => 0)))] : va_W)).Perm (kwl (iE_X2 E0  h0 a1) shX2 (iS_X2 )) := by
  have e0 : ([(h0, .inr (2, [.ref a1, .int 0])), (a1, .inl (E0.2.2 0, 225, .inl (fun _ => 0)))] : va_W) = [0, 1].map (ent (iE_X2 E0  h0 a1) shX2 (iS_X2 )) := rfl
  rw [e0]
  unfold kwl
  exact List.Perm.map _ (by decide +kernel)
abbrev mI_X2 : KM := (RX2, cX2_init, 1, none, { frames := 1, cells := 1, slots := 225, locals := 12 }, 1, 225)
theorem kI_X2 : KMI yX2_init mI_X2 := ⟨rfl, ⟨by decide +kernel, by decide +kernel, by decide +kernel⟩, ⟨rfl, rfl⟩, kg_in 278 (by decide +kernel) (by decide +kernel), kg_in 55 (by decide +kernel) (by decide +kernel), kg_in 279 (by decide +kernel) (by decide +kernel)⟩
set_option maxHeartbeats 4000000 in
set_option maxRecDepth 100000 in
theorem iC_X2 (l : Launch) (hst : l.stackTraces = false) (sh0 : KSh) (hz0 : ∀ q, 1000 ≤ q → ∃ n, sh0 q = .inr (2, n)) : IC l sh0 yX2_init mI_X2 2 (ifs tyX2 2) shX2 0 (fun σ => σ 0 1 = 0) := by
  refine ic_of hst (by decide +kernel) rfl rfl (by decide) ?_
  intro E0 h0 A p e s m below meth c Q C hin hret
  refine ii_re (ws' := ([(h0, .inr (2, [.null, .int 0]))] : va_W)) rfl ?_
  refine ii_aload_n (pc := 0) C 0 dX2_init_0 rfl rfl ?_
  refine ii_objInit (pc := 1) C dX2_init_1 lI_X2_3 io_1 io_2 (by decide) (by decide) ?_
  refine ii_aload_n (pc := 4) C 0 dX2_init_4 rfl rfl ?_
  refine ii_sipush (pc := 5) (v := 225) C dX2_init_5 (by decide) ?_
  refine ii_newI (pc := 8) (N := 225) C dX2_init_8 io_i (by decide) (by decide) (Nat.le_of_ble_eq_true rfl) (show _ ∧ _ from ⟨Nat.le_of_ble_eq_true rfl, Nat.le_of_ble_eq_true rfl⟩) (fun a1 => ?_)
  refine ii_re (ws' := ([(h0, .inr (2, [.null, .int 0])), (a1, .inl (E0.2.2 0, 225, .inl (fun _ => 0)))] : va_W)) rfl ?_
  refine ii_putF (pc := 10) (i := 0) 0 tyX2 tyX2_ok nmX2 C hin dX2_init_10 rfl rfl (by decide) rfl fI_X2_9 rfl rfl rfl rfl rfl ?_
  refine ii_re (ws' := ([(h0, .inr (2, [.ref a1, .int 0])), (a1, .inl (E0.2.2 0, 225, .inl (fun _ => 0)))] : va_W)) rfl ?_
  refine ii_perm (iP_X2 E0   h0 a1 ) ?_
  exact hret (iE_X2 E0  h0 a1) (iS_X2 ) 13 _ (iQ_X2 E0 h0 a1) rfl rfl dX2_init_13
theorem lI_X3_3 : Cond.methodLink RX3 3 Lib.objectInit ∈ kg := kg_in 242 (by decide +kernel) (by decide +kernel)
theorem fI_X3_9 : Cond.fieldLink RX3 9 (TX3 0).1 (TX3 0).2.1 (TX3 0).2.2.1 ∈ kg := kg_in 243 (by decide +kernel) (by decide +kernel)
theorem fI_X3_15 : Cond.fieldLink RX3 15 (TX3 1).1 (TX3 1).2.1 (TX3 1).2.2.1 ∈ kg := kg_in 244 (by decide +kernel) (by decide +kernel)
theorem fI_X3_18 : Cond.fieldLink RX3 18 (TX3 2).1 (TX3 2).2.1 (TX3 2).2.2.1 ∈ kg := kg_in 245 (by decide +kernel) (by decide +kernel)
theorem fI_X3_21 : Cond.fieldLink RX3 21 (TX3 3).1 (TX3 3).2.1 (TX3 3).2.2.1 ∈ kg := kg_in 246 (by decide +kernel) (by decide +kernel)
theorem fI_X3_24 : Cond.fieldLink RX3 24 (TX3 4).1 (TX3 4).2.1 (TX3 4).2.2.1 ∈ kg := kg_in 247 (by decide +kernel) (by decide +kernel)
theorem fI_X3_28 : Cond.fieldLink RX3 28 (TX3 5).1 (TX3 5).2.1 (TX3 5).2.2.1 ∈ kg := kg_in 248 (by decide +kernel) (by decide +kernel)
theorem dX3_init_0 : decode cX3_init 0 = .ok (.aload_n 0, 1) := by decide +kernel
theorem dX3_init_1 : decode cX3_init 1 = .ok (.invokespecial 3, 3) := by decide +kernel
theorem dX3_init_4 : decode cX3_init 4 = .ok (.aload_n 0, 1) := by decide +kernel
theorem dX3_init_5 : decode cX3_init 5 = .ok (.sipush 225, 3) := by decide +kernel
theorem dX3_init_8 : decode cX3_init 8 = .ok (.newarray .int, 2) := by decide +kernel
theorem dX3_init_10 : decode cX3_init 10 = .ok (.putfield 9, 3) := by decide +kernel
theorem dX3_init_13 : decode cX3_init 13 = .ok (.aload_n 0, 1) := by decide +kernel
theorem dX3_init_14 : decode cX3_init 14 = .ok (.sipush 225, 3) := by decide +kernel
theorem dX3_init_17 : decode cX3_init 17 = .ok (.newarray .int, 2) := by decide +kernel
theorem dX3_init_19 : decode cX3_init 19 = .ok (.putfield 15, 3) := by decide +kernel
theorem dX3_init_22 : decode cX3_init 22 = .ok (.aload_n 0, 1) := by decide +kernel
theorem dX3_init_23 : decode cX3_init 23 = .ok (.sipush 225, 3) := by decide +kernel
theorem dX3_init_26 : decode cX3_init 26 = .ok (.newarray .int, 2) := by decide +kernel
theorem dX3_init_28 : decode cX3_init 28 = .ok (.putfield 18, 3) := by decide +kernel
theorem dX3_init_31 : decode cX3_init 31 = .ok (.aload_n 0, 1) := by decide +kernel
theorem dX3_init_32 : decode cX3_init 32 = .ok (.bipush 10, 2) := by decide +kernel
theorem dX3_init_34 : decode cX3_init 34 = .ok (.newarray .int, 2) := by decide +kernel
theorem dX3_init_36 : decode cX3_init 36 = .ok (.putfield 21, 3) := by decide +kernel
theorem dX3_init_39 : decode cX3_init 39 = .ok (.aload_n 0, 1) := by decide +kernel
theorem dX3_init_40 : decode cX3_init 40 = .ok (.sipush 225, 3) := by decide +kernel
theorem dX3_init_43 : decode cX3_init 43 = .ok (.newarray .boolean, 2) := by decide +kernel
theorem dX3_init_45 : decode cX3_init 45 = .ok (.putfield 24, 3) := by decide +kernel
theorem dX3_init_48 : decode cX3_init 48 = .ok (.aload_n 0, 1) := by decide +kernel
theorem dX3_init_49 : decode cX3_init 49 = .ok (.sipush 225, 3) := by decide +kernel
theorem dX3_init_52 : decode cX3_init 52 = .ok (.newarray .int, 2) := by decide +kernel
theorem dX3_init_54 : decode cX3_init 54 = .ok (.putfield 28, 3) := by decide +kernel
theorem dX3_init_57 : decode cX3_init 57 = .ok (.return_, 1) := by decide +kernel
def iE_X3 (E0 : KE)  (h0 a1 a2 a3 a4 a5 a6 : Nat) : KE := (E0.1, pick [(0, 1, fun _ => h0), (1, 1, fun _ => a1), (2, 1, fun _ => a2), (3, 1, fun _ => a3), (4, 1, fun _ => a4), (5, 1, fun _ => a5), (6, 1, fun _ => a6)] E0.2.1, E0.2.2)
def iS_X3  : Sto := pick [(0, 1, fun _ => fun i => 0), (1, 1, fun _ => fun _ => 0), (2, 1, fun _ => fun _ => 0), (3, 1, fun _ => fun _ => 0), (4, 1, fun _ => fun _ => 0), (5, 1, fun _ => fun _ => 0), (6, 1, fun _ => fun _ => 0)] (fun _ _ => 0)
theorem pw_X3 : List.Pairwise (fun (x y : Nat × Nat) => x.1 + x.2 ≤ y.1 ∨ y.1 + y.2 ≤ x.1) [(0, 1), (1, 1), (2, 1), (3, 1), (4, 1), (5, 1), (6, 1)] := by decide +kernel
theorem mx_X3 : ∀ x ∈ ([(0, 1), (1, 1), (2, 1), (3, 1), (4, 1), (5, 1), (6, 1)] : List (Nat × Nat)), x.1 + x.2 ≤ 1000 := by decide +kernel
theorem iQ_X3 (E0 : KE)  (h0 a1 a2 a3 a4 a5 a6 : Nat) : EQ E0 (iE_X3 E0  h0 a1 a2 a3 a4 a5 a6) := ⟨rfl, rfl, fun k hk => pick_no _ (fun x hx => Nat.le_trans (mx_X3 x hx) hk)⟩
set_option maxRecDepth 100000 in
theorem iP_X3 (E0 : KE)   (h0 a1 a2 a3 a4 a5 a6 : Nat)  : (([(h0, .inr (3, [.ref a1, .ref a2, .ref a3, .ref a4, .ref a5, .ref a6])), (a1, .inl (E0.2.2 0, 225, .inl (fun _ => 0))), (a2, .inl (E0.2.2 0, 225, .inl (fun _ => 0))), (a3, .inl (E0.2.2 0, 225, .inl (fun _ => 0))), (a4, .inl (E0.2.2 0, 10, .inl (fun _ => 0))), (a5, .inl (E0.2.2 1, 225, .inl (fun _ => 0))), (a6, .inl (E0.2.2 0, 225, .inl (fun _ => 0)))] : va_W)).Perm (kwl (iE_X3 E0  h0 a1 a2 a3 a4 a5 a6) shX3 (iS_X3 )) := by
  have e0 : ([(h0, .inr (3, [.ref a1, .ref a2, .ref a3, .ref a4, .ref a5, .ref a6])), (a1, .inl (E0.2.2 0, 225, .inl (fun _ => 0))), (a2, .inl (E0.2.2 0, 225, .inl (fun _ => 0))), (a3, .inl (E0.2.2 0, 225, .inl (fun _ => 0))), (a4, .inl (E0.2.2 0, 10, .inl (fun _ => 0))), (a5, .inl (E0.2.2 1, 225, .inl (fun _ => 0))), (a6, .inl (E0.2.2 0, 225, .inl (fun _ => 0)))] : va_W) = [0, 1, 2, 3, 4, 5, 6].map (ent (iE_X3 E0  h0 a1 a2 a3 a4 a5 a6) shX3 (iS_X3 )) := rfl
  rw [e0]
  unfold kwl
  exact List.Perm.map _ (by decide +kernel)
abbrev mI_X3 : KM := (RX3, cX3_init, 1, none, { frames := 1, cells := 6, slots := 1135, locals := 12 }, 6, 1135)
theorem kI_X3 : KMI yX3_init mI_X3 := ⟨rfl, ⟨by decide +kernel, by decide +kernel, by decide +kernel⟩, ⟨rfl, rfl⟩, kg_in 240 (by decide +kernel) (by decide +kernel), kg_in 53 (by decide +kernel) (by decide +kernel), kg_in 241 (by decide +kernel) (by decide +kernel)⟩
set_option maxHeartbeats 4000000 in
set_option maxRecDepth 100000 in
theorem iC_X3 (l : Launch) (hst : l.stackTraces = false) (sh0 : KSh) (hz0 : ∀ q, 1000 ≤ q → ∃ n, sh0 q = .inr (2, n)) : IC l sh0 yX3_init mI_X3 3 (ifs tyX3 6) shX3 0 (fun _ => True) := by
  refine ic_of hst (by decide +kernel) rfl rfl (by decide) ?_
  intro E0 h0 A p e s m below meth c Q C hin hret
  refine ii_re (ws' := ([(h0, .inr (3, [.null, .null, .null, .null, .null, .null]))] : va_W)) rfl ?_
  refine ii_aload_n (pc := 0) C 0 dX3_init_0 rfl rfl ?_
  refine ii_objInit (pc := 1) C dX3_init_1 lI_X3_3 io_1 io_2 (by decide) (by decide) ?_
  refine ii_aload_n (pc := 4) C 0 dX3_init_4 rfl rfl ?_
  refine ii_sipush (pc := 5) (v := 225) C dX3_init_5 (by decide) ?_
  refine ii_newI (pc := 8) (N := 225) C dX3_init_8 io_i (by decide) (by decide) (Nat.le_of_ble_eq_true rfl) (show _ ∧ _ from ⟨Nat.le_of_ble_eq_true rfl, Nat.le_of_ble_eq_true rfl⟩) (fun a1 => ?_)
  refine ii_re (ws' := ([(h0, .inr (3, [.null, .null, .null, .null, .null, .null])), (a1, .inl (E0.2.2 0, 225, .inl (fun _ => 0)))] : va_W)) rfl ?_
  refine ii_putF (pc := 10) (i := 0) 0 tyX3 tyX3_ok nmX3 C hin dX3_init_10 rfl rfl (by decide) rfl fI_X3_9 rfl rfl rfl rfl rfl ?_
  refine ii_re (ws' := ([(h0, .inr (3, [.ref a1, .null, .null, .null, .null, .null])), (a1, .inl (E0.2.2 0, 225, .inl (fun _ => 0)))] : va_W)) rfl ?_
  refine ii_aload_n (pc := 13) C 0 dX3_init_13 rfl rfl ?_
  refine ii_sipush (pc := 14) (v := 225) C dX3_init_14 (by decide) ?_
  refine ii_newI (pc := 17) (N := 225) C dX3_init_17 io_i (by decide) (by decide) (Nat.le_of_ble_eq_true rfl) (show _ ∧ _ from ⟨Nat.le_of_ble_eq_true rfl, Nat.le_of_ble_eq_true rfl⟩) (fun a2 => ?_)
  refine ii_re (ws' := ([(h0, .inr (3, [.ref a1, .null, .null, .null, .null, .null])), (a1, .inl (E0.2.2 0, 225, .inl (fun _ => 0))), (a2, .inl (E0.2.2 0, 225, .inl (fun _ => 0)))] : va_W)) rfl ?_
  refine ii_putF (pc := 19) (i := 1) 0 tyX3 tyX3_ok nmX3 C hin dX3_init_19 rfl rfl (by decide) rfl fI_X3_15 rfl rfl rfl rfl rfl ?_
  refine ii_re (ws' := ([(h0, .inr (3, [.ref a1, .ref a2, .null, .null, .null, .null])), (a1, .inl (E0.2.2 0, 225, .inl (fun _ => 0))), (a2, .inl (E0.2.2 0, 225, .inl (fun _ => 0)))] : va_W)) rfl ?_
  refine ii_aload_n (pc := 22) C 0 dX3_init_22 rfl rfl ?_
  refine ii_sipush (pc := 23) (v := 225) C dX3_init_23 (by decide) ?_
  refine ii_newI (pc := 26) (N := 225) C dX3_init_26 io_i (by decide) (by decide) (Nat.le_of_ble_eq_true rfl) (show _ ∧ _ from ⟨Nat.le_of_ble_eq_true rfl, Nat.le_of_ble_eq_true rfl⟩) (fun a3 => ?_)
  refine ii_re (ws' := ([(h0, .inr (3, [.ref a1, .ref a2, .null, .null, .null, .null])), (a1, .inl (E0.2.2 0, 225, .inl (fun _ => 0))), (a2, .inl (E0.2.2 0, 225, .inl (fun _ => 0))), (a3, .inl (E0.2.2 0, 225, .inl (fun _ => 0)))] : va_W)) rfl ?_
  refine ii_putF (pc := 28) (i := 2) 0 tyX3 tyX3_ok nmX3 C hin dX3_init_28 rfl rfl (by decide) rfl fI_X3_18 rfl rfl rfl rfl rfl ?_
  refine ii_re (ws' := ([(h0, .inr (3, [.ref a1, .ref a2, .ref a3, .null, .null, .null])), (a1, .inl (E0.2.2 0, 225, .inl (fun _ => 0))), (a2, .inl (E0.2.2 0, 225, .inl (fun _ => 0))), (a3, .inl (E0.2.2 0, 225, .inl (fun _ => 0)))] : va_W)) rfl ?_
  refine ii_aload_n (pc := 31) C 0 dX3_init_31 rfl rfl ?_
  refine ii_bipush (pc := 32) (v := 10) C dX3_init_32 (by decide) ?_
  refine ii_newI (pc := 34) (N := 10) C dX3_init_34 io_i (by decide) (by decide) (Nat.le_of_ble_eq_true rfl) (show _ ∧ _ from ⟨Nat.le_of_ble_eq_true rfl, Nat.le_of_ble_eq_true rfl⟩) (fun a4 => ?_)
  refine ii_re (ws' := ([(h0, .inr (3, [.ref a1, .ref a2, .ref a3, .null, .null, .null])), (a1, .inl (E0.2.2 0, 225, .inl (fun _ => 0))), (a2, .inl (E0.2.2 0, 225, .inl (fun _ => 0))), (a3, .inl (E0.2.2 0, 225, .inl (fun _ => 0))), (a4, .inl (E0.2.2 0, 10, .inl (fun _ => 0)))] : va_W)) rfl ?_
  refine ii_putF (pc := 36) (i := 3) 0 tyX3 tyX3_ok nmX3 C hin dX3_init_36 rfl rfl (by decide) rfl fI_X3_21 rfl rfl rfl rfl rfl ?_
  refine ii_re (ws' := ([(h0, .inr (3, [.ref a1, .ref a2, .ref a3, .ref a4, .null, .null])), (a1, .inl (E0.2.2 0, 225, .inl (fun _ => 0))), (a2, .inl (E0.2.2 0, 225, .inl (fun _ => 0))), (a3, .inl (E0.2.2 0, 225, .inl (fun _ => 0))), (a4, .inl (E0.2.2 0, 10, .inl (fun _ => 0)))] : va_W)) rfl ?_
  refine ii_aload_n (pc := 39) C 0 dX3_init_39 rfl rfl ?_
  refine ii_sipush (pc := 40) (v := 225) C dX3_init_40 (by decide) ?_
  refine ii_newZ (pc := 43) (N := 225) C dX3_init_43 io_z (by decide) (by decide) (Nat.le_of_ble_eq_true rfl) (show _ ∧ _ from ⟨Nat.le_of_ble_eq_true rfl, Nat.le_of_ble_eq_true rfl⟩) (fun a5 => ?_)
  refine ii_re (ws' := ([(h0, .inr (3, [.ref a1, .ref a2, .ref a3, .ref a4, .null, .null])), (a1, .inl (E0.2.2 0, 225, .inl (fun _ => 0))), (a2, .inl (E0.2.2 0, 225, .inl (fun _ => 0))), (a3, .inl (E0.2.2 0, 225, .inl (fun _ => 0))), (a4, .inl (E0.2.2 0, 10, .inl (fun _ => 0))), (a5, .inl (E0.2.2 1, 225, .inl (fun _ => 0)))] : va_W)) rfl ?_
  refine ii_putF (pc := 45) (i := 4) 0 tyX3 tyX3_ok nmX3 C hin dX3_init_45 rfl rfl (by decide) rfl fI_X3_24 rfl rfl rfl rfl rfl ?_
  refine ii_re (ws' := ([(h0, .inr (3, [.ref a1, .ref a2, .ref a3, .ref a4, .ref a5, .null])), (a1, .inl (E0.2.2 0, 225, .inl (fun _ => 0))), (a2, .inl (E0.2.2 0, 225, .inl (fun _ => 0))), (a3, .inl (E0.2.2 0, 225, .inl (fun _ => 0))), (a4, .inl (E0.2.2 0, 10, .inl (fun _ => 0))), (a5, .inl (E0.2.2 1, 225, .inl (fun _ => 0)))] : va_W)) rfl ?_
  refine ii_aload_n (pc := 48) C 0 dX3_init_48 rfl rfl ?_
  refine ii_sipush (pc := 49) (v := 225) C dX3_init_49 (by decide) ?_
  refine ii_newI (pc := 52) (N := 225) C dX3_init_52 io_i (by decide) (by decide) (Nat.le_of_ble_eq_true rfl) (show _ ∧ _ from ⟨Nat.le_of_ble_eq_true rfl, Nat.le_of_ble_eq_true rfl⟩) (fun a6 => ?_)
  refine ii_re (ws' := ([(h0, .inr (3, [.ref a1, .ref a2, .ref a3, .ref a4, .ref a5, .null])), (a1, .inl (E0.2.2 0, 225, .inl (fun _ => 0))), (a2, .inl (E0.2.2 0, 225, .inl (fun _ => 0))), (a3, .inl (E0.2.2 0, 225, .inl (fun _ => 0))), (a4, .inl (E0.2.2 0, 10, .inl (fun _ => 0))), (a5, .inl (E0.2.2 1, 225, .inl (fun _ => 0))), (a6, .inl (E0.2.2 0, 225, .inl (fun _ => 0)))] : va_W)) rfl ?_
  refine ii_putF (pc := 54) (i := 5) 0 tyX3 tyX3_ok nmX3 C hin dX3_init_54 rfl rfl (by decide) rfl fI_X3_28 rfl rfl rfl rfl rfl ?_
  refine ii_re (ws' := ([(h0, .inr (3, [.ref a1, .ref a2, .ref a3, .ref a4, .ref a5, .ref a6])), (a1, .inl (E0.2.2 0, 225, .inl (fun _ => 0))), (a2, .inl (E0.2.2 0, 225, .inl (fun _ => 0))), (a3, .inl (E0.2.2 0, 225, .inl (fun _ => 0))), (a4, .inl (E0.2.2 0, 10, .inl (fun _ => 0))), (a5, .inl (E0.2.2 1, 225, .inl (fun _ => 0))), (a6, .inl (E0.2.2 0, 225, .inl (fun _ => 0)))] : va_W)) rfl ?_
  refine ii_perm (iP_X3 E0   h0 a1 a2 a3 a4 a5 a6 ) ?_
  exact hret (iE_X3 E0  h0 a1 a2 a3 a4 a5 a6) (iS_X3 ) 57 _ (iQ_X3 E0 h0 a1 a2 a3 a4 a5 a6) rfl trivial dX3_init_57
theorem lI_X4_3 : Cond.methodLink RX4 3 Lib.objectInit ∈ kg := kg_in 209 (by decide +kernel) (by decide +kernel)
theorem fI_X4_11 : Cond.fieldLink RX4 11 (TX4 0).1 (TX4 0).2.1 (TX4 0).2.2.1 ∈ kg := kg_in 210 (by decide +kernel) (by decide +kernel)
theorem fI_X4_15 : Cond.fieldLink RX4 15 (TX4 3).1 (TX4 3).2.1 (TX4 3).2.2.1 ∈ kg := kg_in 214 (by decide +kernel) (by decide +kernel)
theorem dX4_init_0 : decode cX4_init 0 = .ok (.aload_n 0, 1) := by decide +kernel
theorem dX4_init_1 : decode cX4_init 1 = .ok (.invokespecial 3, 3) := by decide +kernel
theorem dX4_init_4 : decode cX4_init 4 = .ok (.aload_n 0, 1) := by decide +kernel
theorem dX4_init_5 : decode cX4_init 5 = .ok (.sipush 600, 3) := by decide +kernel
theorem dX4_init_8 : decode cX4_init 8 = .ok (.newarray .int, 2) := by decide +kernel
theorem dX4_init_10 : decode cX4_init 10 = .ok (.putfield 11, 3) := by decide +kernel
theorem dX4_init_13 : decode cX4_init 13 = .ok (.aload_n 0, 1) := by decide +kernel
theorem dX4_init_14 : decode cX4_init 14 = .ok (.iconst (-1), 1) := by decide +kernel
theorem dX4_init_15 : decode cX4_init 15 = .ok (.putfield 15, 3) := by decide +kernel
theorem dX4_init_18 : decode cX4_init 18 = .ok (.return_, 1) := by decide +kernel
def iE_X4 (E0 : KE)  (h0 a1 : Nat) : KE := (E0.1, pick [(0, 1, fun _ => h0), (1, 1, fun _ => a1)] E0.2.1, E0.2.2)
def iS_X4  : Sto := pick [(0, 1, fun _ => fun i => if i = 3 then (-1) else 0), (1, 1, fun _ => fun _ => 0)] (fun _ _ => 0)
theorem pw_X4 : List.Pairwise (fun (x y : Nat × Nat) => x.1 + x.2 ≤ y.1 ∨ y.1 + y.2 ≤ x.1) [(0, 1), (1, 1)] := by decide +kernel
theorem mx_X4 : ∀ x ∈ ([(0, 1), (1, 1)] : List (Nat × Nat)), x.1 + x.2 ≤ 1000 := by decide +kernel
theorem iQ_X4 (E0 : KE)  (h0 a1 : Nat) : EQ E0 (iE_X4 E0  h0 a1) := ⟨rfl, rfl, fun k hk => pick_no _ (fun x hx => Nat.le_trans (mx_X4 x hx) hk)⟩
set_option maxRecDepth 100000 in
theorem iP_X4 (E0 : KE)   (h0 a1 : Nat)  : (([(h0, .inr (4, [.ref a1, .int 0, .int 0, .int (-1), .int 0, .int 0, .int 0, .int 0])), (a1, .inl (E0.2.2 0, 600, .inl (fun _ => 0)))] : va_W)).Perm (kwl (iE_X4 E0  h0 a1) shX4 (iS_X4 )) := by
  have e0 : ([(h0, .inr (4, [.ref a1, .int 0, .int 0, .int (-1), .int 0, .int 0, .int 0, .int 0])), (a1, .inl (E0.2.2 0, 600, .inl (fun _ => 0)))] : va_W) = [0, 1].map (ent (iE_X4 E0  h0 a1) shX4 (iS_X4 )) := rfl
  rw [e0]
  unfold kwl
  exact List.Perm.map _ (by decide +kernel)
abbrev mI_X4 : KM := (RX4, cX4_init, 1, none, { frames := 1, cells := 1, slots := 600, locals := 12 }, 1, 600)
theorem kI_X4 : KMI yX4_init mI_X4 := ⟨rfl, ⟨by decide +kernel, by decide +kernel, by decide +kernel⟩, ⟨rfl, rfl⟩, kg_in 207 (by decide +kernel) (by decide +kernel), kg_in 52 (by decide +kernel) (by decide +kernel), kg_in 208 (by decide +kernel) (by decide +kernel)⟩
set_option maxHeartbeats 4000000 in
set_option maxRecDepth 100000 in
theorem iC_X4 (l : Launch) (hst : l.stackTraces = false) (sh0 : KSh) (hz0 : ∀ q, 1000 ≤ q → ∃ n, sh0 q = .inr (2, n)) : IC l sh0 yX4_init mI_X4 4 (ifs tyX4 8) shX4 0 (fun σ => σ 0 1 = 0 ∧ σ 0 2 = 0 ∧ σ 0 3 = -1) := by
  refine ic_of hst (by decide +kernel) rfl rfl (by decide) ?_
  intro E0 h0 A p e s m below meth c Q C hin hret
  refine ii_re (ws' := ([(h0, .inr (4, [.null, .int 0, .int 0, .int 0, .int 0, .int 0, .int 0, .int 0]))] : va_W)) rfl ?_
  refine ii_aload_n (pc := 0) C 0 dX4_init_0 rfl rfl ?_
  refine ii_objInit (pc := 1) C dX4_init_1 lI_X4_3 io_1 io_2 (by decide) (by decide) ?_
  refine ii_aload_n (pc := 4) C 0 dX4_init_4 rfl rfl ?_
  refine ii_sipush (pc := 5) (v := 600) C dX4_init_5 (by decide) ?_
  refine ii_newI (pc := 8) (N := 600) C dX4_init_8 io_i (by decide) (by decide) (Nat.le_of_ble_eq_true rfl) (show _ ∧ _ from ⟨Nat.le_of_ble_eq_true rfl, Nat.le_of_ble_eq_true rfl⟩) (fun a1 => ?_)
  refine ii_re (ws' := ([(h0, .inr (4, [.null, .int 0, .int 0, .int 0, .int 0, .int 0, .int 0, .int 0])), (a1, .inl (E0.2.2 0, 600, .inl (fun _ => 0)))] : va_W)) rfl ?_
  refine ii_putF (pc := 10) (i := 0) 0 tyX4 tyX4_ok nmX4 C hin dX4_init_10 rfl rfl (by decide) rfl fI_X4_11 rfl rfl rfl rfl rfl ?_
  refine ii_re (ws' := ([(h0, .inr (4, [.ref a1, .int 0, .int 0, .int 0, .int 0, .int 0, .int 0, .int 0])), (a1, .inl (E0.2.2 0, 600, .inl (fun _ => 0)))] : va_W)) rfl ?_
  refine ii_aload_n (pc := 13) C 0 dX4_init_13 rfl rfl ?_
  refine ii_iconst (pc := 14) (v := (-1)) C dX4_init_14 (by decide) ?_
  refine ii_put (pc := 15) (i := 3) 0 tyX4 tyX4_ok nmX4 C dX4_init_15 rfl rfl (by decide) rfl fI_X4_15 rfl rfl rfl rfl ?_
  refine ii_re (ws' := ([(h0, .inr (4, [.ref a1, .int 0, .int 0, .int (-1), .int 0, .int 0, .int 0, .int 0])), (a1, .inl (E0.2.2 0, 600, .inl (fun _ => 0)))] : va_W)) rfl ?_
  refine ii_perm (iP_X4 E0   h0 a1 ) ?_
  exact hret (iE_X4 E0  h0 a1) (iS_X4 ) 18 _ (iQ_X4 E0 h0 a1) rfl ⟨rfl, rfl, rfl⟩ dX4_init_18
theorem lI_X1_3 : Cond.methodLink RX1 3 Lib.objectInit ∈ kg := kg_in 91 (by decide +kernel) (by decide +kernel)
theorem fI_X1_9 : Cond.fieldLink RX1 9 (TX1 3).1 (TX1 3).2.1 (TX1 3).2.2.1 ∈ kg := kg_in 121 (by decide +kernel) (by decide +kernel)
theorem lI_X1_15 : Cond.methodLink RX1 15 yX1_become ∈ kg := kg_in 92 (by decide +kernel) (by decide +kernel)
theorem dX1_init_0 : decode cX1_init 0 = .ok (.aload_n 0, 1) := by decide +kernel
theorem dX1_init_1 : decode cX1_init 1 = .ok (.invokespecial 3, 3) := by decide +kernel
theorem dX1_init_4 : decode cX1_init 4 = .ok (.aload_n 0, 1) := by decide +kernel
theorem dX1_init_5 : decode cX1_init 5 = .ok (.sipush 225, 3) := by decide +kernel
theorem dX1_init_8 : decode cX1_init 8 = .ok (.newarray .int, 2) := by decide +kernel
theorem dX1_init_10 : decode cX1_init 10 = .ok (.putfield 9, 3) := by decide +kernel
theorem dX1_init_13 : decode cX1_init 13 = .ok (.aload_n 0, 1) := by decide +kernel
theorem dX1_init_14 : decode cX1_init 14 = .ok (.bipush 60, 2) := by decide +kernel
theorem dX1_init_16 : decode cX1_init 16 = .ok (.iconst 3, 1) := by decide +kernel
theorem dX1_init_17 : decode cX1_init 17 = .ok (.invokevirtual 15, 3) := by decide +kernel
theorem dX1_init_20 : decode cX1_init 20 = .ok (.return_, 1) := by decide +kernel
def iE_X1 (E0 : KE)  (h0 a1 : Nat) : KE := (E0.1, pick [(0, 1, fun _ => h0), (1, 1, fun _ => a1)] E0.2.1, E0.2.2)
def iS_X1  : Sto := pick [(0, 1, fun _ => fun i => 0), (1, 1, fun _ => fun _ => 0)] (fun _ _ => 0)
theorem pw_X1 : List.Pairwise (fun (x y : Nat × Nat) => x.1 + x.2 ≤ y.1 ∨ y.1 + y.2 ≤ x.1) [(0, 1), (1, 1)] := by decide +kernel
theorem mx_X1 : ∀ x ∈ ([(0, 1), (1, 1)] : List (Nat × Nat)), x.1 + x.2 ≤ 1000 := by decide +kernel
theorem iQ_X1 (E0 : KE)  (h0 a1 : Nat) : EQ E0 (iE_X1 E0  h0 a1) := ⟨rfl, rfl, fun k hk => pick_no _ (fun x hx => Nat.le_trans (mx_X1 x hx) hk)⟩
set_option maxRecDepth 100000 in
theorem iP_X1 (E0 : KE)   (h0 a1 : Nat)  : (([(h0, .inr (1, [.int 0, .int 0, .int 0, .ref a1])), (a1, .inl (E0.2.2 0, 225, .inl (fun _ => 0)))] : va_W)).Perm (kwl (iE_X1 E0  h0 a1) shX1 (iS_X1 )) := by
  have e0 : ([(h0, .inr (1, [.int 0, .int 0, .int 0, .ref a1])), (a1, .inl (E0.2.2 0, 225, .inl (fun _ => 0)))] : va_W) = [0, 1].map (ent (iE_X1 E0  h0 a1) shX1 (iS_X1 )) := rfl
  rw [e0]
  unfold kwl
  exact List.Perm.map _ (by decide +kernel)
abbrev mI_X1 : KM := (RX1, cX1_init, 1, none, { frames := 3, cells := 1, slots := 225, locals := 68 }, 1, 225)
theorem kI_X1 : KMI yX1_init mI_X1 := ⟨rfl, ⟨by decide +kernel, by decide +kernel, by decide +kernel⟩, ⟨rfl, rfl⟩, kg_in 89 (by decide +kernel) (by decide +kernel), kg_in 49 (by decide +kernel) (by decide +kernel), kg_in 90 (by decide +kernel) (by decide +kernel)⟩
set_option maxHeartbeats 4000000 in
set_option maxRecDepth 100000 in
theorem iC_X1 (l : Launch) (hst : l.stackTraces = false) (sh0 : KSh) (hz0 : ∀ q, 1000 ≤ q → ∃ n, sh0 q = .inr (2, n)) : IC l sh0 yX1_init mI_X1 1 (ifs tyX1 4) shX1 0 (fun σ => LX σ 0 60 3) := by
  refine ic_of hst (by decide +kernel) rfl rfl (by decide) ?_
  intro E0 h0 A p e s m below meth c Q C hin hret
  refine ii_re (ws' := ([(h0, .inr (1, [.int 0, .int 0, .int 0, .null]))] : va_W)) rfl ?_
  refine ii_aload_n (pc := 0) C 0 dX1_init_0 rfl rfl ?_
  refine ii_objInit (pc := 1) C dX1_init_1 lI_X1_3 io_1 io_2 (by decide) (by decide) ?_
  refine ii_aload_n (pc := 4) C 0 dX1_init_4 rfl rfl ?_
  refine ii_sipush (pc := 5) (v := 225) C dX1_init_5 (by decide) ?_
  refine ii_newI (pc := 8) (N := 225) C dX1_init_8 io_i (by decide) (by decide) (Nat.le_of_ble_eq_true rfl) (show _ ∧ _ from ⟨Nat.le_of_ble_eq_true rfl, Nat.le_of_ble_eq_true rfl⟩) (fun a1 => ?_)
  refine ii_re (ws' := ([(h0, .inr (1, [.int 0, .int 0, .int 0, .null])), (a1, .inl (E0.2.2 0, 225, .inl (fun _ => 0)))] : va_W)) rfl ?_
  refine ii_putF (pc := 10) (i := 3) 0 tyX1 tyX1_ok nmX1 C hin dX1_init_10 rfl rfl (by decide) rfl fI_X1_9 rfl rfl rfl rfl rfl ?_
  refine ii_re (ws' := ([(h0, .inr (1, [.int 0, .int 0, .int 0, .ref a1])), (a1, .inl (E0.2.2 0, 225, .inl (fun _ => 0)))] : va_W)) rfl ?_
  refine ii_aload_n (pc := 13) C 0 dX1_init_13 rfl rfl ?_
  refine ii_bipush (pc := 14) (v := 60) C dX1_init_14 (by decide) ?_
  refine ii_iconst (pc := 16) (v := 3) C dX1_init_16 (by decide) ?_
  refine ii_perm (iP_X1 E0   h0 a1 ) ?_
  obtain ⟨τ, e1, g1, g2⟩ := @c_become (iS_X1 ) 0 60 3 (.inr (.inr (.inr (.inl rfl)))) ⟨by decide, by decide⟩
  refine ii_callV (pc := 17) (q := 0) (ci := 1) (o1 := (0, .int 0, τ)) (M' := mX1_become) (y := yX1_become) (st := []) [.int 60, .int 3] C (iQ_X1 E0 h0 a1) hz0 ko_X1 (tX1_become (kxt sh0 shX1) (kwf_xt hz0 ko_X1 kwf_X1) l hst 0 rfl 60 3 (iS_X1 ) τ e1) rfl dX1_init_17 rfl rfl rfl yw_X1_become lI_X1_15 (by decide) (by decide) (show _ ∧ _ from ⟨Nat.le_of_ble_eq_true rfl, Nat.le_of_ble_eq_true rfl⟩) ?_
  exact hret (iE_X1 E0  h0 a1) τ 20 _ (iQ_X1 E0 h0 a1) rfl g1 dX1_init_20
theorem lI_X5_3 : Cond.methodLink RX5 3 Lib.objectInit ∈ kg := kg_in 85 (by decide +kernel) (by decide +kernel)
theorem cI_X5_9 : Cond.classLink RX5 9 RX1 ∈ kg := kg_in 86 (by decide +kernel) (by decide +kernel)
theorem nI_X1 : Cond.instantiable RX1 4 ∈ kg := kg_in 87 (by decide +kernel) (by decide +kernel)
theorem tI_X1 : Cond.initialized RX1 ∈ kg := kg_in 49 (by decide +kernel) (by decide +kernel)
theorem lI_X5_11 : Cond.methodLink RX5 11 yX1_init ∈ kg := kg_in 88 (by decide +kernel) (by decide +kernel)
theorem fI_X5_12 : Cond.fieldLink RX5 12 (TX5 0).1 (TX5 0).2.1 (TX5 0).2.2.1 ∈ kg := kg_in 135 (by decide +kernel) (by decide +kernel)
theorem fI_X5_18 : Cond.fieldLink RX5 18 (TX5 2).1 (TX5 2).2.1 (TX5 2).2.2.1 ∈ kg := kg_in 144 (by decide +kernel) (by decide +kernel)
theorem fI_X5_22 : Cond.fieldLink RX5 22 (TX5 9).1 (TX5 9).2.1 (TX5 9).2.2.1 ∈ kg := kg_in 166 (by decide +kernel) (by decide +kernel)
theorem fI_X5_26 : Cond.fieldLink RX5 26 (TX5 10).1 (TX5 10).2.1 (TX5 10).2.2.1 ∈ kg := kg_in 167 (by decide +kernel) (by decide +kernel)
theorem fI_X5_29 : Cond.fieldLink RX5 29 (TX5 11).1 (TX5 11).2.1 (TX5 11).2.2.1 ∈ kg := kg_in 168 (by decide +kernel) (by decide +kernel)
theorem fI_X5_32 : Cond.fieldLink RX5 32 (TX5 12).1 (TX5 12).2.1 (TX5 12).2.2.1 ∈ kg := kg_in 169 (by decide +kernel) (by decide +kernel)
theorem fI_X5_35 : Cond.fieldLink RX5 35 (TX5 13).1 (TX5 13).2.1 (TX5 13).2.2.1 ∈ kg := kg_in 170 (by decide +kernel) (by decide +kernel)
theorem fI_X5_38 : Cond.fieldLink RX5 38 (TX5 14).1 (TX5 14).2.1 (TX5 14).2.2.1 ∈ kg := kg_in 171 (by decide +kernel) (by decide +kernel)
theorem dX5_init_0 : decode cX5_init 0 = .ok (.aload_n 0, 1) := by decide +kernel
theorem dX5_init_1 : decode cX5_init 1 = .ok (.invokespecial 3, 3) := by decide +kernel
theorem dX5_init_4 : decode cX5_init 4 = .ok (.aload_n 0, 1) := by decide +kernel
theorem dX5_init_5 : decode cX5_init 5 = .ok (.new 9, 3) := by decide +kernel
theorem dX5_init_8 : decode cX5_init 8 = .ok (.dup, 1) := by decide +kernel
theorem dX5_init_9 : decode cX5_init 9 = .ok (.invokespecial 11, 3) := by decide +kernel
theorem dX5_init_12 : decode cX5_init 12 = .ok (.putfield 12, 3) := by decide +kernel
theorem dX5_init_15 : decode cX5_init 15 = .ok (.aload_n 0, 1) := by decide +kernel
theorem dX5_init_16 : decode cX5_init 16 = .ok (.bipush 90, 2) := by decide +kernel
theorem dX5_init_18 : decode cX5_init 18 = .ok (.putfield 18, 3) := by decide +kernel
theorem dX5_init_21 : decode cX5_init 21 = .ok (.aload_n 0, 1) := by decide +kernel
theorem dX5_init_22 : decode cX5_init 22 = .ok (.bipush 30, 2) := by decide +kernel
theorem dX5_init_24 : decode cX5_init 24 = .ok (.newarray .int, 2) := by decide +kernel
theorem dX5_init_26 : decode cX5_init 26 = .ok (.putfield 22, 3) := by decide +kernel
theorem dX5_init_29 : decode cX5_init 29 = .ok (.aload_n 0, 1) := by decide +kernel
theorem dX5_init_30 : decode cX5_init 30 = .ok (.bipush 30, 2) := by decide +kernel
theorem dX5_init_32 : decode cX5_init 32 = .ok (.newarray .int, 2) := by decide +kernel
theorem dX5_init_34 : decode cX5_init 34 = .ok (.putfield 26, 3) := by decide +kernel
theorem dX5_init_37 : decode cX5_init 37 = .ok (.aload_n 0, 1) := by decide +kernel
theorem dX5_init_38 : decode cX5_init 38 = .ok (.bipush 30, 2) := by decide +kernel
theorem dX5_init_40 : decode cX5_init 40 = .ok (.newarray .int, 2) := by decide +kernel
theorem dX5_init_42 : decode cX5_init 42 = .ok (.putfield 29, 3) := by decide +kernel
theorem dX5_init_45 : decode cX5_init 45 = .ok (.aload_n 0, 1) := by decide +kernel
theorem dX5_init_46 : decode cX5_init 46 = .ok (.bipush 30, 2) := by decide +kernel
theorem dX5_init_48 : decode cX5_init 48 = .ok (.newarray .int, 2) := by decide +kernel
theorem dX5_init_50 : decode cX5_init 50 = .ok (.putfield 32, 3) := by decide +kernel
theorem dX5_init_53 : decode cX5_init 53 = .ok (.aload_n 0, 1) := by decide +kernel
theorem dX5_init_54 : decode cX5_init 54 = .ok (.bipush 30, 2) := by decide +kernel
theorem dX5_init_56 : decode cX5_init 56 = .ok (.newarray .int, 2) := by decide +kernel
theorem dX5_init_58 : decode cX5_init 58 = .ok (.putfield 35, 3) := by decide +kernel
theorem dX5_init_61 : decode cX5_init 61 = .ok (.aload_n 0, 1) := by decide +kernel
theorem dX5_init_62 : decode cX5_init 62 = .ok (.sipush 225, 3) := by decide +kernel
theorem dX5_init_65 : decode cX5_init 65 = .ok (.newarray .int, 2) := by decide +kernel
theorem dX5_init_67 : decode cX5_init 67 = .ok (.putfield 38, 3) := by decide +kernel
theorem dX5_init_70 : decode cX5_init 70 = .ok (.aload_n 0, 1) := by decide +kernel
theorem dX5_init_71 : decode cX5_init 71 = .ok (.getfield 38, 3) := by decide +kernel
theorem dX5_init_74 : decode cX5_init 74 = .ok (.iconst (-1), 1) := by decide +kernel
theorem dX5_init_75 : decode cX5_init 75 = .ok (.invokestatic 41, 3) := by decide +kernel
theorem dX5_init_78 : decode cX5_init 78 = .ok (.return_, 1) := by decide +kernel
def iE_X5 (E0 : KE) (E2 : KE) (h0 a3 a4 a5 a6 a7 a8 : Nat) : KE := (E0.1, pick [(0, 1, fun _ => h0), (3, 1, fun _ => a3), (4, 1, fun _ => a4), (5, 1, fun _ => a5), (6, 1, fun _ => a6), (7, 1, fun _ => a7), (8, 1, fun _ => a8), (1, 2, E2.2.1)] E0.2.1, E0.2.2)
def iS_X5 (σ2 : Sto) : Sto := pick [(0, 1, fun _ => fun i => if i = 2 then 90 else 0), (3, 1, fun _ => fun _ => 0), (4, 1, fun _ => fun _ => 0), (5, 1, fun _ => fun _ => 0), (6, 1, fun _ => fun _ => 0), (7, 1, fun _ => fun _ => 0), (8, 1, fun _ => fun _ => 0), (1, 2, σ2)] (fun _ _ => 0)
theorem pw_X5 : List.Pairwise (fun (x y : Nat × Nat) => x.1 + x.2 ≤ y.1 ∨ y.1 + y.2 ≤ x.1) [(0, 1), (3, 1), (4, 1), (5, 1), (6, 1), (7, 1), (8, 1), (1, 2)] := by decide +kernel
theorem mx_X5 : ∀ x ∈ ([(0, 1), (3, 1), (4, 1), (5, 1), (6, 1), (7, 1), (8, 1), (1, 2)] : List (Nat × Nat)), x.1 + x.2 ≤ 1000 := by decide +kernel
theorem iQ_X5 (E0 : KE) (E2 : KE) (h0 a3 a4 a5 a6 a7 a8 : Nat) : EQ E0 (iE_X5 E0 E2 h0 a3 a4 a5 a6 a7 a8) := ⟨rfl, rfl, fun k hk => pick_no _ (fun x hx => Nat.le_trans (mx_X5 x hx) hk)⟩
set_option maxRecDepth 100000 in
theorem iP_X5 (E0 : KE) (E2 : KE) (σ2 : Sto) (h0 a3 a4 a5 a6 a7 a8 : Nat) (hE2 : EQ E0 E2) : (([(h0, .inr (5, [.ref (E2.2.1 0), .int 0, .int 90, .int 0, .int 0, .int 0, .int 0, .int 0, .int 0, .ref a3, .ref a4, .ref a5, .ref a6, .ref a7, .ref a8])), (a3, .inl (E0.2.2 0, 30, .inl (fun _ => 0))), (a4, .inl (E0.2.2 0, 30, .inl (fun _ => 0))), (a5, .inl (E0.2.2 0, 30, .inl (fun _ => 0))), (a6, .inl (E0.2.2 0, 30, .inl (fun _ => 0))), (a7, .inl (E0.2.2 0, 30, .inl (fun _ => 0))), (a8, .inl (E0.2.2 0, 225, .inl (fun _ => 0)))] : va_W) ++ (kwl E2 shX1 σ2)).Perm (kwl (iE_X5 E0 E2 h0 a3 a4 a5 a6 a7 a8) shX5 (iS_X5 σ2)) := by
  have e0 : ([(h0, .inr (5, [.ref (E2.2.1 0), .int 0, .int 90, .int 0, .int 0, .int 0, .int 0, .int 0, .int 0, .ref a3, .ref a4, .ref a5, .ref a6, .ref a7, .ref a8])), (a3, .inl (E0.2.2 0, 30, .inl (fun _ => 0))), (a4, .inl (E0.2.2 0, 30, .inl (fun _ => 0))), (a5, .inl (E0.2.2 0, 30, .inl (fun _ => 0))), (a6, .inl (E0.2.2 0, 30, .inl (fun _ => 0))), (a7, .inl (E0.2.2 0, 30, .inl (fun _ => 0))), (a8, .inl (E0.2.2 0, 225, .inl (fun _ => 0)))] : va_W) = [0, 3, 4, 5, 6, 7, 8].map (ent (iE_X5 E0 E2 h0 a3 a4 a5 a6 a7 a8) shX5 (iS_X5 σ2)) := rfl
  have e1 : kwl E2 shX1 σ2 = ((List.range 2).map (fun j => 1 + j)).map (ent (iE_X5 E0 E2 h0 a3 a4 a5 a6 a7 a8) shX5 (iS_X5 σ2)) := kwl_blk 1 2 kp_X1 hE2.2.1 (fun j hj => pick_at _ 7 1 2 _ rfl pw_X5 hj) (fun j hj => pick_at _ 7 1 2 _ rfl pw_X5 hj) (by decide +kernel) (by decide +kernel)
  rw [e0, e1, ← List.map_append]
  unfold kwl
  exact List.Perm.map _ (by decide +kernel)
theorem bx_make {σ1 σ τ : Sto} (h : LX σ1 0 60 3) (h0 : ∀ i, σ 0 i = if i = 2 then 90 else 0) (h1 : σ 1 = σ1 0) (h2 : σ 2 = σ1 1) (g1 : ∀ j, j < 225 → τ 8 j = -1) (g2 : ∀ p, p ≠ 8 → τ p = σ p) : BX τ 0 (mNew 60 3) := by
  obtain ⟨k1, k2⟩ := h
  refine ⟨⟨?_, fun c hc => ?_⟩, ?_, fun k hk => absurd hk (Nat.not_lt_zero k), fun c hc => ?_⟩
  · rw [g2 (0 + 1) (by omega), show (0 + 1 : Nat) = 1 from rfl, h1]; exact k1
  · rw [g2 (0 + 1 + 1) (by omega), show (0 + 1 + 1 : Nat) = 2 from rfl, h2]; exact k2 c hc
  · rw [g2 0 (by omega), h0, h0, h0, h0, h0, h0, h0, h0]; exact ⟨rfl, rfl, rfl, rfl, rfl, rfl, rfl, rfl⟩
  · rw [show (0 + 8 : Nat) = 8 from rfl, g1 c hc]; rfl
abbrev mI_X5 : KM := (RX5, cX5_init, 1, none, { frames := 4, cells := 8, slots := 604, locals := 88 }, 8, 604)
theorem kI_X5 : KMI yX5_init mI_X5 := ⟨rfl, ⟨by decide +kernel, by decide +kernel, by decide +kernel⟩, ⟨rfl, rfl⟩, kg_in 83 (by decide +kernel) (by decide +kernel), kg_in 48 (by decide +kernel) (by decide +kernel), kg_in 84 (by decide +kernel) (by decide +kernel)⟩
set_option maxHeartbeats 4000000 in
set_option maxRecDepth 100000 in
theorem iC_X5 (l : Launch) (hst : l.stackTraces = false) (sh0 : KSh) (hz0 : ∀ q, 1000 ≤ q → ∃ n, sh0 q = .inr (2, n)) : IC l sh0 yX5_init mI_X5 5 (ifs tyX5 15) shX5 0 (fun σ => BX σ 0 (mNew 60 3)) := by
  refine ic_of hst (by decide +kernel) rfl rfl (by decide) ?_
  intro E0 h0 A p e s m below meth c Q C hin hret
  refine ii_re (ws' := ([(h0, .inr (5, [.null, .int 0, .int 0, .int 0, .int 0, .int 0, .int 0, .int 0, .int 0, .null, .null, .null, .null, .null, .null]))] : va_W)) rfl ?_
  refine ii_aload_n (pc := 0) C 0 dX5_init_0 rfl rfl ?_
  refine ii_objInit (pc := 1) C dX5_init_1 lI_X5_3 io_1 io_2 (by decide) (by decide) ?_
  refine ii_aload_n (pc := 4) C 0 dX5_init_4 rfl rfl ?_
  refine ii_new (pc := 5) (ci := 1) tyX1 tyX1_ok C dX5_init_5 rfl cI_X5_9 nI_X1 tI_X1 (show _ ∧ _ from ⟨Nat.le_of_ble_eq_true rfl, Nat.le_of_ble_eq_true rfl⟩) (fun a1 => ?_)
  refine ii_dup (pc := 8) C dX5_init_8 ?_
  refine ii_init (pc := 9) (M := mI_X1) C (iC_X1 l hst sh0 hz0) dX5_init_9 kI_X1 lI_X5_11 (by decide) (show _ ≤ 8 from Nat.le_of_ble_eq_true rfl) (show _ ∧ _ from ⟨Nat.le_of_ble_eq_true rfl, Nat.le_of_ble_eq_true rfl⟩) (fun E2 σ2 hE2 hz2 hF2 => ?_)
  subst hz2
  refine ii_putF (pc := 12) (i := 0) 0 tyX5 tyX5_ok nmX5 C hin dX5_init_12 rfl rfl (by decide) rfl fI_X5_12 rfl rfl rfl rfl rfl ?_
  refine ii_re (ws' := ([(h0, .inr (5, [.ref (E2.2.1 0), .int 0, .int 0, .int 0, .int 0, .int 0, .int 0, .int 0, .int 0, .null, .null, .null, .null, .null, .null]))] : va_W) ++ (kwl E2 shX1 σ2)) rfl ?_
  refine ii_aload_n (pc := 15) C 0 dX5_init_15 rfl rfl ?_
  refine ii_bipush (pc := 16) (v := 90) C dX5_init_16 (by decide) ?_
  refine ii_put (pc := 18) (i := 2) 0 tyX5 tyX5_ok nmX5 C dX5_init_18 rfl rfl (by decide) rfl fI_X5_18 rfl rfl rfl rfl ?_
  refine ii_re (ws' := ([(h0, .inr (5, [.ref (E2.2.1 0), .int 0, .int 90, .int 0, .int 0, .int 0, .int 0, .int 0, .int 0, .null, .null, .null, .null, .null, .null]))] : va_W) ++ (kwl E2 shX1 σ2)) rfl ?_
  refine ii_aload_n (pc := 21) C 0 dX5_init_21 rfl rfl ?_
  refine ii_bipush (pc := 22) (v := 30) C dX5_init_22 (by decide) ?_
  refine ii_newI (pc := 24) (N := 30) C dX5_init_24 io_i (by decide) (by decide) (Nat.le_of_ble_eq_true rfl) (show _ ∧ _ from ⟨Nat.le_of_ble_eq_true rfl, Nat.le_of_ble_eq_true rfl⟩) (fun a3 => ?_)
  refine ii_pull ?_
  refine ii_re (ws' := ([(h0, .inr (5, [.ref (E2.2.1 0), .int 0, .int 90, .int 0, .int 0, .int 0, .int 0, .int 0, .int 0, .null, .null, .null, .null, .null, .null])), (a3, .inl (E0.2.2 0, 30, .inl (fun _ => 0)))] : va_W) ++ (kwl E2 shX1 σ2)) rfl ?_
  refine ii_putF (pc := 26) (i := 9) 0 tyX5 tyX5_ok nmX5 C hin dX5_init_26 rfl rfl (by decide) rfl fI_X5_22 rfl rfl rfl rfl rfl ?_
  refine ii_re (ws' := ([(h0, .inr (5, [.ref (E2.2.1 0), .int 0, .int 90, .int 0, .int 0, .int 0, .int 0, .int 0, .int 0, .ref a3, .null, .null, .null, .null, .null])), (a3, .inl (E0.2.2 0, 30, .inl (fun _ => 0)))] : va_W) ++ (kwl E2 shX1 σ2)) rfl ?_
  refine ii_aload_n (pc := 29) C 0 dX5_init_29 rfl rfl ?_
  refine ii_bipush (pc := 30) (v := 30) C dX5_init_30 (by decide) ?_
  refine ii_newI (pc := 32) (N := 30) C dX5_init_32 io_i (by decide) (by decide) (Nat.le_of_ble_eq_true rfl) (show _ ∧ _ from ⟨Nat.le_of_ble_eq_true rfl, Nat.le_of_ble_eq_true rfl⟩) (fun a4 => ?_)
  refine ii_pull ?_
  refine ii_re (ws' := ([(h0, .inr (5, [.ref (E2.2.1 0), .int 0, .int 90, .int 0, .int 0, .int 0, .int 0, .int 0, .int 0, .ref a3, .null, .null, .null, .null, .null])), (a3, .inl (E0.2.2 0, 30, .inl (fun _ => 0))), (a4, .inl (E0.2.2 0, 30, .inl (fun _ => 0)))] : va_W) ++ (kwl E2 shX1 σ2)) rfl ?_
  refine ii_putF (pc := 34) (i := 10) 0 tyX5 tyX5_ok nmX5 C hin dX5_init_34 rfl rfl (by decide) rfl fI_X5_26 rfl rfl rfl rfl rfl ?_
  refine ii_re (ws' := ([(h0, .inr (5, [.ref (E2.2.1 0), .int 0, .int 90, .int 0, .int 0, .int 0, .int 0, .int 0, .int 0, .ref a3, .ref a4, .null, .null, .null, .null])), (a3, .inl (E0.2.2 0, 30, .inl (fun _ => 0))), (a4, .inl (E0.2.2 0, 30, .inl (fun _ => 0)))] : va_W) ++ (kwl E2 shX1 σ2)) rfl ?_
  refine ii_aload_n (pc := 37) C 0 dX5_init_37 rfl rfl ?_
  refine ii_bipush (pc := 38) (v := 30) C dX5_init_38 (by decide) ?_
  refine ii_newI (pc := 40) (N := 30) C dX5_init_40 io_i (by decide) (by decide) (Nat.le_of_ble_eq_true rfl) (show _ ∧ _ from ⟨Nat.le_of_ble_eq_true rfl, Nat.le_of_ble_eq_true rfl⟩) (fun a5 => ?_)
  refine ii_pull ?_
  refine ii_re (ws' := ([(h0, .inr (5, [.ref (E2.2.1 0), .int 0, .int 90, .int 0, .int 0, .int 0, .int 0, .int 0, .int 0, .ref a3, .ref a4, .null, .null, .null, .null])), (a3, .inl (E0.2.2 0, 30, .inl (fun _ => 0))), (a4, .inl (E0.2.2 0, 30, .inl (fun _ => 0))), (a5, .inl (E0.2.2 0, 30, .inl (fun _ => 0)))] : va_W) ++ (kwl E2 shX1 σ2)) rfl ?_
  refine ii_putF (pc := 42) (i := 11) 0 tyX5 tyX5_ok nmX5 C hin dX5_init_42 rfl rfl (by decide) rfl fI_X5_29 rfl rfl rfl rfl rfl ?_
  refine ii_re (ws' := ([(h0, .inr (5, [.ref (E2.2.1 0), .int 0, .int 90, .int 0, .int 0, .int 0, .int 0, .int 0, .int 0, .ref a3, .ref a4, .ref a5, .null, .null, .null])), (a3, .inl (E0.2.2 0, 30, .inl (fun _ => 0))), (a4, .inl (E0.2.2 0, 30, .inl (fun _ => 0))), (a5, .inl (E0.2.2 0, 30, .inl (fun _ => 0)))] : va_W) ++ (kwl E2 shX1 σ2)) rfl ?_
  refine ii_aload_n (pc := 45) C 0 dX5_init_45 rfl rfl ?_
  refine ii_bipush (pc := 46) (v := 30) C dX5_init_46 (by decide) ?_
  refine ii_newI (pc := 48) (N := 30) C dX5_init_48 io_i (by decide) (by decide) (Nat.le_of_ble_eq_true rfl) (show _ ∧ _ from ⟨Nat.le_of_ble_eq_true rfl, Nat.le_of_ble_eq_true rfl⟩) (fun a6 => ?_)
  refine ii_pull ?_
  refine ii_re (ws' := ([(h0, .inr (5, [.ref (E2.2.1 0), .int 0, .int 90, .int 0, .int 0, .int 0, .int 0, .int 0, .int 0, .ref a3, .ref a4, .ref a5, .null, .null, .null])), (a3, .inl (E0.2.2 0, 30, .inl (fun _ => 0))), (a4, .inl (E0.2.2 0, 30, .inl (fun _ => 0))), (a5, .inl (E0.2.2 0, 30, .inl (fun _ => 0))), (a6, .inl (E0.2.2 0, 30, .inl (fun _ => 0)))] : va_W) ++ (kwl E2 shX1 σ2)) rfl ?_
  refine ii_putF (pc := 50) (i := 12) 0 tyX5 tyX5_ok nmX5 C hin dX5_init_50 rfl rfl (by decide) rfl fI_X5_32 rfl rfl rfl rfl rfl ?_
  refine ii_re (ws' := ([(h0, .inr (5, [.ref (E2.2.1 0), .int 0, .int 90, .int 0, .int 0, .int 0, .int 0, .int 0, .int 0, .ref a3, .ref a4, .ref a5, .ref a6, .null, .null])), (a3, .inl (E0.2.2 0, 30, .inl (fun _ => 0))), (a4, .inl (E0.2.2 0, 30, .inl (fun _ => 0))), (a5, .inl (E0.2.2 0, 30, .inl (fun _ => 0))), (a6, .inl (E0.2.2 0, 30, .inl (fun _ => 0)))] : va_W) ++ (kwl E2 shX1 σ2)) rfl ?_
  refine ii_aload_n (pc := 53) C 0 dX5_init_53 rfl rfl ?_
  refine ii_bipush (pc := 54) (v := 30) C dX5_init_54 (by decide) ?_
  refine ii_newI (pc := 56) (N := 30) C dX5_init_56 io_i (by decide) (by decide) (Nat.le_of_ble_eq_true rfl) (show _ ∧ _ from ⟨Nat.le_of_ble_eq_true rfl, Nat.le_of_ble_eq_true rfl⟩) (fun a7 => ?_)
  refine ii_pull ?_
  refine ii_re (ws' := ([(h0, .inr (5, [.ref (E2.2.1 0), .int 0, .int 90, .int 0, .int 0, .int 0, .int 0, .int 0, .int 0, .ref a3, .ref a4, .ref a5, .ref a6, .null, .null])), (a3, .inl (E0.2.2 0, 30, .inl (fun _ => 0))), (a4, .inl (E0.2.2 0, 30, .inl (fun _ => 0))), (a5, .inl (E0.2.2 0, 30, .inl (fun _ => 0))), (a6, .inl (E0.2.2 0, 30, .inl (fun _ => 0))), (a7, .inl (E0.2.2 0, 30, .inl (fun _ => 0)))] : va_W) ++ (kwl E2 shX1 σ2)) rfl ?_
  refine ii_putF (pc := 58) (i := 13) 0 tyX5 tyX5_ok nmX5 C hin dX5_init_58 rfl rfl (by decide) rfl fI_X5_35 rfl rfl rfl rfl rfl ?_
  refine ii_re (ws' := ([(h0, .inr (5, [.ref (E2.2.1 0), .int 0, .int 90, .int 0, .int 0, .int 0, .int 0, .int 0, .int 0, .ref a3, .ref a4, .ref a5, .ref a6, .ref a7, .null])), (a3, .inl (E0.2.2 0, 30, .inl (fun _ => 0))), (a4, .inl (E0.2.2 0, 30, .inl (fun _ => 0))), (a5, .inl (E0.2.2 0, 30, .inl (fun _ => 0))), (a6, .inl (E0.2.2 0, 30, .inl (fun _ => 0))), (a7, .inl (E0.2.2 0, 30, .inl (fun _ => 0)))] : va_W) ++ (kwl E2 shX1 σ2)) rfl ?_
  refine ii_aload_n (pc := 61) C 0 dX5_init_61 rfl rfl ?_
  refine ii_sipush (pc := 62) (v := 225) C dX5_init_62 (by decide) ?_
  refine ii_newI (pc := 65) (N := 225) C dX5_init_65 io_i (by decide) (by decide) (Nat.le_of_ble_eq_true rfl) (show _ ∧ _ from ⟨Nat.le_of_ble_eq_true rfl, Nat.le_of_ble_eq_true rfl⟩) (fun a8 => ?_)
  refine ii_pull ?_
  refine ii_re (ws' := ([(h0, .inr (5, [.ref (E2.2.1 0), .int 0, .int 90, .int 0, .int 0, .int 0, .int 0, .int 0, .int 0, .ref a3, .ref a4, .ref a5, .ref a6, .ref a7, .null])), (a3, .inl (E0.2.2 0, 30, .inl (fun _ => 0))), (a4, .inl (E0.2.2 0, 30, .inl (fun _ => 0))), (a5, .inl (E0.2.2 0, 30, .inl (fun _ => 0))), (a6, .inl (E0.2.2 0, 30, .inl (fun _ => 0))), (a7, .inl (E0.2.2 0, 30, .inl (fun _ => 0))), (a8, .inl (E0.2.2 0, 225, .inl (fun _ => 0)))] : va_W) ++ (kwl E2 shX1 σ2)) rfl ?_
  refine ii_putF (pc := 67) (i := 14) 0 tyX5 tyX5_ok nmX5 C hin dX5_init_67 rfl rfl (by decide) rfl fI_X5_38 rfl rfl rfl rfl rfl ?_
  refine ii_re (ws' := ([(h0, .inr (5, [.ref (E2.2.1 0), .int 0, .int 90, .int 0, .int 0, .int 0, .int 0, .int 0, .int 0, .ref a3, .ref a4, .ref a5, .ref a6, .ref a7, .ref a8])), (a3, .inl (E0.2.2 0, 30, .inl (fun _ => 0))), (a4, .inl (E0.2.2 0, 30, .inl (fun _ => 0))), (a5, .inl (E0.2.2 0, 30, .inl (fun _ => 0))), (a6, .inl (E0.2.2 0, 30, .inl (fun _ => 0))), (a7, .inl (E0.2.2 0, 30, .inl (fun _ => 0))), (a8, .inl (E0.2.2 0, 225, .inl (fun _ => 0)))] : va_W) ++ (kwl E2 shX1 σ2)) rfl ?_
  refine ii_aload_n (pc := 70) C 0 dX5_init_70 rfl rfl ?_
  refine ii_get (pc := 71) (i := 14) 0 C dX5_init_71 rfl rfl (by decide) fI_X5_38 rfl ?_
  refine ii_iconst (pc := 74) (v := (-1)) C dX5_init_74 (by decide) ?_
  refine ii_perm (iP_X5 E0 E2 σ2 h0 a3 a4 a5 a6 a7 a8 hE2) ?_
  obtain ⟨τ, e1, g1, g2⟩ := @j_fill 8 225 (by decide) (-1) (iS_X5 σ2)
  refine ii_callS (pc := 75) (o1 := (0, .int 0, τ)) (M' := mJ7_fill_53178) (y := yJ7_fill_53178) (st := []) [.ref 8, .int (-1)] C (iQ_X5 E0 E2 h0 a3 a4 a5 a6 a7 a8) hz0 ko_X5 (tJ7_fill_53178 (kxt sh0 shX5) (kwf_xt hz0 ko_X5 kwf_X5) l hst 8 225 rfl (-1) (iS_X5 σ2) τ e1) rfl dX5_init_75 rfl yw_J7_fill_53178 lk_X5_41 (by decide) (by decide) (show _ ∧ _ from ⟨Nat.le_of_ble_eq_true rfl, Nat.le_of_ble_eq_true rfl⟩) ?_
  exact hret (iE_X5 E0 E2 h0 a3 a4 a5 a6 a7 a8) τ 78 _ (iQ_X5 E0 E2 h0 a3 a4 a5 a6 a7 a8) rfl (bx_make hF2 (fun i => rfl) rfl rfl g1 g2) dX5_init_78
