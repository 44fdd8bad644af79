/-! the two large constructors -/
theorem lI_X6_3 : Cond.methodLink RX6 3 Lib.objectInit ∈ kg := kg_in 77 (by decide +kernel) (by decide +kernel)
theorem cI_X6_9 : Cond.classLink RX6 9 RX5 ∈ kg := kg_in 80 (by decide +kernel) (by decide +kernel)
theorem nI_X5 : Cond.instantiable RX5 15 ∈ kg := kg_in 81 (by decide +kernel) (by decide +kernel)
theorem tI_X5 : Cond.initialized RX5 ∈ kg := kg_in 48 (by decide +kernel) (by decide +kernel)
theorem lI_X6_11 : Cond.methodLink RX6 11 yX5_init ∈ kg := kg_in 82 (by decide +kernel) (by decide +kernel)
theorem fI_X6_12 : Cond.fieldLink RX6 12 (TX6 0).1 (TX6 0).2.1 (TX6 0).2.2.1 ∈ kg := kg_in 287 (by decide +kernel) (by decide +kernel)
theorem fI_X6_16 : Cond.fieldLink RX6 16 (TX6 1).1 (TX6 1).2.1 (TX6 1).2.2.1 ∈ kg := kg_in 288 (by decide +kernel) (by decide +kernel)
theorem fI_X6_19 : Cond.fieldLink RX6 19 (TX6 2).1 (TX6 2).2.1 (TX6 2).2.2.1 ∈ kg := kg_in 289 (by decide +kernel) (by decide +kernel)
theorem fI_X6_23 : Cond.fieldLink RX6 23 (TX6 5).1 (TX6 5).2.1 (TX6 5).2.2.1 ∈ kg := kg_in 292 (by decide +kernel) (by decide +kernel)
theorem fI_X6_26 : Cond.fieldLink RX6 26 (TX6 6).1 (TX6 6).2.1 (TX6 6).2.2.1 ∈ kg := kg_in 293 (by decide +kernel) (by decide +kernel)
theorem fI_X6_30 : Cond.fieldLink RX6 30 (TX6 7).1 (TX6 7).2.1 (TX6 7).2.2.1 ∈ kg := kg_in 294 (by decide +kernel) (by decide +kernel)
theorem cI_X6_34 : Cond.classLink RX6 34 RX4 ∈ kg := kg_in 204 (by decide +kernel) (by decide +kernel)
theorem nI_X4 : Cond.instantiable RX4 8 ∈ kg := kg_in 205 (by decide +kernel) (by decide +kernel)
theorem tI_X4 : Cond.initialized RX4 ∈ kg := kg_in 52 (by decide +kernel) (by decide +kernel)
theorem lI_X6_36 : Cond.methodLinkNest RX6 36 yX4_init "KaleidoscopeBox" ∈ knw := List.mem_of_getElem? (i := 0) rfl
theorem fI_X6_37 : Cond.fieldLink RX6 37 (TX6 8).1 (TX6 8).2.1 (TX6 8).2.2.1 ∈ kg := kg_in 295 (by decide +kernel) (by decide +kernel)
theorem cI_X6_41 : Cond.classLink RX6 41 RX3 ∈ kg := kg_in 237 (by decide +kernel) (by decide +kernel)
theorem nI_X3 : Cond.instantiable RX3 6 ∈ kg := kg_in 238 (by decide +kernel) (by decide +kernel)
theorem tI_X3 : Cond.initialized RX3 ∈ kg := kg_in 53 (by decide +kernel) (by decide +kernel)
theorem lI_X6_43 : Cond.methodLinkNest RX6 43 yX3_init "KaleidoscopeBox" ∈ knw := List.mem_of_getElem? (i := 1) rfl
theorem fI_X6_44 : Cond.fieldLink RX6 44 (TX6 9).1 (TX6 9).2.1 (TX6 9).2.2.1 ∈ kg := kg_in 296 (by decide +kernel) (by decide +kernel)
theorem fI_X6_48 : Cond.fieldLink RX6 48 (TX6 10).1 (TX6 10).2.1 (TX6 10).2.2.1 ∈ kg := kg_in 297 (by decide +kernel) (by decide +kernel)
theorem cI_X6_51 : Cond.classLink RX6 51 RX0 ∈ kg := kg_in 262 (by decide +kernel) (by decide +kernel)
theorem nI_X0 : Cond.instantiable RX0 2 ∈ kg := kg_in 263 (by decide +kernel) (by decide +kernel)
theorem tI_X0 : Cond.initialized RX0 ∈ kg := kg_in 54 (by decide +kernel) (by decide +kernel)
theorem lI_X6_53 : Cond.methodLinkNest RX6 53 yX0_init "KaleidoscopeBox" ∈ knw := List.mem_of_getElem? (i := 2) rfl
theorem fI_X6_54 : Cond.fieldLink RX6 54 (TX6 11).1 (TX6 11).2.1 (TX6 11).2.2.1 ∈ kg := kg_in 298 (by decide +kernel) (by decide +kernel)
theorem cI_X6_58 : Cond.classLink RX6 58 RX2 ∈ kg := kg_in 275 (by decide +kernel) (by decide +kernel)
theorem nI_X2 : Cond.instantiable RX2 2 ∈ kg := kg_in 276 (by decide +kernel) (by decide +kernel)
theorem tI_X2 : Cond.initialized RX2 ∈ kg := kg_in 55 (by decide +kernel) (by decide +kernel)
theorem lI_X6_60 : Cond.methodLinkNest RX6 60 yX2_init "KaleidoscopeBox" ∈ knw := List.mem_of_getElem? (i := 3) rfl
theorem fI_X6_61 : Cond.fieldLink RX6 61 (TX6 12).1 (TX6 12).2.1 (TX6 12).2.2.1 ∈ kg := kg_in 299 (by decide +kernel) (by decide +kernel)
theorem dX6_init_0 : decode cX6_init 0 = .ok (.aload_n 0, 1) := by decide +kernel
theorem dX6_init_1 : decode cX6_init 1 = .ok (.invokespecial 3, 3) := by decide +kernel
theorem dX6_init_4 : decode cX6_init 4 = .ok (.aload_n 0, 1) := by decide +kernel
theorem dX6_init_5 : decode cX6_init 5 = .ok (.new 9, 3) := by decide +kernel
theorem dX6_init_8 : decode cX6_init 8 = .ok (.dup, 1) := by decide +kernel
theorem dX6_init_9 : decode cX6_init 9 = .ok (.invokespecial 11, 3) := by decide +kernel
theorem dX6_init_12 : decode cX6_init 12 = .ok (.putfield 12, 3) := by decide +kernel
theorem dX6_init_15 : decode cX6_init 15 = .ok (.aload_n 0, 1) := by decide +kernel
theorem dX6_init_16 : decode cX6_init 16 = .ok (.new 9, 3) := by decide +kernel
theorem dX6_init_19 : decode cX6_init 19 = .ok (.dup, 1) := by decide +kernel
theorem dX6_init_20 : decode cX6_init 20 = .ok (.invokespecial 11, 3) := by decide +kernel
theorem dX6_init_23 : decode cX6_init 23 = .ok (.putfield 16, 3) := by decide +kernel
theorem dX6_init_26 : decode cX6_init 26 = .ok (.aload_n 0, 1) := by decide +kernel
theorem dX6_init_27 : decode cX6_init 27 = .ok (.bipush 8, 2) := by decide +kernel
theorem dX6_init_29 : decode cX6_init 29 = .ok (.anewarray 9, 3) := by decide +kernel
theorem dX6_init_32 : decode cX6_init 32 = .ok (.putfield 19, 3) := by decide +kernel
theorem dX6_init_35 : decode cX6_init 35 = .ok (.aload_n 0, 1) := by decide +kernel
theorem dX6_init_36 : decode cX6_init 36 = .ok (.iconst 2, 1) := by decide +kernel
theorem dX6_init_37 : decode cX6_init 37 = .ok (.anewarray 9, 3) := by decide +kernel
theorem dX6_init_40 : decode cX6_init 40 = .ok (.putfield 23, 3) := by decide +kernel
theorem dX6_init_43 : decode cX6_init 43 = .ok (.aload_n 0, 1) := by decide +kernel
theorem dX6_init_44 : decode cX6_init 44 = .ok (.iconst 2, 1) := by decide +kernel
theorem dX6_init_45 : decode cX6_init 45 = .ok (.newarray .boolean, 2) := by decide +kernel
theorem dX6_init_47 : decode cX6_init 47 = .ok (.putfield 26, 3) := by decide +kernel
theorem dX6_init_50 : decode cX6_init 50 = .ok (.aload_n 0, 1) := by decide +kernel
theorem dX6_init_51 : decode cX6_init 51 = .ok (.bipush 6, 2) := by decide +kernel
theorem dX6_init_53 : decode cX6_init 53 = .ok (.newarray .int, 2) := by decide +kernel
theorem dX6_init_55 : decode cX6_init 55 = .ok (.putfield 30, 3) := by decide +kernel
theorem dX6_init_58 : decode cX6_init 58 = .ok (.aload_n 0, 1) := by decide +kernel
theorem dX6_init_59 : decode cX6_init 59 = .ok (.new 34, 3) := by decide +kernel
theorem dX6_init_62 : decode cX6_init 62 = .ok (.dup, 1) := by decide +kernel
theorem dX6_init_63 : decode cX6_init 63 = .ok (.invokespecial 36, 3) := by decide +kernel
theorem dX6_init_66 : decode cX6_init 66 = .ok (.putfield 37, 3) := by decide +kernel
theorem dX6_init_69 : decode cX6_init 69 = .ok (.aload_n 0, 1) := by decide +kernel
theorem dX6_init_70 : decode cX6_init 70 = .ok (.new 41, 3) := by decide +kernel
theorem dX6_init_73 : decode cX6_init 73 = .ok (.dup, 1) := by decide +kernel
theorem dX6_init_74 : decode cX6_init 74 = .ok (.invokespecial 43, 3) := by decide +kernel
theorem dX6_init_77 : decode cX6_init 77 = .ok (.putfield 44, 3) := by decide +kernel
theorem dX6_init_80 : decode cX6_init 80 = .ok (.aload_n 0, 1) := by decide +kernel
theorem dX6_init_81 : decode cX6_init 81 = .ok (.new 41, 3) := by decide +kernel
theorem dX6_init_84 : decode cX6_init 84 = .ok (.dup, 1) := by decide +kernel
theorem dX6_init_85 : decode cX6_init 85 = .ok (.invokespecial 43, 3) := by decide +kernel
theorem dX6_init_88 : decode cX6_init 88 = .ok (.putfield 48, 3) := by decide +kernel
theorem dX6_init_91 : decode cX6_init 91 = .ok (.aload_n 0, 1) := by decide +kernel
theorem dX6_init_92 : decode cX6_init 92 = .ok (.new 51, 3) := by decide +kernel
theorem dX6_init_95 : decode cX6_init 95 = .ok (.dup, 1) := by decide +kernel
theorem dX6_init_96 : decode cX6_init 96 = .ok (.invokespecial 53, 3) := by decide +kernel
theorem dX6_init_99 : decode cX6_init 99 = .ok (.putfield 54, 3) := by decide +kernel
theorem dX6_init_102 : decode cX6_init 102 = .ok (.aload_n 0, 1) := by decide +kernel
theorem dX6_init_103 : decode cX6_init 103 = .ok (.new 58, 3) := by decide +kernel
theorem dX6_init_106 : decode cX6_init 106 = .ok (.dup, 1) := by decide +kernel
theorem dX6_init_107 : decode cX6_init 107 = .ok (.invokespecial 60, 3) := by decide +kernel
theorem dX6_init_110 : decode cX6_init 110 = .ok (.putfield 61, 3) := by decide +kernel
theorem dX6_init_113 : decode cX6_init 113 = .ok (.iconst 0, 1) := by decide +kernel
theorem dX6_init_114 : decode cX6_init 114 = .ok (.istore_n 1, 1) := by decide +kernel
theorem dX6_init_115 : decode cX6_init 115 = .ok (.iload_n 1, 1) := by decide +kernel
theorem dX6_init_116 : decode cX6_init 116 = .ok (.aload_n 0, 1) := by decide +kernel
theorem dX6_init_117 : decode cX6_init 117 = .ok (.getfield 19, 3) := by decide +kernel
theorem dX6_init_120 : decode cX6_init 120 = .ok (.arraylength, 1) := by decide +kernel
theorem dX6_init_121 : decode cX6_init 121 = .ok (.if_icmp .ge 22, 3) := by decide +kernel
theorem dX6_init_124 : decode cX6_init 124 = .ok (.aload_n 0, 1) := by decide +kernel
theorem dX6_init_125 : decode cX6_init 125 = .ok (.getfield 19, 3) := by decide +kernel
theorem dX6_init_128 : decode cX6_init 128 = .ok (.iload_n 1, 1) := by decide +kernel
theorem dX6_init_129 : decode cX6_init 129 = .ok (.new 9, 3) := by decide +kernel
theorem dX6_init_132 : decode cX6_init 132 = .ok (.dup, 1) := by decide +kernel
theorem dX6_init_133 : decode cX6_init 133 = .ok (.invokespecial 11, 3) := by decide +kernel
theorem dX6_init_136 : decode cX6_init 136 = .ok (.aastore, 1) := by decide +kernel
theorem dX6_init_137 : decode cX6_init 137 = .ok (.iinc 1 1, 3) := by decide +kernel
theorem dX6_init_140 : decode cX6_init 140 = .ok (.goto (-25), 3) := by decide +kernel
theorem dX6_init_143 : decode cX6_init 143 = .ok (.iconst 0, 1) := by decide +kernel
theorem dX6_init_144 : decode cX6_init 144 = .ok (.istore_n 1, 1) := by decide +kernel
theorem dX6_init_145 : decode cX6_init 145 = .ok (.iload_n 1, 1) := by decide +kernel
theorem dX6_init_146 : decode cX6_init 146 = .ok (.aload_n 0, 1) := by decide +kernel
theorem dX6_init_147 : decode cX6_init 147 = .ok (.getfield 23, 3) := by decide +kernel
theorem dX6_init_150 : decode cX6_init 150 = .ok (.arraylength, 1) := by decide +kernel
theorem dX6_init_151 : decode cX6_init 151 = .ok (.if_icmp .ge 22, 3) := by decide +kernel
theorem dX6_init_154 : decode cX6_init 154 = .ok (.aload_n 0, 1) := by decide +kernel
theorem dX6_init_155 : decode cX6_init 155 = .ok (.getfield 23, 3) := by decide +kernel
theorem dX6_init_158 : decode cX6_init 158 = .ok (.iload_n 1, 1) := by decide +kernel
theorem dX6_init_159 : decode cX6_init 159 = .ok (.new 9, 3) := by decide +kernel
theorem dX6_init_162 : decode cX6_init 162 = .ok (.dup, 1) := by decide +kernel
theorem dX6_init_163 : decode cX6_init 163 = .ok (.invokespecial 11, 3) := by decide +kernel
theorem dX6_init_166 : decode cX6_init 166 = .ok (.aastore, 1) := by decide +kernel
theorem dX6_init_167 : decode cX6_init 167 = .ok (.iinc 1 1, 3) := by decide +kernel
theorem dX6_init_170 : decode cX6_init 170 = .ok (.goto (-25), 3) := by decide +kernel
theorem dX6_init_173 : decode cX6_init 173 = .ok (.return_, 1) := by decide +kernel
def iE_X6 (E0 : KE) (E2 : KE) (E4 : KE) (E10 : KE) (E12 : KE) (E14 : KE) (E16 : KE) (E18 : KE) (E20 : KE) (E22 : KE) (E24 : KE) (E26 : KE) (E28 : KE) (E30 : KE) (E32 : KE) (E34 : KE) (E36 : KE) (E38 : KE) (h0 a5 a6 a7 a8 : Nat) : KE := (E0.1, pick [(0, 1, fun _ => h0), (1, 1, fun _ => a5), (2, 1, fun _ => a6), (3, 1, fun _ => a7), (4, 1, fun _ => a8), (25, 9, E2.2.1), (34, 9, E4.2.1), (5, 2, E10.2.1), (7, 7, E12.2.1), (14, 7, E14.2.1), (21, 2, E16.2.1), (23, 2, E18.2.1), (43, 9, E20.2.1), (52, 9, E22.2.1), (61, 9, E24.2.1), (70, 9, E26.2.1), (79, 9, E28.2.1), (88, 9, E30.2.1), (97, 9, E32.2.1), (106, 9, E34.2.1), (115, 9, E36.2.1), (124, 9, E38.2.1)] E0.2.1, E0.2.2)
def iS_X6 (σ2 : Sto) (σ4 : Sto) (σ10 : Sto) (σ12 : Sto) (σ14 : Sto) (σ16 : Sto) (σ18 : Sto) (σ20 : Sto) (σ22 : Sto) (σ24 : Sto) (σ26 : Sto) (σ28 : Sto) (σ30 : Sto) (σ32 : Sto) (σ34 : Sto) (σ36 : Sto) (σ38 : Sto) : Sto := pick [(0, 1, fun _ => fun i => 0), (1, 1, fun _ => fun _ => 0), (2, 1, fun _ => fun _ => 0), (3, 1, fun _ => fun _ => 0), (4, 1, fun _ => fun _ => 0), (25, 9, σ2), (34, 9, σ4), (5, 2, σ10), (7, 7, σ12), (14, 7, σ14), (21, 2, σ16), (23, 2, σ18), (43, 9, σ20), (52, 9, σ22), (61, 9, σ24), (70, 9, σ26), (79, 9, σ28), (88, 9, σ30), (97, 9, σ32), (106, 9, σ34), (115, 9, σ36), (124, 9, σ38)] (fun _ _ => 0)
theorem pw_X6 : List.Pairwise (fun (x y : Nat × Nat) => x.1 + x.2 ≤ y.1 ∨ y.1 + y.2 ≤ x.1) [(0, 1), (1, 1), (2, 1), (3, 1), (4, 1), (25, 9), (34, 9), (5, 2), (7, 7), (14, 7), (21, 2), (23, 2), (43, 9), (52, 9), (61, 9), (70, 9), (79, 9), (88, 9), (97, 9), (106, 9), (115, 9), (124, 9)] := by decide +kernel
theorem mx_X6 : ∀ x ∈ ([(0, 1), (1, 1), (2, 1), (3, 1), (4, 1), (25, 9), (34, 9), (5, 2), (7, 7), (14, 7), (21, 2), (23, 2), (43, 9), (52, 9), (61, 9), (70, 9), (79, 9), (88, 9), (97, 9), (106, 9), (115, 9), (124, 9)] : List (Nat × Nat)), x.1 + x.2 ≤ 1000 := by decide +kernel
theorem iQ_X6 (E0 : KE) (E2 : KE) (E4 : KE) (E10 : KE) (E12 : KE) (E14 : KE) (E16 : KE) (E18 : KE) (E20 : KE) (E22 : KE) (E24 : KE) (E26 : KE) (E28 : KE) (E30 : KE) (E32 : KE) (E34 : KE) (E36 : KE) (E38 : KE) (h0 a5 a6 a7 a8 : Nat) : EQ E0 (iE_X6 E0 E2 E4 E10 E12 E14 E16 E18 E20 E22 E24 E26 E28 E30 E32 E34 E36 E38 h0 a5 a6 a7 a8) := ⟨rfl, rfl, fun k hk => pick_no _ (fun x hx => Nat.le_trans (mx_X6 x hx) hk)⟩
set_option maxRecDepth 100000 in
theorem iP_X6 (E0 : KE) (E2 : KE) (E4 : KE) (E10 : KE) (E12 : KE) (E14 : KE) (E16 : KE) (E18 : KE) (E20 : KE) (E22 : KE) (E24 : KE) (E26 : KE) (E28 : KE) (E30 : KE) (E32 : KE) (E34 : KE) (E36 : KE) (E38 : KE) (σ2 : Sto) (σ4 : Sto) (σ10 : Sto) (σ12 : Sto) (σ14 : Sto) (σ16 : Sto) (σ18 : Sto) (σ20 : Sto) (σ22 : Sto) (σ24 : Sto) (σ26 : Sto) (σ28 : Sto) (σ30 : Sto) (σ32 : Sto) (σ34 : Sto) (σ36 : Sto) (σ38 : Sto) (h0 a5 a6 a7 a8 : Nat) (hE2 : EQ E0 E2) (hE4 : EQ E0 E4) (hE10 : EQ E0 E10) (hE12 : EQ E0 E12) (hE14 : EQ E0 E14) (hE16 : EQ E0 E16) (hE18 : EQ E0 E18) (hE20 : EQ E0 E20) (hE22 : EQ E0 E22) (hE24 : EQ E0 E24) (hE26 : EQ E0 E26) (hE28 : EQ E0 E28) (hE30 : EQ E0 E30) (hE32 : EQ E0 E32) (hE34 : EQ E0 E34) (hE36 : EQ E0 E36) (hE38 : EQ E0 E38) : (([(h0, .inr (6, [.ref (E2.2.1 0), .ref (E4.2.1 0), .ref a5, .int 0, .int 0, .ref a6, .ref a7, .ref a8, .ref (E10.2.1 0), .ref (E12.2.1 0), .ref (E14.2.1 0), .ref (E16.2.1 0), .ref (E18.2.1 0)])), (a5, .inl (E0.2.2 3, 8, .inr (.inr (.inr (.inr (fun j => some ((iE_X6 E0 E2 E4 E10 E12 E14 E16 E18 E20 E22 E24 E26 E28 E30 E32 E34 E36 E38 h0 a5 a6 a7 a8).2.1 (43 + 9 * j)))))))), (a6, .inl (E0.2.2 3, 2, .inr (.inr (.inr (.inr (fun j => some ((iE_X6 E0 E2 E4 E10 E12 E14 E16 E18 E20 E22 E24 E26 E28 E30 E32 E34 E36 E38 h0 a5 a6 a7 a8).2.1 (115 + 9 * j)))))))), (a7, .inl (E0.2.2 1, 2, .inl (fun _ => 0))), (a8, .inl (E0.2.2 0, 6, .inl (fun _ => 0)))] : va_W) ++ (((((((((((((((((kwl E2 shX5 σ2) ++ kwl E4 shX5 σ4) ++ kwl E10 shX4 σ10) ++ kwl E12 shX3 σ12) ++ kwl E14 shX3 σ14) ++ kwl E16 shX0 σ16) ++ kwl E18 shX2 σ18) ++ kwl E20 shX5 σ20) ++ kwl E22 shX5 σ22) ++ kwl E24 shX5 σ24) ++ kwl E26 shX5 σ26) ++ kwl E28 shX5 σ28) ++ kwl E30 shX5 σ30) ++ kwl E32 shX5 σ32) ++ kwl E34 shX5 σ34) ++ kwl E36 shX5 σ36) ++ kwl E38 shX5 σ38)).Perm (kwl (iE_X6 E0 E2 E4 E10 E12 E14 E16 E18 E20 E22 E24 E26 E28 E30 E32 E34 E36 E38 h0 a5 a6 a7 a8) shBo (iS_X6 σ2 σ4 σ10 σ12 σ14 σ16 σ18 σ20 σ22 σ24 σ26 σ28 σ30 σ32 σ34 σ36 σ38)) := by
  have e0 : ([(h0, .inr (6, [.ref (E2.2.1 0), .ref (E4.2.1 0), .ref a5, .int 0, .int 0, .ref a6, .ref a7, .ref a8, .ref (E10.2.1 0), .ref (E12.2.1 0), .ref (E14.2.1 0), .ref (E16.2.1 0), .ref (E18.2.1 0)])), (a5, .inl (E0.2.2 3, 8, .inr (.inr (.inr (.inr (fun j => some ((iE_X6 E0 E2 E4 E10 E12 E14 E16 E18 E20 E22 E24 E26 E28 E30 E32 E34 E36 E38 h0 a5 a6 a7 a8).2.1 (43 + 9 * j)))))))), (a6, .inl (E0.2.2 3, 2, .inr (.inr (.inr (.inr (fun j => some ((iE_X6 E0 E2 E4 E10 E12 E14 E16 E18 E20 E22 E24 E26 E28 E30 E32 E34 E36 E38 h0 a5 a6 a7 a8).2.1 (115 + 9 * j)))))))), (a7, .inl (E0.2.2 1, 2, .inl (fun _ => 0))), (a8, .inl (E0.2.2 0, 6, .inl (fun _ => 0)))] : va_W) = [0, 1, 2, 3, 4].map (ent (iE_X6 E0 E2 E4 E10 E12 E14 E16 E18 E20 E22 E24 E26 E28 E30 E32 E34 E36 E38 h0 a5 a6 a7 a8) shBo (iS_X6 σ2 σ4 σ10 σ12 σ14 σ16 σ18 σ20 σ22 σ24 σ26 σ28 σ30 σ32 σ34 σ36 σ38)) := rfl
  have e1 : kwl E2 shX5 σ2 = ((List.range 9).map (fun j => 25 + j)).map (ent (iE_X6 E0 E2 E4 E10 E12 E14 E16 E18 E20 E22 E24 E26 E28 E30 E32 E34 E36 E38 h0 a5 a6 a7 a8) shBo (iS_X6 σ2 σ4 σ10 σ12 σ14 σ16 σ18 σ20 σ22 σ24 σ26 σ28 σ30 σ32 σ34 σ36 σ38)) := kwl_blk 25 9 kp_X5 hE2.2.1 (fun j hj => pick_at _ 5 25 9 _ rfl pw_X6 hj) (fun j hj => pick_at _ 5 25 9 _ rfl pw_X6 hj) (by decide +kernel) (by decide +kernel)
  have e2 : kwl E4 shX5 σ4 = ((List.range 9).map (fun j => 34 + j)).map (ent (iE_X6 E0 E2 E4 E10 E12 E14 E16 E18 E20 E22 E24 E26 E28 E30 E32 E34 E36 E38 h0 a5 a6 a7 a8) shBo (iS_X6 σ2 σ4 σ10 σ12 σ14 σ16 σ18 σ20 σ22 σ24 σ26 σ28 σ30 σ32 σ34 σ36 σ38)) := kwl_blk 34 9 kp_X5 hE4.2.1 (fun j hj => pick_at _ 6 34 9 _ rfl pw_X6 hj) (fun j hj => pick_at _ 6 34 9 _ rfl pw_X6 hj) (by decide +kernel) (by decide +kernel)
  have e3 : kwl E10 shX4 σ10 = ((List.range 2).map (fun j => 5 + j)).map (ent (iE_X6 E0 E2 E4 E10 E12 E14 E16 E18 E20 E22 E24 E26 E28 E30 E32 E34 E36 E38 h0 a5 a6 a7 a8) shBo (iS_X6 σ2 σ4 σ10 σ12 σ14 σ16 σ18 σ20 σ22 σ24 σ26 σ28 σ30 σ32 σ34 σ36 σ38)) := kwl_blk 5 2 kp_X4 hE10.2.1 (fun j hj => pick_at _ 7 5 2 _ rfl pw_X6 hj) (fun j hj => pick_at _ 7 5 2 _ rfl pw_X6 hj) (by decide +kernel) (by decide +kernel)
  have e4 : kwl E12 shX3 σ12 = ((List.range 7).map (fun j => 7 + j)).map (ent (iE_X6 E0 E2 E4 E10 E12 E14 E16 E18 E20 E22 E24 E26 E28 E30 E32 E34 E36 E38 h0 a5 a6 a7 a8) shBo (iS_X6 σ2 σ4 σ10 σ12 σ14 σ16 σ18 σ20 σ22 σ24 σ26 σ28 σ30 σ32 σ34 σ36 σ38)) := kwl_blk 7 7 kp_X3 hE12.2.1 (fun j hj => pick_at _ 8 7 7 _ rfl pw_X6 hj) (fun j hj => pick_at _ 8 7 7 _ rfl pw_X6 hj) (by decide +kernel) (by decide +kernel)
  have e5 : kwl E14 shX3 σ14 = ((List.range 7).map (fun j => 14 + j)).map (ent (iE_X6 E0 E2 E4 E10 E12 E14 E16 E18 E20 E22 E24 E26 E28 E30 E32 E34 E36 E38 h0 a5 a6 a7 a8) shBo (iS_X6 σ2 σ4 σ10 σ12 σ14 σ16 σ18 σ20 σ22 σ24 σ26 σ28 σ30 σ32 σ34 σ36 σ38)) := kwl_blk 14 7 kp_X3 hE14.2.1 (fun j hj => pick_at _ 9 14 7 _ rfl pw_X6 hj) (fun j hj => pick_at _ 9 14 7 _ rfl pw_X6 hj) (by decide +kernel) (by decide +kernel)
  have e6 : kwl E16 shX0 σ16 = ((List.range 2).map (fun j => 21 + j)).map (ent (iE_X6 E0 E2 E4 E10 E12 E14 E16 E18 E20 E22 E24 E26 E28 E30 E32 E34 E36 E38 h0 a5 a6 a7 a8) shBo (iS_X6 σ2 σ4 σ10 σ12 σ14 σ16 σ18 σ20 σ22 σ24 σ26 σ28 σ30 σ32 σ34 σ36 σ38)) := kwl_blk 21 2 kp_X0 hE16.2.1 (fun j hj => pick_at _ 10 21 2 _ rfl pw_X6 hj) (fun j hj => pick_at _ 10 21 2 _ rfl pw_X6 hj) (by decide +kernel) (by decide +kernel)
  have e7 : kwl E18 shX2 σ18 = ((List.range 2).map (fun j => 23 + j)).map (ent (iE_X6 E0 E2 E4 E10 E12 E14 E16 E18 E20 E22 E24 E26 E28 E30 E32 E34 E36 E38 h0 a5 a6 a7 a8) shBo (iS_X6 σ2 σ4 σ10 σ12 σ14 σ16 σ18 σ20 σ22 σ24 σ26 σ28 σ30 σ32 σ34 σ36 σ38)) := kwl_blk 23 2 kp_X2 hE18.2.1 (fun j hj => pick_at _ 11 23 2 _ rfl pw_X6 hj) (fun j hj => pick_at _ 11 23 2 _ rfl pw_X6 hj) (by decide +kernel) (by decide +kernel)
  have e8 : kwl E20 shX5 σ20 = ((List.range 9).map (fun j => 43 + j)).map (ent (iE_X6 E0 E2 E4 E10 E12 E14 E16 E18 E20 E22 E24 E26 E28 E30 E32 E34 E36 E38 h0 a5 a6 a7 a8) shBo (iS_X6 σ2 σ4 σ10 σ12 σ14 σ16 σ18 σ20 σ22 σ24 σ26 σ28 σ30 σ32 σ34 σ36 σ38)) := kwl_blk 43 9 kp_X5 hE20.2.1 (fun j hj => pick_at _ 12 43 9 _ rfl pw_X6 hj) (fun j hj => pick_at _ 12 43 9 _ rfl pw_X6 hj) (by decide +kernel) (by decide +kernel)
  have e9 : kwl E22 shX5 σ22 = ((List.range 9).map (fun j => 52 + j)).map (ent (iE_X6 E0 E2 E4 E10 E12 E14 E16 E18 E20 E22 E24 E26 E28 E30 E32 E34 E36 E38 h0 a5 a6 a7 a8) shBo (iS_X6 σ2 σ4 σ10 σ12 σ14 σ16 σ18 σ20 σ22 σ24 σ26 σ28 σ30 σ32 σ34 σ36 σ38)) := kwl_blk 52 9 kp_X5 hE22.2.1 (fun j hj => pick_at _ 13 52 9 _ rfl pw_X6 hj) (fun j hj => pick_at _ 13 52 9 _ rfl pw_X6 hj) (by decide +kernel) (by decide +kernel)
  have e10 : kwl E24 shX5 σ24 = ((List.range 9).map (fun j => 61 + j)).map (ent (iE_X6 E0 E2 E4 E10 E12 E14 E16 E18 E20 E22 E24 E26 E28 E30 E32 E34 E36 E38 h0 a5 a6 a7 a8) shBo (iS_X6 σ2 σ4 σ10 σ12 σ14 σ16 σ18 σ20 σ22 σ24 σ26 σ28 σ30 σ32 σ34 σ36 σ38)) := kwl_blk 61 9 kp_X5 hE24.2.1 (fun j hj => pick_at _ 14 61 9 _ rfl pw_X6 hj) (fun j hj => pick_at _ 14 61 9 _ rfl pw_X6 hj) (by decide +kernel) (by decide +kernel)
  have e11 : kwl E26 shX5 σ26 = ((List.range 9).map (fun j => 70 + j)).map (ent (iE_X6 E0 E2 E4 E10 E12 E14 E16 E18 E20 E22 E24 E26 E28 E30 E32 E34 E36 E38 h0 a5 a6 a7 a8) shBo (iS_X6 σ2 σ4 σ10 σ12 σ14 σ16 σ18 σ20 σ22 σ24 σ26 σ28 σ30 σ32 σ34 σ36 σ38)) := kwl_blk 70 9 kp_X5 hE26.2.1 (fun j hj => pick_at _ 15 70 9 _ rfl pw_X6 hj) (fun j hj => pick_at _ 15 70 9 _ rfl pw_X6 hj) (by decide +kernel) (by decide +kernel)
  have e12 : kwl E28 shX5 σ28 = ((List.range 9).map (fun j => 79 + j)).map (ent (iE_X6 E0 E2 E4 E10 E12 E14 E16 E18 E20 E22 E24 E26 E28 E30 E32 E34 E36 E38 h0 a5 a6 a7 a8) shBo (iS_X6 σ2 σ4 σ10 σ12 σ14 σ16 σ18 σ20 σ22 σ24 σ26 σ28 σ30 σ32 σ34 σ36 σ38)) := kwl_blk 79 9 kp_X5 hE28.2.1 (fun j hj => pick_at _ 16 79 9 _ rfl pw_X6 hj) (fun j hj => pick_at _ 16 79 9 _ rfl pw_X6 hj) (by decide +kernel) (by decide +kernel)
  have e13 : kwl E30 shX5 σ30 = ((List.range 9).map (fun j => 88 + j)).map (ent (iE_X6 E0 E2 E4 E10 E12 E14 E16 E18 E20 E22 E24 E26 E28 E30 E32 E34 E36 E38 h0 a5 a6 a7 a8) shBo (iS_X6 σ2 σ4 σ10 σ12 σ14 σ16 σ18 σ20 σ22 σ24 σ26 σ28 σ30 σ32 σ34 σ36 σ38)) := kwl_blk 88 9 kp_X5 hE30.2.1 (fun j hj => pick_at _ 17 88 9 _ rfl pw_X6 hj) (fun j hj => pick_at _ 17 88 9 _ rfl pw_X6 hj) (by decide +kernel) (by decide +kernel)
  have e14 : kwl E32 shX5 σ32 = ((List.range 9).map (fun j => 97 + j)).map (ent (iE_X6 E0 E2 E4 E10 E12 E14 E16 E18 E20 E22 E24 E26 E28 E30 E32 E34 E36 E38 h0 a5 a6 a7 a8) shBo (iS_X6 σ2 σ4 σ10 σ12 σ14 σ16 σ18 σ20 σ22 σ24 σ26 σ28 σ30 σ32 σ34 σ36 σ38)) := kwl_blk 97 9 kp_X5 hE32.2.1 (fun j hj => pick_at _ 18 97 9 _ rfl pw_X6 hj) (fun j hj => pick_at _ 18 97 9 _ rfl pw_X6 hj) (by decide +kernel) (by decide +kernel)
  have e15 : kwl E34 shX5 σ34 = ((List.range 9).map (fun j => 106 + j)).map (ent (iE_X6 E0 E2 E4 E10 E12 E14 E16 E18 E20 E22 E24 E26 E28 E30 E32 E34 E36 E38 h0 a5 a6 a7 a8) shBo (iS_X6 σ2 σ4 σ10 σ12 σ14 σ16 σ18 σ20 σ22 σ24 σ26 σ28 σ30 σ32 σ34 σ36 σ38)) := kwl_blk 106 9 kp_X5 hE34.2.1 (fun j hj => pick_at _ 19 106 9 _ rfl pw_X6 hj) (fun j hj => pick_at _ 19 106 9 _ rfl pw_X6 hj) (by decide +kernel) (by decide +kernel)
  have e16 : kwl E36 shX5 σ36 = ((List.range 9).map (fun j => 115 + j)).map (ent (iE_X6 E0 E2 E4 E10 E12 E14 E16 E18 E20 E22 E24 E26 E28 E30 E32 E34 E36 E38 h0 a5 a6 a7 a8) shBo (iS_X6 σ2 σ4 σ10 σ12 σ14 σ16 σ18 σ20 σ22 σ24 σ26 σ28 σ30 σ32 σ34 σ36 σ38)) := kwl_blk 115 9 kp_X5 hE36.2.1 (fun j hj => pick_at _ 20 115 9 _ rfl pw_X6 hj) (fun j hj => pick_at _ 20 115 9 _ rfl pw_X6 hj) (by decide +kernel) (by decide +kernel)
  have e17 : kwl E38 shX5 σ38 = ((List.range 9).map (fun j => 124 + j)).map (ent (iE_X6 E0 E2 E4 E10 E12 E14 E16 E18 E20 E22 E24 E26 E28 E30 E32 E34 E36 E38 h0 a5 a6 a7 a8) shBo (iS_X6 σ2 σ4 σ10 σ12 σ14 σ16 σ18 σ20 σ22 σ24 σ26 σ28 σ30 σ32 σ34 σ36 σ38)) := kwl_blk 124 9 kp_X5 hE38.2.1 (fun j hj => pick_at _ 21 124 9 _ rfl pw_X6 hj) (fun j hj => pick_at _ 21 124 9 _ rfl pw_X6 hj) (by decide +kernel) (by decide +kernel)
  rw [e0, e1, e2, e3, e4, e5, e6, e7, e8, e9, e10, e11, e12, e13, e14, e15, e16, e17, ← List.map_append, ← List.map_append, ← List.map_append, ← List.map_append, ← List.map_append, ← List.map_append, ← List.map_append, ← List.map_append, ← List.map_append, ← List.map_append, ← List.map_append, ← List.map_append, ← List.map_append, ← List.map_append, ← List.map_append, ← List.map_append, ← List.map_append]
  unfold kwl
  exact List.Perm.map _ (by decide +kernel)
abbrev mI_X6 : KM := (RX6, cX6_init, 2, none, { frames := 5, cells := 132, slots := 10595, locals := 108 }, 132, 10595)
theorem kI_X6 : KMI yX6_init mI_X6 := ⟨rfl, ⟨by decide +kernel, by decide +kernel, by decide +kernel⟩, ⟨rfl, rfl⟩, kg_in 75 (by decide +kernel) (by decide +kernel), kg_in 47 (by decide +kernel) (by decide +kernel), kg_in 76 (by decide +kernel) (by decide +kernel)⟩
set_option maxHeartbeats 4000000 in
set_option maxRecDepth 100000 in
theorem iC_X6 (l : Launch) (hst : l.stackTraces = false) (sh0 : KSh) (hz0 : ∀ q, 1000 ≤ q → ∃ n, sh0 q = .inr (2, n)) : IC l sh0 yX6_init mI_X6 6 (ifs tyX6 13) shBo 0 (fun σ => BX σ 25 (mNew 60 3) ∧ (σ 0 3 = 0 ∧ σ 0 4 = 0) ∧ (∀ i, σ 3 i = 0) ∧ (∀ i, σ 4 i = 0) ∧ (σ 5 1 = 0 ∧ σ 5 2 = 0 ∧ σ 5 3 = -1) ∧ σ 23 1 = 0) := by
  refine ic_of hst (by decide +kernel) rfl rfl (by decide) ?_
  intro E0 h0 A p e s m below meth c Q C hin hret
  refine ii_re (ws' := ([(h0, .inr (6, [.null, .null, .null, .int 0, .int 0, .null, .null, .null, .null, .null, .null, .null, .null]))] : va_W)) rfl ?_
  refine ii_aload_n (pc := 0) C 0 dX6_init_0 rfl rfl ?_
  refine ii_objInit (pc := 1) C dX6_init_1 lI_X6_3 io_1 io_2 (by decide) (by decide) ?_
  refine ii_aload_n (pc := 4) C 0 dX6_init_4 rfl rfl ?_
  refine ii_new (pc := 5) (ci := 5) tyX5 tyX5_ok C dX6_init_5 rfl cI_X6_9 nI_X5 tI_X5 (show _ ∧ _ from ⟨Nat.le_of_ble_eq_true rfl, Nat.le_of_ble_eq_true rfl⟩) (fun a1 => ?_)
  refine ii_dup (pc := 8) C dX6_init_8 ?_
  refine ii_init (pc := 9) (M := mI_X5) C (iC_X5 l hst sh0 hz0) dX6_init_9 kI_X5 lI_X6_11 (by decide) (show _ ≤ 8 from Nat.le_of_ble_eq_true rfl) (show _ ∧ _ from ⟨Nat.le_of_ble_eq_true rfl, Nat.le_of_ble_eq_true rfl⟩) (fun E2 σ2 hE2 hz2 hF2 => ?_)
  subst hz2
  refine ii_putF (pc := 12) (i := 0) 0 tyX6 tyX6_ok nmX6 C hin dX6_init_12 rfl rfl (by decide) rfl fI_X6_12 rfl rfl rfl rfl rfl ?_
  refine ii_re (ws' := ([(h0, .inr (6, [.ref (E2.2.1 0), .null, .null, .int 0, .int 0, .null, .null, .null, .null, .null, .null, .null, .null]))] : va_W) ++ (kwl E2 shX5 σ2)) rfl ?_
  refine ii_aload_n (pc := 15) C 0 dX6_init_15 rfl rfl ?_
  refine ii_new (pc := 16) (ci := 5) tyX5 tyX5_ok C dX6_init_16 rfl cI_X6_9 nI_X5 tI_X5 (show _ ∧ _ from ⟨Nat.le_of_ble_eq_true rfl, Nat.le_of_ble_eq_true rfl⟩) (fun a3 => ?_)
  refine ii_dup (pc := 19) C dX6_init_19 ?_
  refine ii_init (pc := 20) (M := mI_X5) C (iC_X5 l hst sh0 hz0) dX6_init_20 kI_X5 lI_X6_11 (by decide) (show _ ≤ 8 from Nat.le_of_ble_eq_true rfl) (show _ ∧ _ from ⟨Nat.le_of_ble_eq_true rfl, Nat.le_of_ble_eq_true rfl⟩) (fun E4 σ4 hE4 hz4 hF4 => ?_)
  subst hz4
  refine ii_re (List.append_assoc _ _ _) ?_
  refine ii_putF (pc := 23) (i := 1) 0 tyX6 tyX6_ok nmX6 C hin dX6_init_23 rfl rfl (by decide) rfl fI_X6_16 rfl rfl rfl rfl rfl ?_
  refine ii_re (ws' := ([(h0, .inr (6, [.ref (E2.2.1 0), .ref (E4.2.1 0), .null, .int 0, .int 0, .null, .null, .null, .null, .null, .null, .null, .null]))] : va_W) ++ ((kwl E2 shX5 σ2) ++ kwl E4 shX5 σ4)) rfl ?_
  refine ii_aload_n (pc := 26) C 0 dX6_init_26 rfl rfl ?_
  refine ii_bipush (pc := 27) (v := 8) C dX6_init_27 (by decide) ?_
  refine ii_newQ (pc := 29) (N := 8) C dX6_init_29 cI_X6_9 (by decide) (by decide) (Nat.le_of_ble_eq_true rfl) (show _ ∧ _ from ⟨Nat.le_of_ble_eq_true rfl, Nat.le_of_ble_eq_true rfl⟩) (fun a5 => ?_)
  refine ii_pull ?_
  refine ii_re (ws' := ([(h0, .inr (6, [.ref (E2.2.1 0), .ref (E4.2.1 0), .null, .int 0, .int 0, .null, .null, .null, .null, .null, .null, .null, .null])), (a5, .inl (E0.2.2 3, 8, .inr (.inr (.inr (.inr (fun _ => none))))))] : va_W) ++ ((kwl E2 shX5 σ2) ++ kwl E4 shX5 σ4)) rfl ?_
  refine ii_putF (pc := 32) (i := 2) 0 tyX6 tyX6_ok nmX6 C hin dX6_init_32 rfl rfl (by decide) rfl fI_X6_19 rfl rfl rfl rfl rfl ?_
  refine ii_re (ws' := ([(h0, .inr (6, [.ref (E2.2.1 0), .ref (E4.2.1 0), .ref a5, .int 0, .int 0, .null, .null, .null, .null, .null, .null, .null, .null])), (a5, .inl (E0.2.2 3, 8, .inr (.inr (.inr (.inr (fun _ => none))))))] : va_W) ++ ((kwl E2 shX5 σ2) ++ kwl E4 shX5 σ4)) rfl ?_
  refine ii_aload_n (pc := 35) C 0 dX6_init_35 rfl rfl ?_
  refine ii_iconst (pc := 36) (v := 2) C dX6_init_36 (by decide) ?_
  refine ii_newQ (pc := 37) (N := 2) C dX6_init_37 cI_X6_9 (by decide) (by decide) (Nat.le_of_ble_eq_true rfl) (show _ ∧ _ from ⟨Nat.le_of_ble_eq_true rfl, Nat.le_of_ble_eq_true rfl⟩) (fun a6 => ?_)
  refine ii_pull ?_
  refine ii_re (ws' := ([(h0, .inr (6, [.ref (E2.2.1 0), .ref (E4.2.1 0), .ref a5, .int 0, .int 0, .null, .null, .null, .null, .null, .null, .null, .null])), (a5, .inl (E0.2.2 3, 8, .inr (.inr (.inr (.inr (fun _ => none)))))), (a6, .inl (E0.2.2 3, 2, .inr (.inr (.inr (.inr (fun _ => none))))))] : va_W) ++ ((kwl E2 shX5 σ2) ++ kwl E4 shX5 σ4)) rfl ?_
  refine ii_putF (pc := 40) (i := 5) 0 tyX6 tyX6_ok nmX6 C hin dX6_init_40 rfl rfl (by decide) rfl fI_X6_23 rfl rfl rfl rfl rfl ?_
  refine ii_re (ws' := ([(h0, .inr (6, [.ref (E2.2.1 0), .ref (E4.2.1 0), .ref a5, .int 0, .int 0, .ref a6, .null, .null, .null, .null, .null, .null, .null])), (a5, .inl (E0.2.2 3, 8, .inr (.inr (.inr (.inr (fun _ => none)))))), (a6, .inl (E0.2.2 3, 2, .inr (.inr (.inr (.inr (fun _ => none))))))] : va_W) ++ ((kwl E2 shX5 σ2) ++ kwl E4 shX5 σ4)) rfl ?_
  refine ii_aload_n (pc := 43) C 0 dX6_init_43 rfl rfl ?_
  refine ii_iconst (pc := 44) (v := 2) C dX6_init_44 (by decide) ?_
  refine ii_newZ (pc := 45) (N := 2) C dX6_init_45 io_z (by decide) (by decide) (Nat.le_of_ble_eq_true rfl) (show _ ∧ _ from ⟨Nat.le_of_ble_eq_true rfl, Nat.le_of_ble_eq_true rfl⟩) (fun a7 => ?_)
  refine ii_pull ?_
  refine ii_re (ws' := ([(h0, .inr (6, [.ref (E2.2.1 0), .ref (E4.2.1 0), .ref a5, .int 0, .int 0, .ref a6, .null, .null, .null, .null, .null, .null, .null])), (a5, .inl (E0.2.2 3, 8, .inr (.inr (.inr (.inr (fun _ => none)))))), (a6, .inl (E0.2.2 3, 2, .inr (.inr (.inr (.inr (fun _ => none)))))), (a7, .inl (E0.2.2 1, 2, .inl (fun _ => 0)))] : va_W) ++ ((kwl E2 shX5 σ2) ++ kwl E4 shX5 σ4)) rfl ?_
  refine ii_putF (pc := 47) (i := 6) 0 tyX6 tyX6_ok nmX6 C hin dX6_init_47 rfl rfl (by decide) rfl fI_X6_26 rfl rfl rfl rfl rfl ?_
  refine ii_re (ws' := ([(h0, .inr (6, [.ref (E2.2.1 0), .ref (E4.2.1 0), .ref a5, .int 0, .int 0, .ref a6, .ref a7, .null, .null, .null, .null, .null, .null])), (a5, .inl (E0.2.2 3, 8, .inr (.inr (.inr (.inr (fun _ => none)))))), (a6, .inl (E0.2.2 3, 2, .inr (.inr (.inr (.inr (fun _ => none)))))), (a7, .inl (E0.2.2 1, 2, .inl (fun _ => 0)))] : va_W) ++ ((kwl E2 shX5 σ2) ++ kwl E4 shX5 σ4)) rfl ?_
  refine ii_aload_n (pc := 50) C 0 dX6_init_50 rfl rfl ?_
  refine ii_bipush (pc := 51) (v := 6) C dX6_init_51 (by decide) ?_
  refine ii_newI (pc := 53) (N := 6) C dX6_init_53 io_i (by decide) (by decide) (Nat.le_of_ble_eq_true rfl) (show _ ∧ _ from ⟨Nat.le_of_ble_eq_true rfl, Nat.le_of_ble_eq_true rfl⟩) (fun a8 => ?_)
  refine ii_pull ?_
  refine ii_re (ws' := ([(h0, .inr (6, [.ref (E2.2.1 0), .ref (E4.2.1 0), .ref a5, .int 0, .int 0, .ref a6, .ref a7, .null, .null, .null, .null, .null, .null])), (a5, .inl (E0.2.2 3, 8, .inr (.inr (.inr (.inr (fun _ => none)))))), (a6, .inl (E0.2.2 3, 2, .inr (.inr (.inr (.inr (fun _ => none)))))), (a7, .inl (E0.2.2 1, 2, .inl (fun _ => 0))), (a8, .inl (E0.2.2 0, 6, .inl (fun _ => 0)))] : va_W) ++ ((kwl E2 shX5 σ2) ++ kwl E4 shX5 σ4)) rfl ?_
  refine ii_putF (pc := 55) (i := 7) 0 tyX6 tyX6_ok nmX6 C hin dX6_init_55 rfl rfl (by decide) rfl fI_X6_30 rfl rfl rfl rfl rfl ?_
  refine ii_re (ws' := ([(h0, .inr (6, [.ref (E2.2.1 0), .ref (E4.2.1 0), .ref a5, .int 0, .int 0, .ref a6, .ref a7, .ref a8, .null, .null, .null, .null, .null])), (a5, .inl (E0.2.2 3, 8, .inr (.inr (.inr (.inr (fun _ => none)))))), (a6, .inl (E0.2.2 3, 2, .inr (.inr (.inr (.inr (fun _ => none)))))), (a7, .inl (E0.2.2 1, 2, .inl (fun _ => 0))), (a8, .inl (E0.2.2 0, 6, .inl (fun _ => 0)))] : va_W) ++ ((kwl E2 shX5 σ2) ++ kwl E4 shX5 σ4)) rfl ?_
  refine ii_aload_n (pc := 58) C 0 dX6_init_58 rfl rfl ?_
  refine ii_new (pc := 59) (ci := 4) tyX4 tyX4_ok C dX6_init_59 rfl cI_X6_34 nI_X4 tI_X4 (show _ ∧ _ from ⟨Nat.le_of_ble_eq_true rfl, Nat.le_of_ble_eq_true rfl⟩) (fun a9 => ?_)
  refine ii_dup (pc := 62) C dX6_init_62 ?_
  refine ii_initN (pc := 63) (M := mI_X4) C (iC_X4 l hst sh0 hz0) dX6_init_63 kI_X4 lI_X6_36 (by decide) (show _ ≤ 8 from Nat.le_of_ble_eq_true rfl) (show _ ∧ _ from ⟨Nat.le_of_ble_eq_true rfl, Nat.le_of_ble_eq_true rfl⟩) (fun E10 σ10 hE10 hz10 hF10 => ?_)
  subst hz10
  refine ii_re (List.append_assoc _ _ _) ?_
  refine ii_putF (pc := 66) (i := 8) 0 tyX6 tyX6_ok nmX6 C hin dX6_init_66 rfl rfl (by decide) rfl fI_X6_37 rfl rfl rfl rfl rfl ?_
  refine ii_re (ws' := ([(h0, .inr (6, [.ref (E2.2.1 0), .ref (E4.2.1 0), .ref a5, .int 0, .int 0, .ref a6, .ref a7, .ref a8, .ref (E10.2.1 0), .null, .null, .null, .null])), (a5, .inl (E0.2.2 3, 8, .inr (.inr (.inr (.inr (fun _ => none)))))), (a6, .inl (E0.2.2 3, 2, .inr (.inr (.inr (.inr (fun _ => none)))))), (a7, .inl (E0.2.2 1, 2, .inl (fun _ => 0))), (a8, .inl (E0.2.2 0, 6, .inl (fun _ => 0)))] : va_W) ++ (((kwl E2 shX5 σ2) ++ kwl E4 shX5 σ4) ++ kwl E10 shX4 σ10)) rfl ?_
  refine ii_aload_n (pc := 69) C 0 dX6_init_69 rfl rfl ?_
  refine ii_new (pc := 70) (ci := 3) tyX3 tyX3_ok C dX6_init_70 rfl cI_X6_41 nI_X3 tI_X3 (show _ ∧ _ from ⟨Nat.le_of_ble_eq_true rfl, Nat.le_of_ble_eq_true rfl⟩) (fun a11 => ?_)
  refine ii_dup (pc := 73) C dX6_init_73 ?_
  refine ii_initN (pc := 74) (M := mI_X3) C (iC_X3 l hst sh0 hz0) dX6_init_74 kI_X3 lI_X6_43 (by decide) (show _ ≤ 8 from Nat.le_of_ble_eq_true rfl) (show _ ∧ _ from ⟨Nat.le_of_ble_eq_true rfl, Nat.le_of_ble_eq_true rfl⟩) (fun E12 σ12 hE12 hz12 hF12 => ?_)
  subst hz12
  refine ii_re (List.append_assoc _ _ _) ?_
  refine ii_putF (pc := 77) (i := 9) 0 tyX6 tyX6_ok nmX6 C hin dX6_init_77 rfl rfl (by decide) rfl fI_X6_44 rfl rfl rfl rfl rfl ?_
  refine ii_re (ws' := ([(h0, .inr (6, [.ref (E2.2.1 0), .ref (E4.2.1 0), .ref a5, .int 0, .int 0, .ref a6, .ref a7, .ref a8, .ref (E10.2.1 0), .ref (E12.2.1 0), .null, .null, .null])), (a5, .inl (E0.2.2 3, 8, .inr (.inr (.inr (.inr (fun _ => none)))))), (a6, .inl (E0.2.2 3, 2, .inr (.inr (.inr (.inr (fun _ => none)))))), (a7, .inl (E0.2.2 1, 2, .inl (fun _ => 0))), (a8, .inl (E0.2.2 0, 6, .inl (fun _ => 0)))] : va_W) ++ ((((kwl E2 shX5 σ2) ++ kwl E4 shX5 σ4) ++ kwl E10 shX4 σ10) ++ kwl E12 shX3 σ12)) rfl ?_
  refine ii_aload_n (pc := 80) C 0 dX6_init_80 rfl rfl ?_
  refine ii_new (pc := 81) (ci := 3) tyX3 tyX3_ok C dX6_init_81 rfl cI_X6_41 nI_X3 tI_X3 (show _ ∧ _ from ⟨Nat.le_of_ble_eq_true rfl, Nat.le_of_ble_eq_true rfl⟩) (fun a13 => ?_)
  refine ii_dup (pc := 84) C dX6_init_84 ?_
  refine ii_initN (pc := 85) (M := mI_X3) C (iC_X3 l hst sh0 hz0) dX6_init_85 kI_X3 lI_X6_43 (by decide) (show _ ≤ 8 from Nat.le_of_ble_eq_true rfl) (show _ ∧ _ from ⟨Nat.le_of_ble_eq_true rfl, Nat.le_of_ble_eq_true rfl⟩) (fun E14 σ14 hE14 hz14 hF14 => ?_)
  subst hz14
  refine ii_re (List.append_assoc _ _ _) ?_
  refine ii_putF (pc := 88) (i := 10) 0 tyX6 tyX6_ok nmX6 C hin dX6_init_88 rfl rfl (by decide) rfl fI_X6_48 rfl rfl rfl rfl rfl ?_
  refine ii_re (ws' := ([(h0, .inr (6, [.ref (E2.2.1 0), .ref (E4.2.1 0), .ref a5, .int 0, .int 0, .ref a6, .ref a7, .ref a8, .ref (E10.2.1 0), .ref (E12.2.1 0), .ref (E14.2.1 0), .null, .null])), (a5, .inl (E0.2.2 3, 8, .inr (.inr (.inr (.inr (fun _ => none)))))), (a6, .inl (E0.2.2 3, 2, .inr (.inr (.inr (.inr (fun _ => none)))))), (a7, .inl (E0.2.2 1, 2, .inl (fun _ => 0))), (a8, .inl (E0.2.2 0, 6, .inl (fun _ => 0)))] : va_W) ++ (((((kwl E2 shX5 σ2) ++ kwl E4 shX5 σ4) ++ kwl E10 shX4 σ10) ++ kwl E12 shX3 σ12) ++ kwl E14 shX3 σ14)) rfl ?_
  refine ii_aload_n (pc := 91) C 0 dX6_init_91 rfl rfl ?_
  refine ii_new (pc := 92) (ci := 0) tyX0 tyX0_ok C dX6_init_92 rfl cI_X6_51 nI_X0 tI_X0 (show _ ∧ _ from ⟨Nat.le_of_ble_eq_true rfl, Nat.le_of_ble_eq_true rfl⟩) (fun a15 => ?_)
  refine ii_dup (pc := 95) C dX6_init_95 ?_
  refine ii_initN (pc := 96) (M := mI_X0) C (iC_X0 l hst sh0 hz0) dX6_init_96 kI_X0 lI_X6_53 (by decide) (show _ ≤ 8 from Nat.le_of_ble_eq_true rfl) (show _ ∧ _ from ⟨Nat.le_of_ble_eq_true rfl, Nat.le_of_ble_eq_true rfl⟩) (fun E16 σ16 hE16 hz16 hF16 => ?_)
  subst hz16
  refine ii_re (List.append_assoc _ _ _) ?_
  refine ii_putF (pc := 99) (i := 11) 0 tyX6 tyX6_ok nmX6 C hin dX6_init_99 rfl rfl (by decide) rfl fI_X6_54 rfl rfl rfl rfl rfl ?_
  refine ii_re (ws' := ([(h0, .inr (6, [.ref (E2.2.1 0), .ref (E4.2.1 0), .ref a5, .int 0, .int 0, .ref a6, .ref a7, .ref a8, .ref (E10.2.1 0), .ref (E12.2.1 0), .ref (E14.2.1 0), .ref (E16.2.1 0), .null])), (a5, .inl (E0.2.2 3, 8, .inr (.inr (.inr (.inr (fun _ => none)))))), (a6, .inl (E0.2.2 3, 2, .inr (.inr (.inr (.inr (fun _ => none)))))), (a7, .inl (E0.2.2 1, 2, .inl (fun _ => 0))), (a8, .inl (E0.2.2 0, 6, .inl (fun _ => 0)))] : va_W) ++ ((((((kwl E2 shX5 σ2) ++ kwl E4 shX5 σ4) ++ kwl E10 shX4 σ10) ++ kwl E12 shX3 σ12) ++ kwl E14 shX3 σ14) ++ kwl E16 shX0 σ16)) rfl ?_
  refine ii_aload_n (pc := 102) C 0 dX6_init_102 rfl rfl ?_
  refine ii_new (pc := 103) (ci := 2) tyX2 tyX2_ok C dX6_init_103 rfl cI_X6_58 nI_X2 tI_X2 (show _ ∧ _ from ⟨Nat.le_of_ble_eq_true rfl, Nat.le_of_ble_eq_true rfl⟩) (fun a17 => ?_)
  refine ii_dup (pc := 106) C dX6_init_106 ?_
  refine ii_initN (pc := 107) (M := mI_X2) C (iC_X2 l hst sh0 hz0) dX6_init_107 kI_X2 lI_X6_60 (by decide) (show _ ≤ 8 from Nat.le_of_ble_eq_true rfl) (show _ ∧ _ from ⟨Nat.le_of_ble_eq_true rfl, Nat.le_of_ble_eq_true rfl⟩) (fun E18 σ18 hE18 hz18 hF18 => ?_)
  subst hz18
  refine ii_re (List.append_assoc _ _ _) ?_
  refine ii_putF (pc := 110) (i := 12) 0 tyX6 tyX6_ok nmX6 C hin dX6_init_110 rfl rfl (by decide) rfl fI_X6_61 rfl rfl rfl rfl rfl ?_
  refine ii_re (ws' := ([(h0, .inr (6, [.ref (E2.2.1 0), .ref (E4.2.1 0), .ref a5, .int 0, .int 0, .ref a6, .ref a7, .ref a8, .ref (E10.2.1 0), .ref (E12.2.1 0), .ref (E14.2.1 0), .ref (E16.2.1 0), .ref (E18.2.1 0)])), (a5, .inl (E0.2.2 3, 8, .inr (.inr (.inr (.inr (fun _ => none)))))), (a6, .inl (E0.2.2 3, 2, .inr (.inr (.inr (.inr (fun _ => none)))))), (a7, .inl (E0.2.2 1, 2, .inl (fun _ => 0))), (a8, .inl (E0.2.2 0, 6, .inl (fun _ => 0)))] : va_W) ++ (((((((kwl E2 shX5 σ2) ++ kwl E4 shX5 σ4) ++ kwl E10 shX4 σ10) ++ kwl E12 shX3 σ12) ++ kwl E14 shX3 σ14) ++ kwl E16 shX0 σ16) ++ kwl E18 shX2 σ18)) rfl ?_
  refine ii_iconst (pc := 113) (v := 0) C dX6_init_113 (by decide) ?_
  refine ii_istore_n (pc := 114) C [(1, .int 0), (0, .ref h0)] dX6_init_114 rfl (by decide) rfl ?_
  refine ii_iload_n (pc := 115) C 0 dX6_init_115 rfl rfl ?_
  refine ii_aload_n (pc := 116) C 1 dX6_init_116 rfl rfl ?_
  refine ii_get (pc := 117) (i := 2) 0 C dX6_init_117 rfl rfl (by decide) fI_X6_19 rfl ?_
  refine ii_alenQ (pc := 120) (v := 8) 1 C dX6_init_120 rfl (by decide) ?_
  refine ii_icmp_ge (pc := 121) (tgt := 143) C dX6_init_121 (by decide) (fun h => absurd h (by decide)) (fun _ => ?_)
  refine ii_aload_n (pc := 124) C 1 dX6_init_124 rfl rfl ?_
  refine ii_get (pc := 125) (i := 2) 0 C dX6_init_125 rfl rfl (by decide) fI_X6_19 rfl ?_
  refine ii_iload_n (pc := 128) C 0 dX6_init_128 rfl rfl ?_
  refine ii_new (pc := 129) (ci := 5) tyX5 tyX5_ok C dX6_init_129 rfl cI_X6_9 nI_X5 tI_X5 (show _ ∧ _ from ⟨Nat.le_of_ble_eq_true rfl, Nat.le_of_ble_eq_true rfl⟩) (fun a19 => ?_)
  refine ii_dup (pc := 132) C dX6_init_132 ?_
  refine ii_init (pc := 133) (M := mI_X5) C (iC_X5 l hst sh0 hz0) dX6_init_133 kI_X5 lI_X6_11 (by decide) (show _ ≤ 8 from Nat.le_of_ble_eq_true rfl) (show _ ∧ _ from ⟨Nat.le_of_ble_eq_true rfl, Nat.le_of_ble_eq_true rfl⟩) (fun E20 σ20 hE20 hz20 hF20 => ?_)
  subst hz20
  refine ii_re (List.append_assoc _ _ _) ?_
  refine ii_astq (pc := 136) (r := (RX5, TX5, 15)) 1 C dX6_init_136 rfl rfl (List.mem_append.mpr (.inr (List.mem_append.mpr (.inr (kfirst E20 σ20))))) rfl (by decide) ?_
  refine ii_re (ws' := ([(h0, .inr (6, [.ref (E2.2.1 0), .ref (E4.2.1 0), .ref a5, .int 0, .int 0, .ref a6, .ref a7, .ref a8, .ref (E10.2.1 0), .ref (E12.2.1 0), .ref (E14.2.1 0), .ref (E16.2.1 0), .ref (E18.2.1 0)])), (a5, .inl (E0.2.2 3, 8, .inr (.inr (.inr (.inr (va_up (fun _ => none) (Int32.toNatClampNeg 0) (some (E20.2.1 0)))))))), (a6, .inl (E0.2.2 3, 2, .inr (.inr (.inr (.inr (fun _ => none)))))), (a7, .inl (E0.2.2 1, 2, .inl (fun _ => 0))), (a8, .inl (E0.2.2 0, 6, .inl (fun _ => 0)))] : va_W) ++ ((((((((kwl E2 shX5 σ2) ++ kwl E4 shX5 σ4) ++ kwl E10 shX4 σ10) ++ kwl E12 shX3 σ12) ++ kwl E14 shX3 σ14) ++ kwl E16 shX0 σ16) ++ kwl E18 shX2 σ18) ++ kwl E20 shX5 σ20)) rfl ?_
  refine ii_iinc (pc := 137) (v := 1) C 0 [(1, .int 1), (0, .ref h0)] dX6_init_137 rfl (by decide) (by decide) rfl ?_
  refine ii_goto (pc := 140) (tgt := 115) C dX6_init_140 (by decide) ?_
  refine ii_iload_n (pc := 115) C 0 dX6_init_115 rfl rfl ?_
  refine ii_aload_n (pc := 116) C 1 dX6_init_116 rfl rfl ?_
  refine ii_get (pc := 117) (i := 2) 0 C dX6_init_117 rfl rfl (by decide) fI_X6_19 rfl ?_
  refine ii_alenQ (pc := 120) (v := 8) 1 C dX6_init_120 rfl (by decide) ?_
  refine ii_icmp_ge (pc := 121) (tgt := 143) C dX6_init_121 (by decide) (fun h => absurd h (by decide)) (fun _ => ?_)
  refine ii_aload_n (pc := 124) C 1 dX6_init_124 rfl rfl ?_
  refine ii_get (pc := 125) (i := 2) 0 C dX6_init_125 rfl rfl (by decide) fI_X6_19 rfl ?_
  refine ii_iload_n (pc := 128) C 0 dX6_init_128 rfl rfl ?_
  refine ii_new (pc := 129) (ci := 5) tyX5 tyX5_ok C dX6_init_129 rfl cI_X6_9 nI_X5 tI_X5 (show _ ∧ _ from ⟨Nat.le_of_ble_eq_true rfl, Nat.le_of_ble_eq_true rfl⟩) (fun a21 => ?_)
  refine ii_dup (pc := 132) C dX6_init_132 ?_
  refine ii_init (pc := 133) (M := mI_X5) C (iC_X5 l hst sh0 hz0) dX6_init_133 kI_X5 lI_X6_11 (by decide) (show _ ≤ 8 from Nat.le_of_ble_eq_true rfl) (show _ ∧ _ from ⟨Nat.le_of_ble_eq_true rfl, Nat.le_of_ble_eq_true rfl⟩) (fun E22 σ22 hE22 hz22 hF22 => ?_)
  subst hz22
  refine ii_re (List.append_assoc _ _ _) ?_
  refine ii_astq (pc := 136) (r := (RX5, TX5, 15)) 1 C dX6_init_136 rfl rfl (List.mem_append.mpr (.inr (List.mem_append.mpr (.inr (kfirst E22 σ22))))) rfl (by decide) ?_
  refine ii_re (ws' := ([(h0, .inr (6, [.ref (E2.2.1 0), .ref (E4.2.1 0), .ref a5, .int 0, .int 0, .ref a6, .ref a7, .ref a8, .ref (E10.2.1 0), .ref (E12.2.1 0), .ref (E14.2.1 0), .ref (E16.2.1 0), .ref (E18.2.1 0)])), (a5, .inl (E0.2.2 3, 8, .inr (.inr (.inr (.inr (va_up (va_up (fun _ => none) (Int32.toNatClampNeg 0) (some (E20.2.1 0))) (Int32.toNatClampNeg 1) (some (E22.2.1 0)))))))), (a6, .inl (E0.2.2 3, 2, .inr (.inr (.inr (.inr (fun _ => none)))))), (a7, .inl (E0.2.2 1, 2, .inl (fun _ => 0))), (a8, .inl (E0.2.2 0, 6, .inl (fun _ => 0)))] : va_W) ++ (((((((((kwl E2 shX5 σ2) ++ kwl E4 shX5 σ4) ++ kwl E10 shX4 σ10) ++ kwl E12 shX3 σ12) ++ kwl E14 shX3 σ14) ++ kwl E16 shX0 σ16) ++ kwl E18 shX2 σ18) ++ kwl E20 shX5 σ20) ++ kwl E22 shX5 σ22)) rfl ?_
  refine ii_iinc (pc := 137) (v := 2) C 0 [(1, .int 2), (0, .ref h0)] dX6_init_137 rfl (by decide) (by decide) rfl ?_
  refine ii_goto (pc := 140) (tgt := 115) C dX6_init_140 (by decide) ?_
  refine ii_iload_n (pc := 115) C 0 dX6_init_115 rfl rfl ?_
  refine ii_aload_n (pc := 116) C 1 dX6_init_116 rfl rfl ?_
  refine ii_get (pc := 117) (i := 2) 0 C dX6_init_117 rfl rfl (by decide) fI_X6_19 rfl ?_
  refine ii_alenQ (pc := 120) (v := 8) 1 C dX6_init_120 rfl (by decide) ?_
  refine ii_icmp_ge (pc := 121) (tgt := 143) C dX6_init_121 (by decide) (fun h => absurd h (by decide)) (fun _ => ?_)
  refine ii_aload_n (pc := 124) C 1 dX6_init_124 rfl rfl ?_
  refine ii_get (pc := 125) (i := 2) 0 C dX6_init_125 rfl rfl (by decide) fI_X6_19 rfl ?_
  refine ii_iload_n (pc := 128) C 0 dX6_init_128 rfl rfl ?_
  refine ii_new (pc := 129) (ci := 5) tyX5 tyX5_ok C dX6_init_129 rfl cI_X6_9 nI_X5 tI_X5 (show _ ∧ _ from ⟨Nat.le_of_ble_eq_true rfl, Nat.le_of_ble_eq_true rfl⟩) (fun a23 => ?_)
  refine ii_dup (pc := 132) C dX6_init_132 ?_
  refine ii_init (pc := 133) (M := mI_X5) C (iC_X5 l hst sh0 hz0) dX6_init_133 kI_X5 lI_X6_11 (by decide) (show _ ≤ 8 from Nat.le_of_ble_eq_true rfl) (show _ ∧ _ from ⟨Nat.le_of_ble_eq_true rfl, Nat.le_of_ble_eq_true rfl⟩) (fun E24 σ24 hE24 hz24 hF24 => ?_)
  subst hz24
  refine ii_re (List.append_assoc _ _ _) ?_
  refine ii_astq (pc := 136) (r := (RX5, TX5, 15)) 1 C dX6_init_136 rfl rfl (List.mem_append.mpr (.inr (List.mem_append.mpr (.inr (kfirst E24 σ24))))) rfl (by decide) ?_
  refine ii_re (ws' := ([(h0, .inr (6, [.ref (E2.2.1 0), .ref (E4.2.1 0), .ref a5, .int 0, .int 0, .ref a6, .ref a7, .ref a8, .ref (E10.2.1 0), .ref (E12.2.1 0), .ref (E14.2.1 0), .ref (E16.2.1 0), .ref (E18.2.1 0)])), (a5, .inl (E0.2.2 3, 8, .inr (.inr (.inr (.inr (va_up (va_up (va_up (fun _ => none) (Int32.toNatClampNeg 0) (some (E20.2.1 0))) (Int32.toNatClampNeg 1) (some (E22.2.1 0))) (Int32.toNatClampNeg 2) (some (E24.2.1 0)))))))), (a6, .inl (E0.2.2 3, 2, .inr (.inr (.inr (.inr (fun _ => none)))))), (a7, .inl (E0.2.2 1, 2, .inl (fun _ => 0))), (a8, .inl (E0.2.2 0, 6, .inl (fun _ => 0)))] : va_W) ++ ((((((((((kwl E2 shX5 σ2) ++ kwl E4 shX5 σ4) ++ kwl E10 shX4 σ10) ++ kwl E12 shX3 σ12) ++ kwl E14 shX3 σ14) ++ kwl E16 shX0 σ16) ++ kwl E18 shX2 σ18) ++ kwl E20 shX5 σ20) ++ kwl E22 shX5 σ22) ++ kwl E24 shX5 σ24)) rfl ?_
  refine ii_iinc (pc := 137) (v := 3) C 0 [(1, .int 3), (0, .ref h0)] dX6_init_137 rfl (by decide) (by decide) rfl ?_
  refine ii_goto (pc := 140) (tgt := 115) C dX6_init_140 (by decide) ?_
  refine ii_iload_n (pc := 115) C 0 dX6_init_115 rfl rfl ?_
  refine ii_aload_n (pc := 116) C 1 dX6_init_116 rfl rfl ?_
  refine ii_get (pc := 117) (i := 2) 0 C dX6_init_117 rfl rfl (by decide) fI_X6_19 rfl ?_
  refine ii_alenQ (pc := 120) (v := 8) 1 C dX6_init_120 rfl (by decide) ?_
  refine ii_icmp_ge (pc := 121) (tgt := 143) C dX6_init_121 (by decide) (fun h => absurd h (by decide)) (fun _ => ?_)
  refine ii_aload_n (pc := 124) C 1 dX6_init_124 rfl rfl ?_
  refine ii_get (pc := 125) (i := 2) 0 C dX6_init_125 rfl rfl (by decide) fI_X6_19 rfl ?_
  refine ii_iload_n (pc := 128) C 0 dX6_init_128 rfl rfl ?_
  refine ii_new (pc := 129) (ci := 5) tyX5 tyX5_ok C dX6_init_129 rfl cI_X6_9 nI_X5 tI_X5 (show _ ∧ _ from ⟨Nat.le_of_ble_eq_true rfl, Nat.le_of_ble_eq_true rfl⟩) (fun a25 => ?_)
  refine ii_dup (pc := 132) C dX6_init_132 ?_
  refine ii_init (pc := 133) (M := mI_X5) C (iC_X5 l hst sh0 hz0) dX6_init_133 kI_X5 lI_X6_11 (by decide) (show _ ≤ 8 from Nat.le_of_ble_eq_true rfl) (show _ ∧ _ from ⟨Nat.le_of_ble_eq_true rfl, Nat.le_of_ble_eq_true rfl⟩) (fun E26 σ26 hE26 hz26 hF26 => ?_)
  subst hz26
  refine ii_re (List.append_assoc _ _ _) ?_
  refine ii_astq (pc := 136) (r := (RX5, TX5, 15)) 1 C dX6_init_136 rfl rfl (List.mem_append.mpr (.inr (List.mem_append.mpr (.inr (kfirst E26 σ26))))) rfl (by decide) ?_
  refine ii_re (ws' := ([(h0, .inr (6, [.ref (E2.2.1 0), .ref (E4.2.1 0), .ref a5, .int 0, .int 0, .ref a6, .ref a7, .ref a8, .ref (E10.2.1 0), .ref (E12.2.1 0), .ref (E14.2.1 0), .ref (E16.2.1 0), .ref (E18.2.1 0)])), (a5, .inl (E0.2.2 3, 8, .inr (.inr (.inr (.inr (va_up (va_up (va_up (va_up (fun _ => none) (Int32.toNatClampNeg 0) (some (E20.2.1 0))) (Int32.toNatClampNeg 1) (some (E22.2.1 0))) (Int32.toNatClampNeg 2) (some (E24.2.1 0))) (Int32.toNatClampNeg 3) (some (E26.2.1 0)))))))), (a6, .inl (E0.2.2 3, 2, .inr (.inr (.inr (.inr (fun _ => none)))))), (a7, .inl (E0.2.2 1, 2, .inl (fun _ => 0))), (a8, .inl (E0.2.2 0, 6, .inl (fun _ => 0)))] : va_W) ++ (((((((((((kwl E2 shX5 σ2) ++ kwl E4 shX5 σ4) ++ kwl E10 shX4 σ10) ++ kwl E12 shX3 σ12) ++ kwl E14 shX3 σ14) ++ kwl E16 shX0 σ16) ++ kwl E18 shX2 σ18) ++ kwl E20 shX5 σ20) ++ kwl E22 shX5 σ22) ++ kwl E24 shX5 σ24) ++ kwl E26 shX5 σ26)) rfl ?_
  refine ii_iinc (pc := 137) (v := 4) C 0 [(1, .int 4), (0, .ref h0)] dX6_init_137 rfl (by decide) (by decide) rfl ?_
  refine ii_goto (pc := 140) (tgt := 115) C dX6_init_140 (by decide) ?_
  refine ii_iload_n (pc := 115) C 0 dX6_init_115 rfl rfl ?_
  refine ii_aload_n (pc := 116) C 1 dX6_init_116 rfl rfl ?_
  refine ii_get (pc := 117) (i := 2) 0 C dX6_init_117 rfl rfl (by decide) fI_X6_19 rfl ?_
  refine ii_alenQ (pc := 120) (v := 8) 1 C dX6_init_120 rfl (by decide) ?_
  refine ii_icmp_ge (pc := 121) (tgt := 143) C dX6_init_121 (by decide) (fun h => absurd h (by decide)) (fun _ => ?_)
  refine ii_aload_n (pc := 124) C 1 dX6_init_124 rfl rfl ?_
  refine ii_get (pc := 125) (i := 2) 0 C dX6_init_125 rfl rfl (by decide) fI_X6_19 rfl ?_
  refine ii_iload_n (pc := 128) C 0 dX6_init_128 rfl rfl ?_
  refine ii_new (pc := 129) (ci := 5) tyX5 tyX5_ok C dX6_init_129 rfl cI_X6_9 nI_X5 tI_X5 (show _ ∧ _ from ⟨Nat.le_of_ble_eq_true rfl, Nat.le_of_ble_eq_true rfl⟩) (fun a27 => ?_)
  refine ii_dup (pc := 132) C dX6_init_132 ?_
  refine ii_init (pc := 133) (M := mI_X5) C (iC_X5 l hst sh0 hz0) dX6_init_133 kI_X5 lI_X6_11 (by decide) (show _ ≤ 8 from Nat.le_of_ble_eq_true rfl) (show _ ∧ _ from ⟨Nat.le_of_ble_eq_true rfl, Nat.le_of_ble_eq_true rfl⟩) (fun E28 σ28 hE28 hz28 hF28 => ?_)
  subst hz28
  refine ii_re (List.append_assoc _ _ _) ?_
  refine ii_astq (pc := 136) (r := (RX5, TX5, 15)) 1 C dX6_init_136 rfl rfl (List.mem_append.mpr (.inr (List.mem_append.mpr (.inr (kfirst E28 σ28))))) rfl (by decide) ?_
  refine ii_re (ws' := ([(h0, .inr (6, [.ref (E2.2.1 0), .ref (E4.2.1 0), .ref a5, .int 0, .int 0, .ref a6, .ref a7, .ref a8, .ref (E10.2.1 0), .ref (E12.2.1 0), .ref (E14.2.1 0), .ref (E16.2.1 0), .ref (E18.2.1 0)])), (a5, .inl (E0.2.2 3, 8, .inr (.inr (.inr (.inr (va_up (va_up (va_up (va_up (va_up (fun _ => none) (Int32.toNatClampNeg 0) (some (E20.2.1 0))) (Int32.toNatClampNeg 1) (some (E22.2.1 0))) (Int32.toNatClampNeg 2) (some (E24.2.1 0))) (Int32.toNatClampNeg 3) (some (E26.2.1 0))) (Int32.toNatClampNeg 4) (some (E28.2.1 0)))))))), (a6, .inl (E0.2.2 3, 2, .inr (.inr (.inr (.inr (fun _ => none)))))), (a7, .inl (E0.2.2 1, 2, .inl (fun _ => 0))), (a8, .inl (E0.2.2 0, 6, .inl (fun _ => 0)))] : va_W) ++ ((((((((((((kwl E2 shX5 σ2) ++ kwl E4 shX5 σ4) ++ kwl E10 shX4 σ10) ++ kwl E12 shX3 σ12) ++ kwl E14 shX3 σ14) ++ kwl E16 shX0 σ16) ++ kwl E18 shX2 σ18) ++ kwl E20 shX5 σ20) ++ kwl E22 shX5 σ22) ++ kwl E24 shX5 σ24) ++ kwl E26 shX5 σ26) ++ kwl E28 shX5 σ28)) rfl ?_
  refine ii_iinc (pc := 137) (v := 5) C 0 [(1, .int 5), (0, .ref h0)] dX6_init_137 rfl (by decide) (by decide) rfl ?_
  refine ii_goto (pc := 140) (tgt := 115) C dX6_init_140 (by decide) ?_
  refine ii_iload_n (pc := 115) C 0 dX6_init_115 rfl rfl ?_
  refine ii_aload_n (pc := 116) C 1 dX6_init_116 rfl rfl ?_
  refine ii_get (pc := 117) (i := 2) 0 C dX6_init_117 rfl rfl (by decide) fI_X6_19 rfl ?_
  refine ii_alenQ (pc := 120) (v := 8) 1 C dX6_init_120 rfl (by decide) ?_
  refine ii_icmp_ge (pc := 121) (tgt := 143) C dX6_init_121 (by decide) (fun h => absurd h (by decide)) (fun _ => ?_)
  refine ii_aload_n (pc := 124) C 1 dX6_init_124 rfl rfl ?_
  refine ii_get (pc := 125) (i := 2) 0 C dX6_init_125 rfl rfl (by decide) fI_X6_19 rfl ?_
  refine ii_iload_n (pc := 128) C 0 dX6_init_128 rfl rfl ?_
  refine ii_new (pc := 129) (ci := 5) tyX5 tyX5_ok C dX6_init_129 rfl cI_X6_9 nI_X5 tI_X5 (show _ ∧ _ from ⟨Nat.le_of_ble_eq_true rfl, Nat.le_of_ble_eq_true rfl⟩) (fun a29 => ?_)
  refine ii_dup (pc := 132) C dX6_init_132 ?_
  refine ii_init (pc := 133) (M := mI_X5) C (iC_X5 l hst sh0 hz0) dX6_init_133 kI_X5 lI_X6_11 (by decide) (show _ ≤ 8 from Nat.le_of_ble_eq_true rfl) (show _ ∧ _ from ⟨Nat.le_of_ble_eq_true rfl, Nat.le_of_ble_eq_true rfl⟩) (fun E30 σ30 hE30 hz30 hF30 => ?_)
  subst hz30
  refine ii_re (List.append_assoc _ _ _) ?_
  refine ii_astq (pc := 136) (r := (RX5, TX5, 15)) 1 C dX6_init_136 rfl rfl (List.mem_append.mpr (.inr (List.mem_append.mpr (.inr (kfirst E30 σ30))))) rfl (by decide) ?_
  refine ii_re (ws' := ([(h0, .inr (6, [.ref (E2.2.1 0), .ref (E4.2.1 0), .ref a5, .int 0, .int 0, .ref a6, .ref a7, .ref a8, .ref (E10.2.1 0), .ref (E12.2.1 0), .ref (E14.2.1 0), .ref (E16.2.1 0), .ref (E18.2.1 0)])), (a5, .inl (E0.2.2 3, 8, .inr (.inr (.inr (.inr (va_up (va_up (va_up (va_up (va_up (va_up (fun _ => none) (Int32.toNatClampNeg 0) (some (E20.2.1 0))) (Int32.toNatClampNeg 1) (some (E22.2.1 0))) (Int32.toNatClampNeg 2) (some (E24.2.1 0))) (Int32.toNatClampNeg 3) (some (E26.2.1 0))) (Int32.toNatClampNeg 4) (some (E28.2.1 0))) (Int32.toNatClampNeg 5) (some (E30.2.1 0)))))))), (a6, .inl (E0.2.2 3, 2, .inr (.inr (.inr (.inr (fun _ => none)))))), (a7, .inl (E0.2.2 1, 2, .inl (fun _ => 0))), (a8, .inl (E0.2.2 0, 6, .inl (fun _ => 0)))] : va_W) ++ (((((((((((((kwl E2 shX5 σ2) ++ kwl E4 shX5 σ4) ++ kwl E10 shX4 σ10) ++ kwl E12 shX3 σ12) ++ kwl E14 shX3 σ14) ++ kwl E16 shX0 σ16) ++ kwl E18 shX2 σ18) ++ kwl E20 shX5 σ20) ++ kwl E22 shX5 σ22) ++ kwl E24 shX5 σ24) ++ kwl E26 shX5 σ26) ++ kwl E28 shX5 σ28) ++ kwl E30 shX5 σ30)) rfl ?_
  refine ii_iinc (pc := 137) (v := 6) C 0 [(1, .int 6), (0, .ref h0)] dX6_init_137 rfl (by decide) (by decide) rfl ?_
  refine ii_goto (pc := 140) (tgt := 115) C dX6_init_140 (by decide) ?_
  refine ii_iload_n (pc := 115) C 0 dX6_init_115 rfl rfl ?_
  refine ii_aload_n (pc := 116) C 1 dX6_init_116 rfl rfl ?_
  refine ii_get (pc := 117) (i := 2) 0 C dX6_init_117 rfl rfl (by decide) fI_X6_19 rfl ?_
  refine ii_alenQ (pc := 120) (v := 8) 1 C dX6_init_120 rfl (by decide) ?_
  refine ii_icmp_ge (pc := 121) (tgt := 143) C dX6_init_121 (by decide) (fun h => absurd h (by decide)) (fun _ => ?_)
  refine ii_aload_n (pc := 124) C 1 dX6_init_124 rfl rfl ?_
  refine ii_get (pc := 125) (i := 2) 0 C dX6_init_125 rfl rfl (by decide) fI_X6_19 rfl ?_
  refine ii_iload_n (pc := 128) C 0 dX6_init_128 rfl rfl ?_
  refine ii_new (pc := 129) (ci := 5) tyX5 tyX5_ok C dX6_init_129 rfl cI_X6_9 nI_X5 tI_X5 (show _ ∧ _ from ⟨Nat.le_of_ble_eq_true rfl, Nat.le_of_ble_eq_true rfl⟩) (fun a31 => ?_)
  refine ii_dup (pc := 132) C dX6_init_132 ?_
  refine ii_init (pc := 133) (M := mI_X5) C (iC_X5 l hst sh0 hz0) dX6_init_133 kI_X5 lI_X6_11 (by decide) (show _ ≤ 8 from Nat.le_of_ble_eq_true rfl) (show _ ∧ _ from ⟨Nat.le_of_ble_eq_true rfl, Nat.le_of_ble_eq_true rfl⟩) (fun E32 σ32 hE32 hz32 hF32 => ?_)
  subst hz32
  refine ii_re (List.append_assoc _ _ _) ?_
  refine ii_astq (pc := 136) (r := (RX5, TX5, 15)) 1 C dX6_init_136 rfl rfl (List.mem_append.mpr (.inr (List.mem_append.mpr (.inr (kfirst E32 σ32))))) rfl (by decide) ?_
  refine ii_re (ws' := ([(h0, .inr (6, [.ref (E2.2.1 0), .ref (E4.2.1 0), .ref a5, .int 0, .int 0, .ref a6, .ref a7, .ref a8, .ref (E10.2.1 0), .ref (E12.2.1 0), .ref (E14.2.1 0), .ref (E16.2.1 0), .ref (E18.2.1 0)])), (a5, .inl (E0.2.2 3, 8, .inr (.inr (.inr (.inr (va_up (va_up (va_up (va_up (va_up (va_up (va_up (fun _ => none) (Int32.toNatClampNeg 0) (some (E20.2.1 0))) (Int32.toNatClampNeg 1) (some (E22.2.1 0))) (Int32.toNatClampNeg 2) (some (E24.2.1 0))) (Int32.toNatClampNeg 3) (some (E26.2.1 0))) (Int32.toNatClampNeg 4) (some (E28.2.1 0))) (Int32.toNatClampNeg 5) (some (E30.2.1 0))) (Int32.toNatClampNeg 6) (some (E32.2.1 0)))))))), (a6, .inl (E0.2.2 3, 2, .inr (.inr (.inr (.inr (fun _ => none)))))), (a7, .inl (E0.2.2 1, 2, .inl (fun _ => 0))), (a8, .inl (E0.2.2 0, 6, .inl (fun _ => 0)))] : va_W) ++ ((((((((((((((kwl E2 shX5 σ2) ++ kwl E4 shX5 σ4) ++ kwl E10 shX4 σ10) ++ kwl E12 shX3 σ12) ++ kwl E14 shX3 σ14) ++ kwl E16 shX0 σ16) ++ kwl E18 shX2 σ18) ++ kwl E20 shX5 σ20) ++ kwl E22 shX5 σ22) ++ kwl E24 shX5 σ24) ++ kwl E26 shX5 σ26) ++ kwl E28 shX5 σ28) ++ kwl E30 shX5 σ30) ++ kwl E32 shX5 σ32)) rfl ?_
  refine ii_iinc (pc := 137) (v := 7) C 0 [(1, .int 7), (0, .ref h0)] dX6_init_137 rfl (by decide) (by decide) rfl ?_
  refine ii_goto (pc := 140) (tgt := 115) C dX6_init_140 (by decide) ?_
  refine ii_iload_n (pc := 115) C 0 dX6_init_115 rfl rfl ?_
  refine ii_aload_n (pc := 116) C 1 dX6_init_116 rfl rfl ?_
  refine ii_get (pc := 117) (i := 2) 0 C dX6_init_117 rfl rfl (by decide) fI_X6_19 rfl ?_
  refine ii_alenQ (pc := 120) (v := 8) 1 C dX6_init_120 rfl (by decide) ?_
  refine ii_icmp_ge (pc := 121) (tgt := 143) C dX6_init_121 (by decide) (fun h => absurd h (by decide)) (fun _ => ?_)
  refine ii_aload_n (pc := 124) C 1 dX6_init_124 rfl rfl ?_
  refine ii_get (pc := 125) (i := 2) 0 C dX6_init_125 rfl rfl (by decide) fI_X6_19 rfl ?_
  refine ii_iload_n (pc := 128) C 0 dX6_init_128 rfl rfl ?_
  refine ii_new (pc := 129) (ci := 5) tyX5 tyX5_ok C dX6_init_129 rfl cI_X6_9 nI_X5 tI_X5 (show _ ∧ _ from ⟨Nat.le_of_ble_eq_true rfl, Nat.le_of_ble_eq_true rfl⟩) (fun a33 => ?_)
  refine ii_dup (pc := 132) C dX6_init_132 ?_
  refine ii_init (pc := 133) (M := mI_X5) C (iC_X5 l hst sh0 hz0) dX6_init_133 kI_X5 lI_X6_11 (by decide) (show _ ≤ 8 from Nat.le_of_ble_eq_true rfl) (show _ ∧ _ from ⟨Nat.le_of_ble_eq_true rfl, Nat.le_of_ble_eq_true rfl⟩) (fun E34 σ34 hE34 hz34 hF34 => ?_)
  subst hz34
  refine ii_re (List.append_assoc _ _ _) ?_
  refine ii_astq (pc := 136) (r := (RX5, TX5, 15)) 1 C dX6_init_136 rfl rfl (List.mem_append.mpr (.inr (List.mem_append.mpr (.inr (kfirst E34 σ34))))) rfl (by decide) ?_
  refine ii_re (ws' := ([(h0, .inr (6, [.ref (E2.2.1 0), .ref (E4.2.1 0), .ref a5, .int 0, .int 0, .ref a6, .ref a7, .ref a8, .ref (E10.2.1 0), .ref (E12.2.1 0), .ref (E14.2.1 0), .ref (E16.2.1 0), .ref (E18.2.1 0)])), (a5, .inl (E0.2.2 3, 8, .inr (.inr (.inr (.inr (va_up (va_up (va_up (va_up (va_up (va_up (va_up (va_up (fun _ => none) (Int32.toNatClampNeg 0) (some (E20.2.1 0))) (Int32.toNatClampNeg 1) (some (E22.2.1 0))) (Int32.toNatClampNeg 2) (some (E24.2.1 0))) (Int32.toNatClampNeg 3) (some (E26.2.1 0))) (Int32.toNatClampNeg 4) (some (E28.2.1 0))) (Int32.toNatClampNeg 5) (some (E30.2.1 0))) (Int32.toNatClampNeg 6) (some (E32.2.1 0))) (Int32.toNatClampNeg 7) (some (E34.2.1 0)))))))), (a6, .inl (E0.2.2 3, 2, .inr (.inr (.inr (.inr (fun _ => none)))))), (a7, .inl (E0.2.2 1, 2, .inl (fun _ => 0))), (a8, .inl (E0.2.2 0, 6, .inl (fun _ => 0)))] : va_W) ++ (((((((((((((((kwl E2 shX5 σ2) ++ kwl E4 shX5 σ4) ++ kwl E10 shX4 σ10) ++ kwl E12 shX3 σ12) ++ kwl E14 shX3 σ14) ++ kwl E16 shX0 σ16) ++ kwl E18 shX2 σ18) ++ kwl E20 shX5 σ20) ++ kwl E22 shX5 σ22) ++ kwl E24 shX5 σ24) ++ kwl E26 shX5 σ26) ++ kwl E28 shX5 σ28) ++ kwl E30 shX5 σ30) ++ kwl E32 shX5 σ32) ++ kwl E34 shX5 σ34)) rfl ?_
  refine ii_iinc (pc := 137) (v := 8) C 0 [(1, .int 8), (0, .ref h0)] dX6_init_137 rfl (by decide) (by decide) rfl ?_
  refine ii_goto (pc := 140) (tgt := 115) C dX6_init_140 (by decide) ?_
  refine ii_iload_n (pc := 115) C 0 dX6_init_115 rfl rfl ?_
  refine ii_aload_n (pc := 116) C 1 dX6_init_116 rfl rfl ?_
  refine ii_get (pc := 117) (i := 2) 0 C dX6_init_117 rfl rfl (by decide) fI_X6_19 rfl ?_
  refine ii_alenQ (pc := 120) (v := 8) 1 C dX6_init_120 rfl (by decide) ?_
  refine ii_icmp_ge (pc := 121) (tgt := 143) C dX6_init_121 (by decide) (fun _ => ?_) (fun h => absurd (by decide) h)
  refine ii_iconst (pc := 143) (v := 0) C dX6_init_143 (by decide) ?_
  refine ii_istore_n (pc := 144) C [(1, .int 0), (0, .ref h0)] dX6_init_144 rfl (by decide) rfl ?_
  refine ii_iload_n (pc := 145) C 0 dX6_init_145 rfl rfl ?_
  refine ii_aload_n (pc := 146) C 1 dX6_init_146 rfl rfl ?_
  refine ii_get (pc := 147) (i := 5) 0 C dX6_init_147 rfl rfl (by decide) fI_X6_23 rfl ?_
  refine ii_alenQ (pc := 150) (v := 2) 2 C dX6_init_150 rfl (by decide) ?_
  refine ii_icmp_ge (pc := 151) (tgt := 173) C dX6_init_151 (by decide) (fun h => absurd h (by decide)) (fun _ => ?_)
  refine ii_aload_n (pc := 154) C 1 dX6_init_154 rfl rfl ?_
  refine ii_get (pc := 155) (i := 5) 0 C dX6_init_155 rfl rfl (by decide) fI_X6_23 rfl ?_
  refine ii_iload_n (pc := 158) C 0 dX6_init_158 rfl rfl ?_
  refine ii_new (pc := 159) (ci := 5) tyX5 tyX5_ok C dX6_init_159 rfl cI_X6_9 nI_X5 tI_X5 (show _ ∧ _ from ⟨Nat.le_of_ble_eq_true rfl, Nat.le_of_ble_eq_true rfl⟩) (fun a35 => ?_)
  refine ii_dup (pc := 162) C dX6_init_162 ?_
  refine ii_init (pc := 163) (M := mI_X5) C (iC_X5 l hst sh0 hz0) dX6_init_163 kI_X5 lI_X6_11 (by decide) (show _ ≤ 8 from Nat.le_of_ble_eq_true rfl) (show _ ∧ _ from ⟨Nat.le_of_ble_eq_true rfl, Nat.le_of_ble_eq_true rfl⟩) (fun E36 σ36 hE36 hz36 hF36 => ?_)
  subst hz36
  refine ii_re (List.append_assoc _ _ _) ?_
  refine ii_astq (pc := 166) (r := (RX5, TX5, 15)) 2 C dX6_init_166 rfl rfl (List.mem_append.mpr (.inr (List.mem_append.mpr (.inr (kfirst E36 σ36))))) rfl (by decide) ?_
  refine ii_re (ws' := ([(h0, .inr (6, [.ref (E2.2.1 0), .ref (E4.2.1 0), .ref a5, .int 0, .int 0, .ref a6, .ref a7, .ref a8, .ref (E10.2.1 0), .ref (E12.2.1 0), .ref (E14.2.1 0), .ref (E16.2.1 0), .ref (E18.2.1 0)])), (a5, .inl (E0.2.2 3, 8, .inr (.inr (.inr (.inr (va_up (va_up (va_up (va_up (va_up (va_up (va_up (va_up (fun _ => none) (Int32.toNatClampNeg 0) (some (E20.2.1 0))) (Int32.toNatClampNeg 1) (some (E22.2.1 0))) (Int32.toNatClampNeg 2) (some (E24.2.1 0))) (Int32.toNatClampNeg 3) (some (E26.2.1 0))) (Int32.toNatClampNeg 4) (some (E28.2.1 0))) (Int32.toNatClampNeg 5) (some (E30.2.1 0))) (Int32.toNatClampNeg 6) (some (E32.2.1 0))) (Int32.toNatClampNeg 7) (some (E34.2.1 0)))))))), (a6, .inl (E0.2.2 3, 2, .inr (.inr (.inr (.inr (va_up (fun _ => none) (Int32.toNatClampNeg 0) (some (E36.2.1 0)))))))), (a7, .inl (E0.2.2 1, 2, .inl (fun _ => 0))), (a8, .inl (E0.2.2 0, 6, .inl (fun _ => 0)))] : va_W) ++ ((((((((((((((((kwl E2 shX5 σ2) ++ kwl E4 shX5 σ4) ++ kwl E10 shX4 σ10) ++ kwl E12 shX3 σ12) ++ kwl E14 shX3 σ14) ++ kwl E16 shX0 σ16) ++ kwl E18 shX2 σ18) ++ kwl E20 shX5 σ20) ++ kwl E22 shX5 σ22) ++ kwl E24 shX5 σ24) ++ kwl E26 shX5 σ26) ++ kwl E28 shX5 σ28) ++ kwl E30 shX5 σ30) ++ kwl E32 shX5 σ32) ++ kwl E34 shX5 σ34) ++ kwl E36 shX5 σ36)) rfl ?_
  refine ii_iinc (pc := 167) (v := 1) C 0 [(1, .int 1), (0, .ref h0)] dX6_init_167 rfl (by decide) (by decide) rfl ?_
  refine ii_goto (pc := 170) (tgt := 145) C dX6_init_170 (by decide) ?_
  refine ii_iload_n (pc := 145) C 0 dX6_init_145 rfl rfl ?_
  refine ii_aload_n (pc := 146) C 1 dX6_init_146 rfl rfl ?_
  refine ii_get (pc := 147) (i := 5) 0 C dX6_init_147 rfl rfl (by decide) fI_X6_23 rfl ?_
  refine ii_alenQ (pc := 150) (v := 2) 2 C dX6_init_150 rfl (by decide) ?_
  refine ii_icmp_ge (pc := 151) (tgt := 173) C dX6_init_151 (by decide) (fun h => absurd h (by decide)) (fun _ => ?_)
  refine ii_aload_n (pc := 154) C 1 dX6_init_154 rfl rfl ?_
  refine ii_get (pc := 155) (i := 5) 0 C dX6_init_155 rfl rfl (by decide) fI_X6_23 rfl ?_
  refine ii_iload_n (pc := 158) C 0 dX6_init_158 rfl rfl ?_
  refine ii_new (pc := 159) (ci := 5) tyX5 tyX5_ok C dX6_init_159 rfl cI_X6_9 nI_X5 tI_X5 (show _ ∧ _ from ⟨Nat.le_of_ble_eq_true rfl, Nat.le_of_ble_eq_true rfl⟩) (fun a37 => ?_)
  refine ii_dup (pc := 162) C dX6_init_162 ?_
  refine ii_init (pc := 163) (M := mI_X5) C (iC_X5 l hst sh0 hz0) dX6_init_163 kI_X5 lI_X6_11 (by decide) (show _ ≤ 8 from Nat.le_of_ble_eq_true rfl) (show _ ∧ _ from ⟨Nat.le_of_ble_eq_true rfl, Nat.le_of_ble_eq_true rfl⟩) (fun E38 σ38 hE38 hz38 hF38 => ?_)
  subst hz38
  refine ii_re (List.append_assoc _ _ _) ?_
  refine ii_astq (pc := 166) (r := (RX5, TX5, 15)) 2 C dX6_init_166 rfl rfl (List.mem_append.mpr (.inr (List.mem_append.mpr (.inr (kfirst E38 σ38))))) rfl (by decide) ?_
  refine ii_re (ws' := ([(h0, .inr (6, [.ref (E2.2.1 0), .ref (E4.2.1 0), .ref a5, .int 0, .int 0, .ref a6, .ref a7, .ref a8, .ref (E10.2.1 0), .ref (E12.2.1 0), .ref (E14.2.1 0), .ref (E16.2.1 0), .ref (E18.2.1 0)])), (a5, .inl (E0.2.2 3, 8, .inr (.inr (.inr (.inr (va_up (va_up (va_up (va_up (va_up (va_up (va_up (va_up (fun _ => none) (Int32.toNatClampNeg 0) (some (E20.2.1 0))) (Int32.toNatClampNeg 1) (some (E22.2.1 0))) (Int32.toNatClampNeg 2) (some (E24.2.1 0))) (Int32.toNatClampNeg 3) (some (E26.2.1 0))) (Int32.toNatClampNeg 4) (some (E28.2.1 0))) (Int32.toNatClampNeg 5) (some (E30.2.1 0))) (Int32.toNatClampNeg 6) (some (E32.2.1 0))) (Int32.toNatClampNeg 7) (some (E34.2.1 0)))))))), (a6, .inl (E0.2.2 3, 2, .inr (.inr (.inr (.inr (va_up (va_up (fun _ => none) (Int32.toNatClampNeg 0) (some (E36.2.1 0))) (Int32.toNatClampNeg 1) (some (E38.2.1 0)))))))), (a7, .inl (E0.2.2 1, 2, .inl (fun _ => 0))), (a8, .inl (E0.2.2 0, 6, .inl (fun _ => 0)))] : va_W) ++ (((((((((((((((((kwl E2 shX5 σ2) ++ kwl E4 shX5 σ4) ++ kwl E10 shX4 σ10) ++ kwl E12 shX3 σ12) ++ kwl E14 shX3 σ14) ++ kwl E16 shX0 σ16) ++ kwl E18 shX2 σ18) ++ kwl E20 shX5 σ20) ++ kwl E22 shX5 σ22) ++ kwl E24 shX5 σ24) ++ kwl E26 shX5 σ26) ++ kwl E28 shX5 σ28) ++ kwl E30 shX5 σ30) ++ kwl E32 shX5 σ32) ++ kwl E34 shX5 σ34) ++ kwl E36 shX5 σ36) ++ kwl E38 shX5 σ38)) rfl ?_
  refine ii_iinc (pc := 167) (v := 2) C 0 [(1, .int 2), (0, .ref h0)] dX6_init_167 rfl (by decide) (by decide) rfl ?_
  refine ii_goto (pc := 170) (tgt := 145) C dX6_init_170 (by decide) ?_
  refine ii_iload_n (pc := 145) C 0 dX6_init_145 rfl rfl ?_
  refine ii_aload_n (pc := 146) C 1 dX6_init_146 rfl rfl ?_
  refine ii_get (pc := 147) (i := 5) 0 C dX6_init_147 rfl rfl (by decide) fI_X6_23 rfl ?_
  refine ii_alenQ (pc := 150) (v := 2) 2 C dX6_init_150 rfl (by decide) ?_
  refine ii_icmp_ge (pc := 151) (tgt := 173) C dX6_init_151 (by decide) (fun _ => ?_) (fun h => absurd (by decide) h)
  refine ii_qcong (fun j => some ((iE_X6 E0 E2 E4 E10 E12 E14 E16 E18 E20 E22 E24 E26 E28 E30 E32 E34 E36 E38 h0 a5 a6 a7 a8).2.1 (43 + 9 * j))) 1 rfl (fun j hj => ?_) ?_
  · match j, hj with
    | 0, _ => rfl
    | 1, _ => rfl
    | 2, _ => rfl
    | 3, _ => rfl
    | 4, _ => rfl
    | 5, _ => rfl
    | 6, _ => rfl
    | 7, _ => rfl
  refine ii_re (ws' := ([(h0, .inr (6, [.ref (E2.2.1 0), .ref (E4.2.1 0), .ref a5, .int 0, .int 0, .ref a6, .ref a7, .ref a8, .ref (E10.2.1 0), .ref (E12.2.1 0), .ref (E14.2.1 0), .ref (E16.2.1 0), .ref (E18.2.1 0)])), (a5, .inl (E0.2.2 3, 8, .inr (.inr (.inr (.inr (fun j => some ((iE_X6 E0 E2 E4 E10 E12 E14 E16 E18 E20 E22 E24 E26 E28 E30 E32 E34 E36 E38 h0 a5 a6 a7 a8).2.1 (43 + 9 * j)))))))), (a6, .inl (E0.2.2 3, 2, .inr (.inr (.inr (.inr (va_up (va_up (fun _ => none) (Int32.toNatClampNeg 0) (some (E36.2.1 0))) (Int32.toNatClampNeg 1) (some (E38.2.1 0)))))))), (a7, .inl (E0.2.2 1, 2, .inl (fun _ => 0))), (a8, .inl (E0.2.2 0, 6, .inl (fun _ => 0)))] : va_W) ++ (((((((((((((((((kwl E2 shX5 σ2) ++ kwl E4 shX5 σ4) ++ kwl E10 shX4 σ10) ++ kwl E12 shX3 σ12) ++ kwl E14 shX3 σ14) ++ kwl E16 shX0 σ16) ++ kwl E18 shX2 σ18) ++ kwl E20 shX5 σ20) ++ kwl E22 shX5 σ22) ++ kwl E24 shX5 σ24) ++ kwl E26 shX5 σ26) ++ kwl E28 shX5 σ28) ++ kwl E30 shX5 σ30) ++ kwl E32 shX5 σ32) ++ kwl E34 shX5 σ34) ++ kwl E36 shX5 σ36) ++ kwl E38 shX5 σ38)) rfl ?_
  refine ii_qcong (fun j => some ((iE_X6 E0 E2 E4 E10 E12 E14 E16 E18 E20 E22 E24 E26 E28 E30 E32 E34 E36 E38 h0 a5 a6 a7 a8).2.1 (115 + 9 * j))) 2 rfl (fun j hj => ?_) ?_
  · match j, hj with
    | 0, _ => rfl
    | 1, _ => rfl
  refine ii_re (ws' := ([(h0, .inr (6, [.ref (E2.2.1 0), .ref (E4.2.1 0), .ref a5, .int 0, .int 0, .ref a6, .ref a7, .ref a8, .ref (E10.2.1 0), .ref (E12.2.1 0), .ref (E14.2.1 0), .ref (E16.2.1 0), .ref (E18.2.1 0)])), (a5, .inl (E0.2.2 3, 8, .inr (.inr (.inr (.inr (fun j => some ((iE_X6 E0 E2 E4 E10 E12 E14 E16 E18 E20 E22 E24 E26 E28 E30 E32 E34 E36 E38 h0 a5 a6 a7 a8).2.1 (43 + 9 * j)))))))), (a6, .inl (E0.2.2 3, 2, .inr (.inr (.inr (.inr (fun j => some ((iE_X6 E0 E2 E4 E10 E12 E14 E16 E18 E20 E22 E24 E26 E28 E30 E32 E34 E36 E38 h0 a5 a6 a7 a8).2.1 (115 + 9 * j)))))))), (a7, .inl (E0.2.2 1, 2, .inl (fun _ => 0))), (a8, .inl (E0.2.2 0, 6, .inl (fun _ => 0)))] : va_W) ++ (((((((((((((((((kwl E2 shX5 σ2) ++ kwl E4 shX5 σ4) ++ kwl E10 shX4 σ10) ++ kwl E12 shX3 σ12) ++ kwl E14 shX3 σ14) ++ kwl E16 shX0 σ16) ++ kwl E18 shX2 σ18) ++ kwl E20 shX5 σ20) ++ kwl E22 shX5 σ22) ++ kwl E24 shX5 σ24) ++ kwl E26 shX5 σ26) ++ kwl E28 shX5 σ28) ++ kwl E30 shX5 σ30) ++ kwl E32 shX5 σ32) ++ kwl E34 shX5 σ34) ++ kwl E36 shX5 σ36) ++ kwl E38 shX5 σ38)) rfl ?_
  refine ii_perm (iP_X6 E0 E2 E4 E10 E12 E14 E16 E18 E20 E22 E24 E26 E28 E30 E32 E34 E36 E38 σ2 σ4 σ10 σ12 σ14 σ16 σ18 σ20 σ22 σ24 σ26 σ28 σ30 σ32 σ34 σ36 σ38 h0 a5 a6 a7 a8 hE2 hE4 hE10 hE12 hE14 hE16 hE18 hE20 hE22 hE24 hE26 hE28 hE30 hE32 hE34 hE36 hE38) ?_
  exact hret (iE_X6 E0 E2 E4 E10 E12 E14 E16 E18 E20 E22 E24 E26 E28 E30 E32 E34 E36 E38 h0 a5 a6 a7 a8) (iS_X6 σ2 σ4 σ10 σ12 σ14 σ16 σ18 σ20 σ22 σ24 σ26 σ28 σ30 σ32 σ34 σ36 σ38) 173 _ (iQ_X6 E0 E2 E4 E10 E12 E14 E16 E18 E20 E22 E24 E26 E28 E30 E32 E34 E36 E38 h0 a5 a6 a7 a8) rfl ⟨bx_move hF2 (fun j hj => pick_at _ 5 25 9 _ rfl pw_X6 hj), ⟨rfl, rfl⟩, fun i => rfl, fun i => rfl, hF10, hF18⟩ dX6_init_173
