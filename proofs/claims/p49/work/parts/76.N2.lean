/-! the law's own body, from its entry to its end -/
theorem jd_X7_init_0 : decode cX7_init 0 = .ok (.aload_n 0, 1) := by decide +kernel
theorem jd_X7_init_1 : decode cX7_init 1 = .ok (.invokespecial 1, 3) := by decide +kernel
theorem jl_X7_1 : Cond.methodLink RX7 1 Lib.objectInit ∈ kg := kg_in 816 (by decide +kernel) (by decide +kernel)
theorem jd_X7_init_4 : decode cX7_init 4 = .ok (.aload_n 0, 1) := by decide +kernel
theorem jd_X7_init_5 : decode cX7_init 5 = .ok (.aload_n 1, 1) := by decide +kernel
theorem jd_X7_init_6 : decode cX7_init 6 = .ok (.putfield 7, 3) := by decide +kernel
theorem jf_X7_7 : Cond.fieldLink RX7 7 "KaleidoscopeBoxLaw$Told" "s" "[I" ∈ kg := kg_in 817 (by decide +kernel) (by decide +kernel)
theorem jd_X7_init_9 : decode cX7_init 9 = .ok (.return_, 1) := by decide +kernel
abbrev mzX7_init : KM := (RX7, cX7_init, 2, none, { frames := 1, cells := 0, slots := 0, locals := 12 }, 0, 0)
set_option maxHeartbeats 1000000 in
set_option maxRecDepth 100000 in
theorem jt_told (l : Launch) (E0 : KE) (h0 b : Nat) : JC l E0 yX7_init mzX7_init [.ref h0, .ref b] [(h0, .inr (7, [.null, .int 0]))] (fun v w => v = none ∧ w = [(h0, .inr (7, [.ref b, .int 0]))]) := by
  refine jc_of [(0, .ref h0), (1, .ref b)] (by decide +kernel) rfl rfl (Nat.le_of_ble_eq_true rfl) ?_
  intro A pr e s mt args below meth c Q B H locs ls hP hD hS hl
  have C := B.1
  have hnm := B.2.1
  obtain ⟨hx, hb, hml, hown, hts, hA, hK, hF⟩ := id C
  refine lv_aload_n hx hb jd_X7_init_0 rfl (lv_at hl 0 rfl) ?_
  refine W.objInit hx hb hown (hts _ jl_X7_1) (hts _ io_1) (hts _ io_2) rfl (by rw [hml]; exact hl.1) rfl jd_X7_init_1 (Nat.le_of_ble_eq_true rfl) (Nat.le_of_ble_eq_true rfl) ?_
  refine W.eq (g2 := F0 mt 4 ls []) rfl ?_
  refine lv_aload_n hx hb jd_X7_init_4 rfl (lv_at hl 0 rfl) ?_
  refine lv_aload_n hx hb jd_X7_init_5 rfl (lv_at hl 1 rfl) ?_
  refine va_putF (D := E0.1) (ci := 7) (v := .ref b) (ty := (.array .int)) (C := RX7) (T := TX7) (N := 2) hx hb hts (kcl_ws 7 _ rfl) tyX7 tyX7_ok nmX7 hown hK hP hD hS 0 rfl rfl 0 (by decide) (hts _ jf_X7_7) (fun _ h9 => h9) rfl hnm rfl rfl rfl rfl (show _ < List.length _ from Nat.le_of_ble_eq_true rfl) jd_X7_init_6 (fun H locs hP hD hS => ?_)
  have hP : va_P E0.1 vwCl ([(h0, .inr (7, [.ref b, .int 0]))] : va_W) H := hP
  have hD : va_D A ([(h0, .inr (7, [.ref b, .int 0]))] : va_W) := hD
  exact j_vret B jd_X7_init_9 rfl (⟨rfl, rfl⟩) (Nat.le_of_ble_eq_true rfl) (Nat.le_of_ble_eq_true rfl) hP hD hS
theorem yk_X7_init : KMW yX7_init mzX7_init 1 := ⟨⟨by decide +kernel, by decide +kernel, by decide +kernel⟩, ⟨rfl, rfl⟩, kg_in 46 (by decide +kernel) (by decide +kernel), kg_in 815 (by decide +kernel) (by decide +kernel)⟩
theorem ji_X7_init : Cond.instanceMethod yX7_init ∈ kg := kg_in 814 (by decide +kernel) (by decide +kernel)
theorem lI_L_150 : Cond.methodLink RL 150 yX7_init ∈ kg := kg_in 813 (by decide +kernel) (by decide +kernel)
theorem lI_L_153 : Cond.methodLink RL 153 yX6_init ∈ kg := kg_in 74 (by decide +kernel) (by decide +kernel)
theorem lI_L_156 : Cond.methodLink RL 156 yJ4_init_da8c8 ∈ kg := kg_in 1157 (by decide +kernel) (by decide +kernel)
theorem lI_L_159 : Cond.methodLink RL 159 yJ4_append_15ec4 ∈ kg := kg_in 1185 (by decide +kernel) (by decide +kernel)
theorem lI_L_163 : Cond.methodLink RL 163 yL_angle ∈ kg := kg_in 868 (by decide +kernel) (by decide +kernel)
theorem lI_L_166 : Cond.methodLink RL 166 yJ4_append_bf812 ∈ kg := kg_in 1280 (by decide +kernel) (by decide +kernel)
theorem lI_L_175 : Cond.methodLink RL 175 yJ4_toString_0e30d ∈ kg := kg_in 1305 (by decide +kernel) (by decide +kernel)
theorem lI_L_179 : Cond.methodLink RL 179 yL_feed ∈ kg := kg_in 832 (by decide +kernel) (by decide +kernel)
theorem lI_L_183 : Cond.methodLink RL 183 yX6_load ∈ kg := kg_in 327 (by decide +kernel) (by decide +kernel)
theorem lI_L_186 : Cond.methodLink RL 186 yL_acts ∈ kg := kg_in 1083 (by decide +kernel) (by decide +kernel)
theorem lI_L_189 : Cond.methodLink RL 189 yL_isPicture ∈ kg := kg_in 871 (by decide +kernel) (by decide +kernel)
theorem cI_L_117 : Cond.classLink RL 117 RX7 ∈ kg := kg_in 811 (by decide +kernel) (by decide +kernel)
theorem cI_L_9 : Cond.classLink RL 9 RX6 ∈ kg := kg_in 72 (by decide +kernel) (by decide +kernel)
theorem cI_L_154 : Cond.classLink RL 154 RJ4 ∈ kg := kg_in 1155 (by decide +kernel) (by decide +kernel)
theorem nI_X7 : Cond.instantiable RX7 2 ∈ kg := kg_in 812 (by decide +kernel) (by decide +kernel)
theorem nI_X6 : Cond.instantiable RX6 13 ∈ kg := kg_in 73 (by decide +kernel) (by decide +kernel)
theorem tI_X7 : Cond.initialized RX7 ∈ kg := kg_in 46 (by decide +kernel) (by decide +kernel)
theorem tI_X6 : Cond.initialized RX6 ∈ kg := kg_in 47 (by decide +kernel) (by decide +kernel)
theorem tI_J4 : Cond.initialized RJ4 ∈ kg := kg_in 62 (by decide +kernel) (by decide +kernel)
theorem yk_J4_init_da8c8 : KMW yJ4_init_da8c8 mzJ4_init_da8c8 0 := ⟨⟨by decide +kernel, by decide +kernel, by decide +kernel⟩, ⟨rfl, rfl⟩, kg_in 62 (by decide +kernel) (by decide +kernel), kg_in 1159 (by decide +kernel) (by decide +kernel)⟩
theorem ji_J4_init_da8c8 : Cond.instanceMethod yJ4_init_da8c8 ∈ kg := kg_in 1158 (by decide +kernel) (by decide +kernel)
theorem yk_J4_append_15ec4 : KMW yJ4_append_15ec4 mzJ4_append_15ec4 1 := ⟨⟨by decide +kernel, by decide +kernel, by decide +kernel⟩, ⟨rfl, rfl⟩, kg_in 62 (by decide +kernel) (by decide +kernel), kg_in 1188 (by decide +kernel) (by decide +kernel)⟩
theorem ji_J4_append_15ec4 : Cond.instanceMethod yJ4_append_15ec4 ∈ kg := kg_in 1186 (by decide +kernel) (by decide +kernel)
theorem jse_J4_append_15ec4 : Cond.selects RJ4 yJ4_append_15ec4 yJ4_append_15ec4 ∈ kg := kg_in 1187 (by decide +kernel) (by decide +kernel)
theorem yk_J4_append_bf812 : KMW yJ4_append_bf812 mzJ4_append_bf812 1 := ⟨⟨by decide +kernel, by decide +kernel, by decide +kernel⟩, ⟨rfl, rfl⟩, kg_in 62 (by decide +kernel) (by decide +kernel), kg_in 1283 (by decide +kernel) (by decide +kernel)⟩
theorem ji_J4_append_bf812 : Cond.instanceMethod yJ4_append_bf812 ∈ kg := kg_in 1281 (by decide +kernel) (by decide +kernel)
theorem jse_J4_append_bf812 : Cond.selects RJ4 yJ4_append_bf812 yJ4_append_bf812 ∈ kg := kg_in 1282 (by decide +kernel) (by decide +kernel)
theorem yk_J4_toString_0e30d : KMW yJ4_toString_0e30d mzJ4_toString_0e30d 0 := ⟨⟨by decide +kernel, by decide +kernel, by decide +kernel⟩, ⟨rfl, rfl⟩, kg_in 62 (by decide +kernel) (by decide +kernel), kg_in 1308 (by decide +kernel) (by decide +kernel)⟩
theorem ji_J4_toString_0e30d : Cond.instanceMethod yJ4_toString_0e30d ∈ kg := kg_in 1306 (by decide +kernel) (by decide +kernel)
theorem jse_J4_toString_0e30d : Cond.selects RJ4 yJ4_toString_0e30d yJ4_toString_0e30d ∈ kg := kg_in 1307 (by decide +kernel) (by decide +kernel)
theorem yw_L_feed : KMS yL_feed mL_feed 2 := ⟨⟨by decide +kernel, by decide +kernel, by decide +kernel⟩, ⟨rfl, rfl⟩, kg_in 833 (by decide +kernel) (by decide +kernel), kg_in 45 (by decide +kernel) (by decide +kernel), kg_in 834 (by decide +kernel) (by decide +kernel)⟩
theorem yw_L_angle : KMS yL_angle mL_angle 1 := ⟨⟨by decide +kernel, by decide +kernel, by decide +kernel⟩, ⟨rfl, rfl⟩, kg_in 869 (by decide +kernel) (by decide +kernel), kg_in 45 (by decide +kernel) (by decide +kernel), kg_in 870 (by decide +kernel) (by decide +kernel)⟩
theorem yw_L_acts : KMS yL_acts mL_acts 2 := ⟨⟨by decide +kernel, by decide +kernel, by decide +kernel⟩, ⟨rfl, rfl⟩, kg_in 1084 (by decide +kernel) (by decide +kernel), kg_in 45 (by decide +kernel) (by decide +kernel), kg_in 1085 (by decide +kernel) (by decide +kernel)⟩
theorem yw_L_isPicture : KMS yL_isPicture mL_isPicture 1 := ⟨⟨by decide +kernel, by decide +kernel, by decide +kernel⟩, ⟨rfl, rfl⟩, kg_in 872 (by decide +kernel) (by decide +kernel), kg_in 45 (by decide +kernel) (by decide +kernel), kg_in 873 (by decide +kernel) (by decide +kernel)⟩
theorem yw_X6_load : KMV yX6_load mX6_load RX6 0 := ⟨⟨rfl, by decide +kernel, by decide +kernel, by decide +kernel⟩, ⟨rfl, rfl⟩, kg_in 328 (by decide +kernel) (by decide +kernel), kg_in 329 (by decide +kernel) (by decide +kernel), kg_in 47 (by decide +kernel) (by decide +kernel), kg_in 330 (by decide +kernel) (by decide +kernel)⟩
theorem dl_0 : decode code 0 = .ok (.new 117, 3) := by decide +kernel
theorem dl_3 : decode code 3 = .ok (.dup, 1) := by decide +kernel
theorem dl_4 : decode code 4 = .ok (.aload_n 0, 1) := by decide +kernel
theorem dl_5 : decode code 5 = .ok (.invokespecial 150, 3) := by decide +kernel
theorem dl_8 : decode code 8 = .ok (.astore_n 1, 1) := by decide +kernel
theorem dl_9 : decode code 9 = .ok (.new 9, 3) := by decide +kernel
theorem dl_12 : decode code 12 = .ok (.dup, 1) := by decide +kernel
theorem dl_13 : decode code 13 = .ok (.invokespecial 153, 3) := by decide +kernel
theorem dl_16 : decode code 16 = .ok (.astore_n 2, 1) := by decide +kernel
theorem dl_17 : decode code 17 = .ok (.aload_n 2, 1) := by decide +kernel
theorem dl_18 : decode code 18 = .ok (.iconst 0, 1) := by decide +kernel
theorem dl_19 : decode code 19 = .ok (.invokevirtual 27, 3) := by decide +kernel
theorem dl_22 : decode code 22 = .ok (.bipush 60, 2) := by decide +kernel
theorem dl_24 : decode code 24 = .ok (.if_icmp .ne 46, 3) := by decide +kernel
theorem dl_27 : decode code 27 = .ok (.aload_n 2, 1) := by decide +kernel
theorem dl_28 : decode code 28 = .ok (.iconst 1, 1) := by decide +kernel
theorem dl_29 : decode code 29 = .ok (.invokevirtual 27, 3) := by decide +kernel
theorem dl_32 : decode code 32 = .ok (.iconst 3, 1) := by decide +kernel
theorem dl_33 : decode code 33 = .ok (.if_icmp .ne 37, 3) := by decide +kernel
theorem dl_36 : decode code 36 = .ok (.aload_n 2, 1) := by decide +kernel
theorem dl_37 : decode code 37 = .ok (.bipush 8, 2) := by decide +kernel
theorem dl_39 : decode code 39 = .ok (.invokevirtual 27, 3) := by decide +kernel
theorem dl_42 : decode code 42 = .ok (.bipush 37, 2) := by decide +kernel
theorem dl_44 : decode code 44 = .ok (.if_icmp .ne 26, 3) := by decide +kernel
theorem dl_47 : decode code 47 = .ok (.aload_n 2, 1) := by decide +kernel
theorem dl_48 : decode code 48 = .ok (.invokevirtual 94, 3) := by decide +kernel
theorem dl_51 : decode code 51 = .ok (.ifCond .ne 19, 3) := by decide +kernel
theorem dl_54 : decode code 54 = .ok (.aload_n 2, 1) := by decide +kernel
theorem dl_55 : decode code 55 = .ok (.iconst 0, 1) := by decide +kernel
theorem dl_56 : decode code 56 = .ok (.invokevirtual 78, 3) := by decide +kernel
theorem dl_59 : decode code 59 = .ok (.iconst (-1), 1) := by decide +kernel
theorem dl_60 : decode code 60 = .ok (.if_icmp .ne 10, 3) := by decide +kernel
theorem dl_63 : decode code 63 = .ok (.aload_n 2, 1) := by decide +kernel
theorem dl_64 : decode code 64 = .ok (.invokevirtual 113, 3) := by decide +kernel
theorem dl_67 : decode code 67 = .ok (.ifCond .eq 5, 3) := by decide +kernel
theorem dl_70 : decode code 70 = .ok (.iconst 0, 1) := by decide +kernel
theorem dl_71 : decode code 71 = .ok (.ireturn, 1) := by decide +kernel
theorem dl_72 : decode code 72 = .ok (.aload_n 2, 1) := by decide +kernel
theorem dl_73 : decode code 73 = .ok (.new 154, 3) := by decide +kernel
theorem dl_76 : decode code 76 = .ok (.dup, 1) := by decide +kernel
theorem dl_77 : decode code 77 = .ok (.invokespecial 156, 3) := by decide +kernel
theorem dl_80 : decode code 80 = .ok (.ldc 157, 2) := by decide +kernel
theorem dl_82 : decode code 82 = .ok (.invokevirtual 159, 3) := by decide +kernel
theorem dl_85 : decode code 85 = .ok (.aload_n 1, 1) := by decide +kernel
theorem dl_86 : decode code 86 = .ok (.iconst 5, 1) := by decide +kernel
theorem dl_87 : decode code 87 = .ok (.invokevirtual 116, 3) := by decide +kernel
theorem dl_90 : decode code 90 = .ok (.invokestatic 163, 3) := by decide +kernel
theorem dl_93 : decode code 93 = .ok (.invokevirtual 166, 3) := by decide +kernel
theorem dl_96 : decode code 96 = .ok (.ldc 169, 2) := by decide +kernel
theorem dl_98 : decode code 98 = .ok (.invokevirtual 159, 3) := by decide +kernel
theorem dl_101 : decode code 101 = .ok (.iconst 1, 1) := by decide +kernel
theorem dl_102 : decode code 102 = .ok (.aload_n 1, 1) := by decide +kernel
theorem dl_103 : decode code 103 = .ok (.iconst 4, 1) := by decide +kernel
theorem dl_104 : decode code 104 = .ok (.invokevirtual 116, 3) := by decide +kernel
theorem dl_107 : decode code 107 = .ok (.iadd, 1) := by decide +kernel
theorem dl_108 : decode code 108 = .ok (.invokevirtual 166, 3) := by decide +kernel
theorem dl_111 : decode code 111 = .ok (.ldc 171, 2) := by decide +kernel
theorem dl_113 : decode code 113 = .ok (.invokevirtual 159, 3) := by decide +kernel
theorem dl_116 : decode code 116 = .ok (.iconst 1, 1) := by decide +kernel
theorem dl_117 : decode code 117 = .ok (.aload_n 1, 1) := by decide +kernel
theorem dl_118 : decode code 118 = .ok (.bipush 100, 2) := by decide +kernel
theorem dl_120 : decode code 120 = .ok (.invokevirtual 116, 3) := by decide +kernel
theorem dl_123 : decode code 123 = .ok (.iadd, 1) := by decide +kernel
theorem dl_124 : decode code 124 = .ok (.invokevirtual 166, 3) := by decide +kernel
theorem dl_127 : decode code 127 = .ok (.ldc 173, 2) := by decide +kernel
theorem dl_129 : decode code 129 = .ok (.invokevirtual 159, 3) := by decide +kernel
theorem dl_132 : decode code 132 = .ok (.invokevirtual 175, 3) := by decide +kernel
theorem dl_135 : decode code 135 = .ok (.invokestatic 179, 3) := by decide +kernel
theorem dl_138 : decode code 138 = .ok (.aload_n 2, 1) := by decide +kernel
theorem dl_139 : decode code 139 = .ok (.invokevirtual 183, 3) := by decide +kernel
theorem dl_142 : decode code 142 = .ok (.ifCond .eq 5, 3) := by decide +kernel
theorem dl_145 : decode code 145 = .ok (.iconst 0, 1) := by decide +kernel
theorem dl_146 : decode code 146 = .ok (.ireturn, 1) := by decide +kernel
theorem dl_147 : decode code 147 = .ok (.iconst 0, 1) := by decide +kernel
theorem dl_148 : decode code 148 = .ok (.istore_n 3, 1) := by decide +kernel
theorem dl_149 : decode code 149 = .ok (.iload_n 3, 1) := by decide +kernel
theorem dl_150 : decode code 150 = .ok (.bipush 12, 2) := by decide +kernel
theorem dl_152 : decode code 152 = .ok (.if_icmp .ge 19, 3) := by decide +kernel
theorem dl_155 : decode code 155 = .ok (.aload_n 2, 1) := by decide +kernel
theorem dl_156 : decode code 156 = .ok (.aload_n 1, 1) := by decide +kernel
theorem dl_157 : decode code 157 = .ok (.invokestatic 146, 3) := by decide +kernel
theorem dl_160 : decode code 160 = .ok (.ifCond .ne 5, 3) := by decide +kernel
theorem dl_163 : decode code 163 = .ok (.iconst 0, 1) := by decide +kernel
theorem dl_164 : decode code 164 = .ok (.ireturn, 1) := by decide +kernel
theorem dl_165 : decode code 165 = .ok (.iinc 3 1, 3) := by decide +kernel
theorem dl_168 : decode code 168 = .ok (.goto (-19), 3) := by decide +kernel
theorem dl_171 : decode code 171 = .ok (.iconst 0, 1) := by decide +kernel
theorem dl_172 : decode code 172 = .ok (.istore_n 3, 1) := by decide +kernel
theorem dl_173 : decode code 173 = .ok (.iload_n 3, 1) := by decide +kernel
theorem dl_174 : decode code 174 = .ok (.bipush 26, 2) := by decide +kernel
theorem dl_176 : decode code 176 = .ok (.if_icmp .ge 32, 3) := by decide +kernel
theorem dl_179 : decode code 179 = .ok (.aload_n 2, 1) := by decide +kernel
theorem dl_180 : decode code 180 = .ok (.aload_n 1, 1) := by decide +kernel
theorem dl_181 : decode code 181 = .ok (.invokestatic 186, 3) := by decide +kernel
theorem dl_184 : decode code 184 = .ok (.ifCond .eq 16, 3) := by decide +kernel
theorem dl_187 : decode code 187 = .ok (.iload_n 3, 1) := by decide +kernel
theorem dl_188 : decode code 188 = .ok (.iconst 3, 1) := by decide +kernel
theorem dl_189 : decode code 189 = .ok (.irem, 1) := by decide +kernel
theorem dl_190 : decode code 190 = .ok (.ifCond .ne 12, 3) := by decide +kernel
theorem dl_193 : decode code 193 = .ok (.aload_n 2, 1) := by decide +kernel
theorem dl_194 : decode code 194 = .ok (.invokestatic 189, 3) := by decide +kernel
theorem dl_197 : decode code 197 = .ok (.ifCond .ne 5, 3) := by decide +kernel
theorem dl_200 : decode code 200 = .ok (.iconst 0, 1) := by decide +kernel
theorem dl_201 : decode code 201 = .ok (.ireturn, 1) := by decide +kernel
theorem dl_202 : decode code 202 = .ok (.iinc 3 1, 3) := by decide +kernel
theorem dl_205 : decode code 205 = .ok (.goto (-32), 3) := by decide +kernel
theorem dl_208 : decode code 208 = .ok (.aload_n 2, 1) := by decide +kernel
theorem dl_209 : decode code 209 = .ok (.invokestatic 143, 3) := by decide +kernel
theorem dl_212 : decode code 212 = .ok (.ireturn, 1) := by decide +kernel
set_option maxHeartbeats 4000000 in
set_option maxRecDepth 100000 in
theorem law_acts {l : Launch} {E0 : KE} {sh0 : KSh} {A : Nat → Prop} {p : Program} {e : Env} {s : State} {m : MethodId} {below : List Frame} {meth : Method} {c : Code} {b : Nat} {Q : State → Prop} (hst : l.stackTraces = false) (hz0 : ∀ q, 1000 ≤ q → ∃ n, sh0 q = .inr (2, n)) (C : LWX l E0 sh0 A p s m #[Value.ref b] c) {E : KE} (hE : EQ E0 E) (hend : ∀ (k n : Nat) (lo : List (Nat × Value)) (ws : va_W), k ≤ 600086 → n ≤ 7301442 → IW l E0 A p e room_1 s m #[Value.ref b] below meth c 4 Q k n 212 lo [.int 1] ws) : ∀ (d i : Nat) (lo1 : List (Nat × Value)) (k n t : Nat) (m1 : Vc) (ps : List Vc) (σ : Sto), i + d = 26 → k + d ≤ 600000 → n + 10 * d ≤ 7300000 → INV m1 ps σ → TD t σ → t ≤ 100 + 6 * i →
    IW l E0 A p e room_1 s m #[Value.ref b] below meth c 4 Q k n 173 [(3, .int (nI i)), (2, .ref (E.2.1 0)), (1, .ref (E.2.1 133)), (0, .ref b)] [] ([] ++ kwl E ksh σ) := by
  have C1 := C.1
  intro d
  induction d with
  | zero =>
    intro i lo1 k n t m1 ps σ hi hk hn h ht hb
    obtain rfl : i = 26 := by omega
    refine ii_iload_n (pc := 173) C1 0 dl_173 rfl rfl ?_
    refine ii_bipush (pc := 174) (v := 26) C1 dl_174 (by decide) ?_
    refine ii_icmp_ge (pc := 176) (tgt := 208) C1 dl_176 (by decide) (fun _ => ?_) (fun h => absurd (by decide) h)
    refine ii_aload_n (pc := 208) C1 1 dl_208 rfl rfl ?_
    obtain ⟨τ, e1, h1, -⟩ := k_hasMaps h
    refine la_S (pc := 209) (st := []) ([] : va_W) [.ref 0] (M' := mL_hasMaps) C hE hz0 ko_all (tL_hasMaps (kxt sh0 ksh) (kag_xt hz0) l hst σ _ e1) rfl dl_209 rfl yw_L_hasMaps lk_L_143 ⟨Nat.le_of_ble_eq_true rfl, Nat.le_of_ble_eq_true rfl⟩ (show _ ≤ 8 from Nat.le_of_ble_eq_true rfl) (show _ ∧ _ from ⟨by show k + 0 ≤ 600086; omega, by show n + 0 ≤ 7301442; omega⟩) ?_
    exact hend _ _ _ _ (by show k + 0 ≤ 600086; omega) (by show n + 0 ≤ 7301442; omega)
  | succ d ih =>
    intro i lo1 k n t m1 ps σ hi hk hn h ht hb
    refine ii_iload_n (pc := 173) C1 0 dl_173 rfl rfl ?_
    refine ii_bipush (pc := 174) (v := 26) C1 dl_174 (by decide) ?_
    refine ii_icmp_ge (pc := 176) (tgt := 208) C1 dl_176 (by decide) (fun h9 => absurd ((nI_leI (a := 26) (by omega) (by omega)).mp h9) (by omega)) (fun _ => ?_)
    refine ii_aload_n (pc := 179) C1 1 dl_179 rfl rfl ?_
    refine ii_aload_n (pc := 180) C1 2 dl_180 rfl rfl ?_
    obtain ⟨m2, ps2, t2, τ, e1, h1, ht1, hb1⟩ := k_acts (sh := (kxt sh0 ksh)) h ht (by omega)
    refine la_S (pc := 181) (st := []) ([] : va_W) [.ref 0, .ref 133] (M' := mL_acts) C hE hz0 ko_all (tL_acts (kxt sh0 ksh) (kag_xt hz0) l hst σ _ e1) rfl dl_181 rfl yw_L_acts lI_L_186 ⟨Nat.le_of_ble_eq_true rfl, Nat.le_of_ble_eq_true rfl⟩ (show _ ≤ 8 from Nat.le_of_ble_eq_true rfl) (show _ ∧ _ from ⟨by show k + 0 ≤ 600086; omega, by show n + 0 ≤ 7301442; omega⟩) ?_
    refine ii_eqf (pc := 184) (tgt := 200) C1 dl_184 (by decide) (show ¬ kb true = 0 by decide) ?_
    refine ii_iload_n (pc := 187) C1 0 dl_187 rfl rfl ?_
    refine ii_iconst (pc := 188) (v := 3) C1 dl_188 (by decide) ?_
    refine ii_irem (pc := 189) C1 dl_189 (by decide) ?_
    have next : ∀ (k' n' : Nat) (ρ : Sto), k' ≤ k + 1 → n' ≤ n + 10 → INV m2 ps2 ρ → TD t2 ρ → IW l E0 A p e room_1 s m #[Value.ref b] below meth c 4 Q k' n' 202 [(3, .int (nI i)), (2, .ref (E.2.1 0)), (1, .ref (E.2.1 133)), (0, .ref b)] [] ([] ++ kwl E ksh ρ) := by
      intro k' n' ρ hk' hn' h2 ht2
      refine ii_iinc (pc := 202) (v := nI (i + 1)) C1 0 [(3, .int (nI (i + 1))), (2, .ref (E.2.1 0)), (1, .ref (E.2.1 133)), (0, .ref b)] dl_202 rfl (nI_1 i) (by decide) rfl ?_
      refine ii_goto (pc := 205) (tgt := 173) C1 dl_205 (by decide) ?_
      exact ih (i + 1) [] k' n' t2 m2 ps2 ρ (by omega) (by omega) (by omega) h2 ht2 (by omega)
    by_cases hr : krem (nI i) 3 = 0
    · refine ii_ne0 (pc := 190) (tgt := 202) C1 dl_190 (by decide) hr ?_
      refine ii_aload_n (pc := 193) C1 1 dl_193 rfl rfl ?_
      obtain ⟨ρ, e2, h2, hx2⟩ := k_isPicture h1
      refine la_S (pc := 194) (st := []) ([] : va_W) [.ref 0] (M' := mL_isPicture) C hE hz0 ko_all (tL_isPicture (kxt sh0 ksh) (kag_xt hz0) l hst kxt_134 τ _ e2) rfl dl_194 rfl yw_L_isPicture lI_L_189 ⟨Nat.le_of_ble_eq_true rfl, Nat.le_of_ble_eq_true rfl⟩ (show _ ≤ 8 from Nat.le_of_ble_eq_true rfl) (show _ ∧ _ from ⟨by show k + 0 + 1 ≤ 600086; omega, by show n + 0 + 10 ≤ 7301442; omega⟩) ?_
      refine ii_net (pc := 197) (tgt := 202) C1 dl_197 (by decide) (show ¬ kb true = 0 by decide) ?_
      exact next _ _ ρ (by show k + 0 + 1 ≤ _; omega) (by show n + 0 + 10 ≤ _; omega) h2 (by unfold TD; rw [hx2]; exact ht1)
    · refine ii_net (pc := 190) (tgt := 202) C1 dl_190 (by decide) hr ?_
      exact next _ _ τ (by show k + 0 ≤ _; omega) (by show n + 0 ≤ _; omega) h1 ht1
set_option maxHeartbeats 4000000 in
set_option maxRecDepth 100000 in
theorem law_adds {l : Launch} {E0 : KE} {sh0 : KSh} {A : Nat → Prop} {p : Program} {e : Env} {s : State} {m : MethodId} {below : List Frame} {meth : Method} {c : Code} {b : Nat} {Q : State → Prop} (hst : l.stackTraces = false) (hz0 : ∀ q, 1000 ≤ q → ∃ n, sh0 q = .inr (2, n)) (C : LWX l E0 sh0 A p s m #[Value.ref b] c) {E : KE} (hE : EQ E0 E) (hend : ∀ (k n : Nat) (lo : List (Nat × Value)) (ws : va_W), k ≤ 600086 → n ≤ 7301442 → IW l E0 A p e room_1 s m #[Value.ref b] below meth c 4 Q k n 212 lo [.int 1] ws) : ∀ (d i : Nat) (k n t : Nat) (m1 : Vc) (ps : List Vc) (σ : Sto), i + d = 12 → k + 26 ≤ 600000 → n + 260 ≤ 7300000 → INV m1 ps σ → TD t σ → t ≤ 3 + 5 * i →
    IW l E0 A p e room_1 s m #[Value.ref b] below meth c 4 Q k n 149 [(3, .int (nI i)), (2, .ref (E.2.1 0)), (1, .ref (E.2.1 133)), (0, .ref b)] [] ([] ++ kwl E ksh σ) := by
  have C1 := C.1
  intro d
  induction d with
  | zero =>
    intro i k n t m1 ps σ hi hk hn h ht hb
    obtain rfl : i = 12 := by omega
    refine ii_iload_n (pc := 149) C1 0 dl_149 rfl rfl ?_
    refine ii_bipush (pc := 150) (v := 12) C1 dl_150 (by decide) ?_
    refine ii_icmp_ge (pc := 152) (tgt := 171) C1 dl_152 (by decide) (fun _ => ?_) (fun h => absurd (by decide) h)
    refine ii_iconst (pc := 171) (v := nI 0) C1 dl_171 (by decide) ?_
    refine ii_istore_n (pc := 172) C1 [(3, .int (nI 0)), (2, .ref (E.2.1 0)), (1, .ref (E.2.1 133)), (0, .ref b)] dl_172 rfl (by decide) rfl ?_
    exact law_acts hst hz0 C hE hend 26 0 [] k n t m1 ps σ (by omega) (by omega) (by omega) h ht (by omega)
  | succ d ih =>
    intro i k n t m1 ps σ hi hk hn h ht hb
    refine ii_iload_n (pc := 149) C1 0 dl_149 rfl rfl ?_
    refine ii_bipush (pc := 150) (v := 12) C1 dl_150 (by decide) ?_
    refine ii_icmp_ge (pc := 152) (tgt := 171) C1 dl_152 (by decide) (fun h9 => absurd ((nI_leI (a := 12) (by omega) (by omega)).mp h9) (by omega)) (fun _ => ?_)
    refine ii_aload_n (pc := 155) C1 1 dl_155 rfl rfl ?_
    refine ii_aload_n (pc := 156) C1 2 dl_156 rfl rfl ?_
    obtain ⟨m2, ps2, t2, τ, e1, h1, ht1, hb1⟩ := k_adds (sh := (kxt sh0 ksh)) h ht (by omega)
    refine la_S (pc := 157) (st := []) ([] : va_W) [.ref 0, .ref 133] (M' := mL_adds) C hE hz0 ko_all (tL_adds (kxt sh0 ksh) (kag_xt hz0) l hst σ _ e1) rfl dl_157 rfl yw_L_adds lk_L_146 ⟨Nat.le_of_ble_eq_true rfl, Nat.le_of_ble_eq_true rfl⟩ (show _ ≤ 8 from Nat.le_of_ble_eq_true rfl) (show _ ∧ _ from ⟨by show k + 0 ≤ 600086; omega, by show n + 0 ≤ 7301442; omega⟩) ?_
    refine ii_net (pc := 160) (tgt := 165) C1 dl_160 (by decide) (show ¬ kb true = 0 by decide) ?_
    refine ii_iinc (pc := 165) (v := nI (i + 1)) C1 0 [(3, .int (nI (i + 1))), (2, .ref (E.2.1 0)), (1, .ref (E.2.1 133)), (0, .ref b)] dl_165 rfl (nI_1 i) (by decide) rfl ?_
    refine ii_goto (pc := 168) (tgt := 149) C1 dl_168 (by decide) ?_
    exact ih (i + 1) _ _ t2 m2 ps2 τ (by omega) (by show k + 0 + 26 ≤ _; omega) (by show n + 0 + 260 ≤ _; omega) h1 ht1 (by omega)
