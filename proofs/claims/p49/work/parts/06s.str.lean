section KSTR
variable {sh : KSh} {l : Launch} {M : KM} {k n pc : Nat} {lo : List (Nat × Value)} {st : List Value} {σ : Sto} {o : KO}
theorem kv_getSV {t ix : Nat} (ht : ktx sh t = true) (hd : decode M.2.1 pc = .ok (.getfield ix, 3)) (hlk : Cond.fieldLink M.1 ix "java/lang/String" "value" "[B" ∈ kg) (kk : VV sh l M k n (pc + 3) lo (.ref (2100 + t) :: st) σ o) : VV sh l M k n pc lo (.ref (2000 + t) :: st) σ o :=
  fun E A p e s m args below meth c C H locs ls hW hS hl => vk_getf C.1 C.2.1 (C.2.2.2.2.2.2.2.2.2.1.2.2.2.2.2.1 t ht).2.2.1 hS C.2.2.2.2.1 (C.2.2.2.2.2.2.1 _ hlk) (fun _ h9 => h9) hd (kk E A p e s m args below meth c C H locs ls hW hS hl)
theorem kv_getSC {t ix : Nat} (ht : ktx sh t = true) (hd : decode M.2.1 pc = .ok (.getfield ix, 3)) (hlk : Cond.fieldLink M.1 ix "java/lang/String" "coder" "B" ∈ kg) (kk : VV sh l M k n (pc + 3) lo (.int 0 :: st) σ o) : VV sh l M k n pc lo (.ref (2000 + t) :: st) σ o :=
  fun E A p e s m args below meth c C H locs ls hW hS hl => vk_getf C.1 C.2.1 (C.2.2.2.2.2.2.2.2.2.1.2.2.2.2.2.1 t ht).2.1 hS C.2.2.2.2.1 (C.2.2.2.2.2.2.1 _ hlk) (fun _ h9 => h9) hd (kk E A p e s m args below meth c C H locs ls hW hS hl)
theorem kv_sbald {t : Nat} {i : Int32} (ht : ktx sh t = true) (hd : decode M.2.1 pc = .ok (.baload, 1)) (hi : kin i (ksbz sh t).length = true) (kk : VV sh l M k n (pc + 1) lo (.int ((ksbz sh t).getD i.toNatClampNeg 0) :: st) σ o) : VV sh l M k n pc lo (.int i :: .ref (2100 + t) :: st) σ o :=
  fun E A p e s m args below meth c C H locs ls hW hS hl => va_tb C.1 C.2.1 (C.2.2.2.2.2.2.2.2.2.1.2.2.2.2.2.1 t ht).2.2.2.1 hS (kin_in hi) rfl hd (kk E A p e s m args below meth c C H locs ls hW hS hl)
theorem kv_salen {t : Nat} (ht : ktx sh t = true) (hd : decode M.2.1 pc = .ok (.arraylength, 1)) (kk : VV sh l M k n (pc + 1) lo (.int (nI (ksbz sh t).length) :: st) σ o) : VV sh l M k n pc lo (.ref (2100 + t) :: st) σ o :=
  fun E A p e s m args below meth c C H locs ls hW hS hl => va_tlen C.1 C.2.1 (C.2.2.2.2.2.2.2.2.2.1.2.2.2.2.2.1 t ht).2.2.2.1 hS rfl hd (kk E A p e s m args below meth c C H locs ls hW hS hl)
theorem kv_getCS {ix : Nat} (hd : decode M.2.1 pc = .ok (.getstatic ix, 3)) (hlk : Cond.fieldLink M.1 ix "java/lang/String" "COMPACT_STRINGS" "Z" ∈ kg) (kk : VV sh l M k n (pc + 3) lo (.int 1 :: st) σ o) : VV sh l M k n pc lo st σ o :=
  fun E A p e s m args below meth c C H locs ls hW hS hl => va_gets C.1 C.2.1 C.2.2.2.2.2.2.2.2.2.1.2.2.2.1 hS C.2.2.2.2.1 (C.2.2.2.2.2.2.1 _ hlk) (fun _ h9 => h9) hd (kk E A p e s m args below meth c C H locs ls hW hS hl)
theorem kv_getSF {ix : Nat} (hd : decode M.2.1 pc = .ok (.getstatic ix, 3)) (hlk : Cond.fieldLink M.1 ix "jdk/internal/util/Preconditions" "SIOOBE_FORMATTER" "Ljava/util/function/BiFunction;" ∈ kg) (kk : VV sh l M k n (pc + 3) lo (.null :: st) σ o) : VV sh l M k n pc lo st σ o :=
  fun E A p e s m args below meth c C H locs ls hW hS hl => va_gets C.1 C.2.1 C.2.2.2.2.2.2.2.2.2.1.2.2.2.2.1 hS C.2.2.2.2.1 (C.2.2.2.2.2.2.1 _ hlk) (fun _ h9 => h9) hd (kk E A p e s m args below meth c C H locs ls hW hS hl)
theorem kv_i2c {x : Int32} (hd : decode M.2.1 pc = .ok (.i2c, 1)) (kk : VV sh l M k n (pc + 1) lo (.int (x.toUInt32 % 65536).toInt32 :: st) σ o) : VV sh l M k n pc lo (.int x :: st) σ o :=
  fun E A p e s m args below meth c C H locs ls hW hS hl => lv_i2c C.1 C.2.1 hd rfl (kk E A p e s m args below meth c C H locs ls hW hS hl)
theorem kv_ldcw {ix : Nat} {v : Int32} (hd : decode M.2.1 pc = .ok (.ldc_w ix, 3)) (hk : Cond.constant M.1 ix v ∈ kg) (kk : VV sh l M k n (pc + 3) lo (.int v :: st) σ o) : VV sh l M k n pc lo st σ o :=
  fun E A p e s m args below meth c C H locs ls hW hS hl => lv_ldcw C.1 C.2.1 C.2.2.2.2.1 (C.2.2.2.2.2.2.1 _ hk) hd (kk E A p e s m args below meth c C H locs ls hW hS hl)
theorem kv_ldcs (t : Nat) {ix : Nat} {tx : String} (hr : kstr[t]? = some (M.1, ix, tx)) (hd : decode M.2.1 pc = .ok (.ldc ix, 2)) (kk : VV sh l M k n (pc + 2) lo (.ref (2000 + t) :: st) σ o) : VV sh l M k n pc lo st σ o := by
  intro E A p e s m args below meth c C H locs ls hW hS hl
  have ht : ktx sh t = true := ktx_lt (List.getElem?_eq_some_iff.mp hr).1
  exact va_ldcS C.1 C.2.1 C.2.2.2.2.1 ((C.2.2.2.2.2.2.2.2.2.1.2.2.2.2.2.1 t ht).2.2.2.2 _ hr) hd (kk E A p e s m args below meth c C H locs ls hW hS hl)
theorem kv_ldcsW (t : Nat) {ix : Nat} {tx : String} (hr : kstr[t]? = some (M.1, ix, tx)) (hd : decode M.2.1 pc = .ok (.ldc_w ix, 3)) (kk : VV sh l M k n (pc + 3) lo (.ref (2000 + t) :: st) σ o) : VV sh l M k n pc lo st σ o := by
  intro E A p e s m args below meth c C H locs ls hW hS hl
  have ht : ktx sh t = true := ktx_lt (List.getElem?_eq_some_iff.mp hr).1
  have hZ := (C.2.2.2.2.2.2.2.2.2.1.2.2.2.2.2.1 t ht).2.2.2.2 _ hr
  intro T hT X
  obtain ⟨t9, a1, b1⟩ := kk E A p e s m args below meth c C H locs ls hW hS hl T hT X
  exact ⟨t9, X.ldcStringW C.1 C.2.2.2.2.1 (text := tx) (a := E.2.1 (2000 + t)) hZ.1 hZ.2 (g := F0 m pc ls (st.map (kmv E))) rfl (by rw [C.2.1]; exact hd) t9 a1, b1⟩
/-- a call on a text -/
theorem kv_sV {v : Value} {M' : KM} {y : MethodName} {t ix : Nat} (ht : ktx sh t = true) (As : List Value) (stk2 : List Value) (pc2 k2 n2 : Nat) {stk : List Value} (hc : CT sh l M' y (.ref (2000 + t) :: As) σ (0, v, σ)) (hd : decode M.2.1 pc = .ok (.invokevirtual ix, 3)) (hst : stk = As.reverse ++ .ref (2000 + t) :: st)
    (hy : KMV y M' "java/lang/String" As.length) (hlk : Cond.methodLink M.1 ix y ∈ kg)
    (hR : M'.2.2.2.2.1.frames + 1 ≤ M.2.2.2.2.1.frames ∧ 8 + (M'.2.2.1 + 11) + M'.2.2.2.2.1.locals ≤ M.2.2.2.2.1.locals) (hcat : (st.map fun v => v.category).sum ≤ 8) (hf : k + M'.2.2.2.2.2.1 ≤ M.2.2.2.2.1.cells ∧ n + M'.2.2.2.2.2.2 ≤ M.2.2.2.2.1.slots)
    (h2 : (krv M'.2.2.2.1 v).toList ++ st = stk2) (h4 : pc + 3 = pc2 ∧ k + M'.2.2.2.2.2.1 = k2 ∧ n + M'.2.2.2.2.2.2 = n2)
    (kk : VV sh l M k2 n2 pc2 lo stk2 σ o) : VV sh l M k n pc lo stk σ o := by
  obtain ⟨rfl, rfl, rfl⟩ := h4
  subst h2
  intro E A p e s m args below meth c C H locs ls hW hS hl
  subst hst
  obtain ⟨hy0, hyr, hy1, hy2, hy3, hy4⟩ := hy
  have hC := C
  obtain ⟨hx0, hb, hml, hr, hown, hlocks, hts, het, hAs, hK, hst0⟩ := hC
  have hsub := kwa_sub hW hAs hS.1
  obtain ⟨cell, g1, g2, g3, -⟩ := (hK.2.2.2.2.2.1 t ht).1.kept hS.2.1
  refine kcall_end (M' := M') (o1 := (0, v, σ)) (a := (Value.ref (E.2.1 (2000 + t)) :: As.map (kmv E)).toArray) C hW hS hl (vx_runV (As := As.map (kmv E)) (rest := st.map (kmv E)) (b := E.2.1 (2000 + t)) (C := "java/lang/String") (y := y) (bytes := M'.2.1) (maxL := M'.2.2.1) (ret := M'.2.2.2.1) ⟨hx0, hb, hml, hown, hts⟩ (hc E H.size) (cwV As.length hts (kgV hlk hy1 hy2 hy3 hy4) rfl hyr.1 hyr.2 hy0 hR)
    ⟨kblind E sh (.ref (2000 + t) :: As) _ _, ⟨cell, g1, g2, g3⟩, fun U hU hWU => ⟨rfl, by rw [hU], by rw [hU]; exact hW.call hWU, by rw [hU]; exact ((hK.kept hS.2.1).moved hWU).narrow hsub⟩⟩
    rfl (List.length_map _) hl.1 ?_ (lv_room (by rw [kcats]; exact hcat)) hd hf) (fun h0 => absurd rfl h0) (fun _ => kk)
  show List.map (kmv E) (As.reverse ++ .ref (2000 + t) :: st) = _
  rw [List.map_append, List.map_reverse]
  rfl
end KSTR
theorem kin_lt31 {i : Int32} {N : Nat} (h : kin i N = true) (hN : N < 2 ^ 31) : ¬ i < 0 ∧ i < nI N := by
  unfold kin at h
  simp only [Bool.and_eq_true, decide_eq_true_eq] at h
  obtain ⟨j, hj, rfl⟩ := nI_of h.1
  rw [nI_clamp hj] at h
  exact ⟨h.1, nI_lt h.2 hN⟩
theorem ksby_31 (t : Nat) : (ksby t).length < 100 := by
  unfold ksby
  have : t % 9 < 9 := Nat.mod_lt _ (by decide)
  generalize t % 9 = j at this
  revert j
  decide +kernel
theorem ksbz_31 {sh : KSh} {t : Nat} (h : ktx sh t = true) : (ksbz sh t).length < 2 ^ 31 := by
  unfold ksbz
  split
  · have := ksby_31 t; omega
  · unfold ktx at h
    rename_i hn
    rw [decide_eq_false hn, Bool.false_or, Bool.and_eq_true, Bool.and_eq_true] at h
    have := of_decide_eq_true h.2.2
    unfold dyb
    rw [List.length_map, List.length_range]
    omega
abbrev mJ0_coder_7d493 : KM := (RJ0, cJ0_coder_7d493, 1, some .byte, { frames := 0, cells := 0, slots := 0, locals := 0 }, 0, 0)
abbrev mJ0_isLatin1_aae02 : KM := (RJ0, cJ0_isLatin1_aae02, 1, some .boolean, { frames := 0, cells := 0, slots := 0, locals := 0 }, 0, 0)
abbrev mJ0_length_8abf5 : KM := (RJ0, cJ0_length_8abf5, 1, some .int, { frames := 1, cells := 0, slots := 0, locals := 20 }, 0, 0)
abbrev mJ3_checkIndex_8e157 : KM := (RJ3, cJ3_checkIndex_8e157, 3, some .int, { frames := 0, cells := 0, slots := 0, locals := 0 }, 0, 0)
abbrev mJ0_checkIndex_df160 : KM := (RJ0, cJ0_checkIndex_df160, 2, none, { frames := 1, cells := 0, slots := 0, locals := 22 }, 0, 0)
abbrev mJ1_charAt_3b067 : KM := (RJ1, cJ1_charAt_3b067, 2, some .char, { frames := 2, cells := 0, slots := 0, locals := 43 }, 0, 0)
abbrev mJ0_charAt_5068e : KM := (RJ0, cJ0_charAt_5068e, 2, some .char, { frames := 3, cells := 0, slots := 0, locals := 64 }, 0, 0)
def kschz (sh : KSh) (t : Nat) (i : Int32) : Int32 := (((ksbz sh t).getD i.toNatClampNeg 0 &&& 255).toUInt32 % 65536).toInt32
theorem fl_J0_38 : Cond.fieldLink RJ0 38 "java/lang/String" "COMPACT_STRINGS" "Z" ∈ kg := kg_in 380 (by decide +kernel) (by decide +kernel)
theorem fl_J0_15 : Cond.fieldLink RJ0 15 "java/lang/String" "coder" "B" ∈ kg := kg_in 1352 (by decide +kernel) (by decide +kernel)
theorem fl_J0_9 : Cond.fieldLink RJ0 9 "java/lang/String" "value" "[B" ∈ kg := kg_in 1351 (by decide +kernel) (by decide +kernel)
theorem fl_J0_1053 : Cond.fieldLink RJ0 1053 "jdk/internal/util/Preconditions" "SIOOBE_FORMATTER" "Ljava/util/function/BiFunction;" ∈ kg := kg_in 396 (by decide +kernel) (by decide +kernel)
theorem dJ0_length_8abf5_0 : decode cJ0_length_8abf5 0 = .ok (.aload_n 0, 1) := by decide +kernel
theorem dJ0_length_8abf5_1 : decode cJ0_length_8abf5 1 = .ok (.getfield 9, 3) := by decide +kernel
theorem dJ0_length_8abf5_4 : decode cJ0_length_8abf5 4 = .ok (.arraylength, 1) := by decide +kernel
theorem dJ0_length_8abf5_5 : decode cJ0_length_8abf5 5 = .ok (.aload_n 0, 1) := by decide +kernel
theorem dJ0_length_8abf5_6 : decode cJ0_length_8abf5 6 = .ok (.invokevirtual 335, 3) := by decide +kernel
theorem dJ0_length_8abf5_9 : decode cJ0_length_8abf5 9 = .ok (.ishr, 1) := by decide +kernel
theorem dJ0_length_8abf5_10 : decode cJ0_length_8abf5 10 = .ok (.ireturn, 1) := by decide +kernel
theorem yw_J0_length_8abf5 : KMV yJ0_length_8abf5 mJ0_length_8abf5 RJ0 0 := ⟨⟨rfl, by decide +kernel, by decide +kernel, by decide +kernel⟩, ⟨rfl, rfl⟩, kg_in 373 (by decide +kernel) (by decide +kernel), kg_in 374 (by decide +kernel) (by decide +kernel), kg_in 63 (by decide +kernel) (by decide +kernel), kg_in 375 (by decide +kernel) (by decide +kernel)⟩
theorem dJ0_coder_7d493_0 : decode cJ0_coder_7d493 0 = .ok (.getstatic 38, 3) := by decide +kernel
theorem dJ0_coder_7d493_3 : decode cJ0_coder_7d493 3 = .ok (.ifCond .eq 10, 3) := by decide +kernel
theorem dJ0_coder_7d493_6 : decode cJ0_coder_7d493 6 = .ok (.aload_n 0, 1) := by decide +kernel
theorem dJ0_coder_7d493_7 : decode cJ0_coder_7d493 7 = .ok (.getfield 15, 3) := by decide +kernel
theorem dJ0_coder_7d493_10 : decode cJ0_coder_7d493 10 = .ok (.goto 4, 3) := by decide +kernel
theorem dJ0_coder_7d493_13 : decode cJ0_coder_7d493 13 = .ok (.iconst 1, 1) := by decide +kernel
theorem dJ0_coder_7d493_14 : decode cJ0_coder_7d493 14 = .ok (.ireturn, 1) := by decide +kernel
theorem yw_J0_coder_7d493 : KMV yJ0_coder_7d493 mJ0_coder_7d493 RJ0 0 := ⟨⟨rfl, by decide +kernel, by decide +kernel, by decide +kernel⟩, ⟨rfl, rfl⟩, kg_in 377 (by decide +kernel) (by decide +kernel), kg_in 378 (by decide +kernel) (by decide +kernel), kg_in 63 (by decide +kernel) (by decide +kernel), kg_in 379 (by decide +kernel) (by decide +kernel)⟩
theorem dJ0_isLatin1_aae02_0 : decode cJ0_isLatin1_aae02 0 = .ok (.getstatic 38, 3) := by decide +kernel
theorem dJ0_isLatin1_aae02_3 : decode cJ0_isLatin1_aae02 3 = .ok (.ifCond .eq 14, 3) := by decide +kernel
theorem dJ0_isLatin1_aae02_6 : decode cJ0_isLatin1_aae02 6 = .ok (.aload_n 0, 1) := by decide +kernel
theorem dJ0_isLatin1_aae02_7 : decode cJ0_isLatin1_aae02 7 = .ok (.getfield 15, 3) := by decide +kernel
theorem dJ0_isLatin1_aae02_10 : decode cJ0_isLatin1_aae02 10 = .ok (.ifCond .ne 7, 3) := by decide +kernel
theorem dJ0_isLatin1_aae02_13 : decode cJ0_isLatin1_aae02 13 = .ok (.iconst 1, 1) := by decide +kernel
theorem dJ0_isLatin1_aae02_14 : decode cJ0_isLatin1_aae02 14 = .ok (.goto 4, 3) := by decide +kernel
theorem dJ0_isLatin1_aae02_17 : decode cJ0_isLatin1_aae02 17 = .ok (.iconst 0, 1) := by decide +kernel
theorem dJ0_isLatin1_aae02_18 : decode cJ0_isLatin1_aae02 18 = .ok (.ireturn, 1) := by decide +kernel
theorem yw_J0_isLatin1_aae02 : KMV yJ0_isLatin1_aae02 mJ0_isLatin1_aae02 RJ0 0 := ⟨⟨rfl, by decide +kernel, by decide +kernel, by decide +kernel⟩, ⟨rfl, rfl⟩, kg_in 387 (by decide +kernel) (by decide +kernel), kg_in 388 (by decide +kernel) (by decide +kernel), kg_in 63 (by decide +kernel) (by decide +kernel), kg_in 389 (by decide +kernel) (by decide +kernel)⟩
theorem dJ0_charAt_5068e_0 : decode cJ0_charAt_5068e 0 = .ok (.aload_n 0, 1) := by decide +kernel
theorem dJ0_charAt_5068e_1 : decode cJ0_charAt_5068e 1 = .ok (.invokevirtual 492, 3) := by decide +kernel
theorem dJ0_charAt_5068e_4 : decode cJ0_charAt_5068e 4 = .ok (.ifCond .eq 12, 3) := by decide +kernel
theorem dJ0_charAt_5068e_7 : decode cJ0_charAt_5068e 7 = .ok (.aload_n 0, 1) := by decide +kernel
theorem dJ0_charAt_5068e_8 : decode cJ0_charAt_5068e 8 = .ok (.getfield 9, 3) := by decide +kernel
theorem dJ0_charAt_5068e_11 : decode cJ0_charAt_5068e 11 = .ok (.iload_n 1, 1) := by decide +kernel
theorem dJ0_charAt_5068e_12 : decode cJ0_charAt_5068e 12 = .ok (.invokestatic 495, 3) := by decide +kernel
theorem dJ0_charAt_5068e_15 : decode cJ0_charAt_5068e 15 = .ok (.ireturn, 1) := by decide +kernel
theorem dJ0_charAt_5068e_16 : decode cJ0_charAt_5068e 16 = .ok (.aload_n 0, 1) := by decide +kernel
theorem dJ0_charAt_5068e_17 : decode cJ0_charAt_5068e 17 = .ok (.getfield 9, 3) := by decide +kernel
theorem dJ0_charAt_5068e_20 : decode cJ0_charAt_5068e 20 = .ok (.iload_n 1, 1) := by decide +kernel
theorem dJ0_charAt_5068e_21 : decode cJ0_charAt_5068e 21 = .ok (.invokestatic 498, 3) := by decide +kernel
theorem dJ0_charAt_5068e_24 : decode cJ0_charAt_5068e 24 = .ok (.ireturn, 1) := by decide +kernel
theorem yw_J0_charAt_5068e : KMV yJ0_charAt_5068e mJ0_charAt_5068e RJ0 1 := ⟨⟨rfl, by decide +kernel, by decide +kernel, by decide +kernel⟩, ⟨rfl, rfl⟩, kg_in 383 (by decide +kernel) (by decide +kernel), kg_in 384 (by decide +kernel) (by decide +kernel), kg_in 63 (by decide +kernel) (by decide +kernel), kg_in 385 (by decide +kernel) (by decide +kernel)⟩
theorem dJ1_charAt_3b067_0 : decode cJ1_charAt_3b067 0 = .ok (.iload_n 1, 1) := by decide +kernel
theorem dJ1_charAt_3b067_1 : decode cJ1_charAt_3b067 1 = .ok (.aload_n 0, 1) := by decide +kernel
theorem dJ1_charAt_3b067_2 : decode cJ1_charAt_3b067 2 = .ok (.arraylength, 1) := by decide +kernel
theorem dJ1_charAt_3b067_3 : decode cJ1_charAt_3b067 3 = .ok (.invokestatic 9, 3) := by decide +kernel
theorem dJ1_charAt_3b067_6 : decode cJ1_charAt_3b067 6 = .ok (.aload_n 0, 1) := by decide +kernel
theorem dJ1_charAt_3b067_7 : decode cJ1_charAt_3b067 7 = .ok (.iload_n 1, 1) := by decide +kernel
theorem dJ1_charAt_3b067_8 : decode cJ1_charAt_3b067 8 = .ok (.baload, 1) := by decide +kernel
theorem dJ1_charAt_3b067_9 : decode cJ1_charAt_3b067 9 = .ok (.sipush 255, 3) := by decide +kernel
theorem dJ1_charAt_3b067_12 : decode cJ1_charAt_3b067 12 = .ok (.iand, 1) := by decide +kernel
theorem dJ1_charAt_3b067_13 : decode cJ1_charAt_3b067 13 = .ok (.i2c, 1) := by decide +kernel
theorem dJ1_charAt_3b067_14 : decode cJ1_charAt_3b067 14 = .ok (.ireturn, 1) := by decide +kernel
theorem yw_J1_charAt_3b067 : KMS yJ1_charAt_3b067 mJ1_charAt_3b067 2 := ⟨⟨by decide +kernel, by decide +kernel, by decide +kernel⟩, ⟨rfl, rfl⟩, kg_in 391 (by decide +kernel) (by decide +kernel), kg_in 67 (by decide +kernel) (by decide +kernel), kg_in 392 (by decide +kernel) (by decide +kernel)⟩
theorem dJ0_checkIndex_df160_0 : decode cJ0_checkIndex_df160 0 = .ok (.iload_n 0, 1) := by decide +kernel
theorem dJ0_checkIndex_df160_1 : decode cJ0_checkIndex_df160 1 = .ok (.iload_n 1, 1) := by decide +kernel
theorem dJ0_checkIndex_df160_2 : decode cJ0_checkIndex_df160 2 = .ok (.getstatic 1053, 3) := by decide +kernel
theorem dJ0_checkIndex_df160_5 : decode cJ0_checkIndex_df160 5 = .ok (.invokestatic 1059, 3) := by decide +kernel
theorem dJ0_checkIndex_df160_8 : decode cJ0_checkIndex_df160 8 = .ok (.pop, 1) := by decide +kernel
theorem dJ0_checkIndex_df160_9 : decode cJ0_checkIndex_df160 9 = .ok (.return_, 1) := by decide +kernel
theorem yw_J0_checkIndex_df160 : KMS yJ0_checkIndex_df160 mJ0_checkIndex_df160 2 := ⟨⟨by decide +kernel, by decide +kernel, by decide +kernel⟩, ⟨rfl, rfl⟩, kg_in 394 (by decide +kernel) (by decide +kernel), kg_in 63 (by decide +kernel) (by decide +kernel), kg_in 395 (by decide +kernel) (by decide +kernel)⟩
theorem dJ3_checkIndex_8e157_0 : decode cJ3_checkIndex_8e157 0 = .ok (.iload_n 0, 1) := by decide +kernel
theorem dJ3_checkIndex_8e157_1 : decode cJ3_checkIndex_8e157 1 = .ok (.ifCond .lt 8, 3) := by decide +kernel
theorem dJ3_checkIndex_8e157_4 : decode cJ3_checkIndex_8e157 4 = .ok (.iload_n 0, 1) := by decide +kernel
theorem dJ3_checkIndex_8e157_5 : decode cJ3_checkIndex_8e157 5 = .ok (.iload_n 1, 1) := by decide +kernel
theorem dJ3_checkIndex_8e157_6 : decode cJ3_checkIndex_8e157 6 = .ok (.if_icmp .lt 10, 3) := by decide +kernel
theorem dJ3_checkIndex_8e157_9 : decode cJ3_checkIndex_8e157 9 = .ok (.aload_n 2, 1) := by decide +kernel
theorem dJ3_checkIndex_8e157_10 : decode cJ3_checkIndex_8e157 10 = .ok (.iload_n 0, 1) := by decide +kernel
theorem dJ3_checkIndex_8e157_11 : decode cJ3_checkIndex_8e157 11 = .ok (.iload_n 1, 1) := by decide +kernel
theorem dJ3_checkIndex_8e157_12 : decode cJ3_checkIndex_8e157 12 = .ok (.invokestatic 95, 3) := by decide +kernel
theorem dJ3_checkIndex_8e157_15 : decode cJ3_checkIndex_8e157 15 = .ok (.athrow, 1) := by decide +kernel
theorem dJ3_checkIndex_8e157_16 : decode cJ3_checkIndex_8e157 16 = .ok (.iload_n 0, 1) := by decide +kernel
theorem dJ3_checkIndex_8e157_17 : decode cJ3_checkIndex_8e157 17 = .ok (.ireturn, 1) := by decide +kernel
theorem yw_J3_checkIndex_8e157 : KMS yJ3_checkIndex_8e157 mJ3_checkIndex_8e157 3 := ⟨⟨by decide +kernel, by decide +kernel, by decide +kernel⟩, ⟨rfl, rfl⟩, kg_in 399 (by decide +kernel) (by decide +kernel), kg_in 66 (by decide +kernel) (by decide +kernel), kg_in 400 (by decide +kernel) (by decide +kernel)⟩
theorem lk_J0_335 : Cond.methodLink RJ0 335 yJ0_coder_7d493 ∈ kg := kg_in 376 (by decide +kernel) (by decide +kernel)
theorem lk_J0_492 : Cond.methodLink RJ0 492 yJ0_isLatin1_aae02 ∈ kg := kg_in 386 (by decide +kernel) (by decide +kernel)
theorem lk_J0_495 : Cond.methodLink RJ0 495 yJ1_charAt_3b067 ∈ kg := kg_in 390 (by decide +kernel) (by decide +kernel)
theorem lk_J1_9 : Cond.methodLink RJ1 9 yJ0_checkIndex_df160 ∈ kg := kg_in 393 (by decide +kernel) (by decide +kernel)
theorem lk_J0_1059 : Cond.methodLink RJ0 1059 yJ3_checkIndex_8e157 ∈ kg := kg_in 398 (by decide +kernel) (by decide +kernel)
set_option maxRecDepth 100000 in
theorem tJ0_coder_7d493 (sh : KSh) (l : Launch) (hst : l.stackTraces = false) (t : Nat) (ht : ktx sh t = true) (σ : Sto) : CT sh l mJ0_coder_7d493 yJ0_coder_7d493 [.ref (2000 + t)] σ (0, .int 0, σ) := by
  refine kct [(0, .ref (2000 + t))] hst (by decide +kernel) rfl rfl (Nat.le_of_ble_eq_true rfl) ?_
  refine kv_getCS (pc := 0) dJ0_coder_7d493_0 fl_J0_38 ?_
  refine kv_if_eq (pc := 3) (tgt := 13) (A := (0 : Nat)) (B := 1) (r := 1) dJ0_coder_7d493_3 (by decide) rfl (fun h => absurd h (by decide)) (fun _ => ?_)
  refine kv_aload_n (pc := 6) 0 dJ0_coder_7d493_6 rfl rfl ?_
  refine kv_getSC (pc := 7) ht dJ0_coder_7d493_7 fl_J0_15 ?_
  refine kv_goto (pc := 10) (tgt := 14) dJ0_coder_7d493_10 (by decide) ?_
  exact kv_zret (pc := 14) dJ0_coder_7d493_14 rfl rfl rfl (by decide) (by decide)
set_option maxRecDepth 100000 in
theorem tJ0_isLatin1_aae02 (sh : KSh) (l : Launch) (hst : l.stackTraces = false) (t : Nat) (ht : ktx sh t = true) (σ : Sto) : CT sh l mJ0_isLatin1_aae02 yJ0_isLatin1_aae02 [.ref (2000 + t)] σ (0, .int 1, σ) := by
  refine kct [(0, .ref (2000 + t))] hst (by decide +kernel) rfl rfl (Nat.le_of_ble_eq_true rfl) ?_
  refine kv_getCS (pc := 0) dJ0_isLatin1_aae02_0 fl_J0_38 ?_
  refine kv_if_eq (pc := 3) (tgt := 17) (A := (0 : Nat)) (B := 1) (r := 1) dJ0_isLatin1_aae02_3 (by decide) rfl (fun h => absurd h (by decide)) (fun _ => ?_)
  refine kv_aload_n (pc := 6) 0 dJ0_isLatin1_aae02_6 rfl rfl ?_
  refine kv_getSC (pc := 7) ht dJ0_isLatin1_aae02_7 fl_J0_15 ?_
  refine kv_if_ne (pc := 10) (tgt := 17) (A := (1 : Nat)) (B := 0) (r := 1) dJ0_isLatin1_aae02_10 (by decide) rfl (fun h => absurd h (by decide)) (fun _ => ?_)
  refine kv_iconst (pc := 13) (v := 1) dJ0_isLatin1_aae02_13 (by decide) ?_
  refine kv_goto (pc := 14) (tgt := 18) dJ0_isLatin1_aae02_14 (by decide) ?_
  exact kv_zret (pc := 18) dJ0_isLatin1_aae02_18 rfl rfl rfl (by decide) (by decide)
set_option maxRecDepth 100000 in
theorem tJ0_length_8abf5 (sh : KSh) (l : Launch) (hst : l.stackTraces = false) (t : Nat) (ht : ktx sh t = true) (σ : Sto) : CT sh l mJ0_length_8abf5 yJ0_length_8abf5 [.ref (2000 + t)] σ (0, .int (nI (ksbz sh t).length), σ) := by
  refine kct [(0, .ref (2000 + t))] hst (by decide +kernel) rfl rfl (Nat.le_of_ble_eq_true rfl) ?_
  refine kv_aload_n (pc := 0) 0 dJ0_length_8abf5_0 rfl rfl ?_
  refine kv_getSV (pc := 1) ht dJ0_length_8abf5_1 fl_J0_9 ?_
  refine kv_salen (pc := 4) ht dJ0_length_8abf5_4 ?_
  refine kv_aload_n (pc := 5) 0 dJ0_length_8abf5_5 rfl rfl ?_
  refine kv_sV (pc := 6) (v := .int 0) ht [] (.int 0 :: [.int (nI (ksbz sh t).length)]) 9 0 0 (tJ0_coder_7d493 sh l hst t ht σ) dJ0_length_8abf5_6 rfl yw_J0_coder_7d493 lk_J0_335 (by decide) (Nat.le_of_ble_eq_true rfl) (by decide) rfl ⟨rfl, rfl, rfl⟩ ?_
  refine kv_ishr (pc := 9) dJ0_length_8abf5_9 ?_
  rw [sb_shr0]
  exact kv_iret (pc := 10) dJ0_length_8abf5_10 rfl rfl (by decide) (by decide)
set_option maxRecDepth 100000 in
theorem tJ3_checkIndex_8e157 (sh : KSh) (l : Launch) (hst : l.stackTraces = false) (i : Int32) (N : Nat) (h : kin i N = true) (hN : N < 2 ^ 31) (σ : Sto) : CT sh l mJ3_checkIndex_8e157 yJ3_checkIndex_8e157 [.int i, .int (nI N), .null] σ (0, .int i, σ) := by
  obtain ⟨h1, h2⟩ := kin_lt31 h hN
  refine kct [(0, .int i), (1, .int (nI N)), (2, .null)] hst (by decide +kernel) rfl rfl (Nat.le_of_ble_eq_true rfl) ?_
  refine kv_iload_n (pc := 0) 0 dJ3_checkIndex_8e157_0 rfl rfl ?_
  refine kv_if_lt (pc := 1) (tgt := 9) (A := (0 : Nat)) (B := 1) (r := 1) dJ3_checkIndex_8e157_1 (by decide) (by rw [if_neg h1]) (fun h => absurd h (by decide)) (fun _ => ?_)
  refine kv_iload_n (pc := 4) 0 dJ3_checkIndex_8e157_4 rfl rfl ?_
  refine kv_iload_n (pc := 5) 1 dJ3_checkIndex_8e157_5 rfl rfl ?_
  refine kv_icmp_lt (pc := 6) (tgt := 16) (A := (1 : Nat)) (B := 0) (r := 1) dJ3_checkIndex_8e157_6 (by decide) (by rw [if_pos h2]) (fun _ => ?_) (fun h => absurd h (by decide))
  refine kv_iload_n (pc := 16) 0 dJ3_checkIndex_8e157_16 rfl rfl ?_
  exact kv_iret (pc := 17) dJ3_checkIndex_8e157_17 rfl rfl (by decide) (by decide)
set_option maxRecDepth 100000 in
theorem tJ0_checkIndex_df160 (sh : KSh) (l : Launch) (hst : l.stackTraces = false) (i : Int32) (N : Nat) (h : kin i N = true) (hN : N < 2 ^ 31) (σ : Sto) : CT sh l mJ0_checkIndex_df160 yJ0_checkIndex_df160 [.int i, .int (nI N)] σ (0, .int 0, σ) := by
  refine kct [(0, .int i), (1, .int (nI N))] hst (by decide +kernel) rfl rfl (Nat.le_of_ble_eq_true rfl) ?_
  refine kv_iload_n (pc := 0) 0 dJ0_checkIndex_df160_0 rfl rfl ?_
  refine kv_iload_n (pc := 1) 1 dJ0_checkIndex_df160_1 rfl rfl ?_
  refine kv_getSF (pc := 2) dJ0_checkIndex_df160_2 fl_J0_1053 ?_
  refine kv_tS (pc := 5) (v := .int i) [.int i, .int (nI N), .null] [.int i] 8 0 0 (tJ3_checkIndex_8e157 sh l hst i N h hN σ) dJ0_checkIndex_df160_5 rfl yw_J3_checkIndex_8e157 lk_J0_1059 (by decide) (Nat.le_of_ble_eq_true rfl) (by decide) rfl ⟨rfl, rfl, rfl⟩ ?_
  refine kv_pop (pc := 8) dJ0_checkIndex_df160_8 rfl ?_
  exact kv_vret (pc := 9) (v := .int 0) dJ0_checkIndex_df160_9 rfl rfl (by decide) (by decide)
set_option maxRecDepth 100000 in
theorem tJ1_charAt_3b067 (sh : KSh) (l : Launch) (hst : l.stackTraces = false) (t : Nat) (ht : ktx sh t = true) (i : Int32) (h : kin i (ksbz sh t).length = true) (σ : Sto) : CT sh l mJ1_charAt_3b067 yJ1_charAt_3b067 [.ref (2100 + t), .int i] σ (0, .int (kschz sh t i), σ) := by
  refine kct [(0, .ref (2100 + t)), (1, .int i)] hst (by decide +kernel) rfl rfl (Nat.le_of_ble_eq_true rfl) ?_
  refine kv_iload_n (pc := 0) 1 dJ1_charAt_3b067_0 rfl rfl ?_
  refine kv_aload_n (pc := 1) 0 dJ1_charAt_3b067_1 rfl rfl ?_
  refine kv_salen (pc := 2) ht dJ1_charAt_3b067_2 ?_
  refine kv_tS (pc := 3) (v := .int 0) [.int i, .int (nI (ksbz sh t).length)] [] 6 0 0 (tJ0_checkIndex_df160 sh l hst i _ h (ksbz_31 ht) σ) dJ1_charAt_3b067_3 rfl yw_J0_checkIndex_df160 lk_J1_9 (by decide) (Nat.le_of_ble_eq_true rfl) (by decide) rfl ⟨rfl, rfl, rfl⟩ ?_
  refine kv_aload_n (pc := 6) 0 dJ1_charAt_3b067_6 rfl rfl ?_
  refine kv_iload_n (pc := 7) 1 dJ1_charAt_3b067_7 rfl rfl ?_
  refine kv_sbald (pc := 8) ht dJ1_charAt_3b067_8 h ?_
  refine kv_sipush (pc := 9) (v := 255) dJ1_charAt_3b067_9 (by decide) ?_
  refine kv_iand (pc := 12) dJ1_charAt_3b067_12 ?_
  refine kv_i2c (pc := 13) dJ1_charAt_3b067_13 ?_
  exact kv_zret (pc := 14) dJ1_charAt_3b067_14 rfl (pk_nc _) rfl (by decide) (by decide)
set_option maxRecDepth 100000 in
theorem tJ0_charAt_5068e (sh : KSh) (l : Launch) (hst : l.stackTraces = false) (t : Nat) (ht : ktx sh t = true) (i : Int32) (h : kin i (ksbz sh t).length = true) (σ : Sto) : CT sh l mJ0_charAt_5068e yJ0_charAt_5068e [.ref (2000 + t), .int i] σ (0, .int (kschz sh t i), σ) := by
  refine kct [(0, .ref (2000 + t)), (1, .int i)] hst (by decide +kernel) rfl rfl (Nat.le_of_ble_eq_true rfl) ?_
  refine kv_aload_n (pc := 0) 0 dJ0_charAt_5068e_0 rfl rfl ?_
  refine kv_sV (pc := 1) (v := .int 1) ht [] (.int 1 :: []) 4 0 0 (tJ0_isLatin1_aae02 sh l hst t ht σ) dJ0_charAt_5068e_1 rfl yw_J0_isLatin1_aae02 lk_J0_492 (by decide) (Nat.le_of_ble_eq_true rfl) (by decide) rfl ⟨rfl, rfl, rfl⟩ ?_
  refine kv_if_eq (pc := 4) (tgt := 16) (A := (0 : Nat)) (B := 1) (r := 1) dJ0_charAt_5068e_4 (by decide) rfl (fun h => absurd h (by decide)) (fun _ => ?_)
  refine kv_aload_n (pc := 7) 0 dJ0_charAt_5068e_7 rfl rfl ?_
  refine kv_getSV (pc := 8) ht dJ0_charAt_5068e_8 fl_J0_9 ?_
  refine kv_iload_n (pc := 11) 1 dJ0_charAt_5068e_11 rfl rfl ?_
  refine kv_tS (pc := 12) (v := .int (kschz sh t i)) [.ref (2100 + t), .int i] [.int (kschz sh t i)] 15 0 0 (tJ1_charAt_3b067 sh l hst t ht i h σ) dJ0_charAt_5068e_12 rfl yw_J1_charAt_3b067 lk_J0_495 (by decide) (Nat.le_of_ble_eq_true rfl) (by decide) rfl ⟨rfl, rfl, rfl⟩ ?_
  exact kv_zret (pc := 15) dJ0_charAt_5068e_15 rfl (pk_nc _) rfl (by decide) (by decide)
section KSTR2
variable {sh : KSh} {l : Launch} {M : KM} {k n pc : Nat} {lo : List (Nat × Value)} {st : List Value} {σ : Sto} {o : KO}
def ksch (t : Nat) (i : Int32) : Int32 := (((ksby t).getD i.toNatClampNeg 0 &&& 255).toUInt32 % 65536).toInt32
theorem kv_dlen (hst : l.stackTraces = false) {ix : Nat} (pc2 : Nat) (ht : ktx sh 9 = true) (hd : decode M.2.1 pc = .ok (.invokevirtual ix, 3)) (hlk : Cond.methodLink M.1 ix yJ0_length_8abf5 ∈ kg) (hR : 1 + 1 ≤ M.2.2.2.2.1.frames ∧ 8 + (1 + 11) + 20 ≤ M.2.2.2.2.1.locals) (hcat : (st.map fun v => v.category).sum ≤ 8) (hf : k ≤ M.2.2.2.2.1.cells ∧ n ≤ M.2.2.2.2.1.slots) (h4 : pc + 3 = pc2)
    (kk : VV sh l M k n pc2 lo (.int (nI (dyb sh).length) :: st) σ o) : VV sh l M k n pc lo (.ref (2009) :: st) σ o :=
  kv_sV ht [] (.int (nI (dyb sh).length) :: st) pc2 k n (tJ0_length_8abf5 sh l hst 9 ht σ) hd rfl yw_J0_length_8abf5 hlk hR hcat hf rfl ⟨h4, rfl, rfl⟩ kk
theorem kv_dchr {α : Type} {B : Option α} {r : α} (hst : l.stackTraces = false) {ix : Nat} {i : Int32} (pc2 : Nat) (ht : ktx sh 9 = true) (hd : decode M.2.1 pc = .ok (.invokevirtual ix, 3)) (hlk : Cond.methodLink M.1 ix yJ0_charAt_5068e ∈ kg) (hR : 3 + 1 ≤ M.2.2.2.2.1.frames ∧ 8 + (2 + 11) + 64 ≤ M.2.2.2.2.1.locals) (hcat : (st.map fun v => v.category).sum ≤ 8) (hf : k ≤ M.2.2.2.2.1.cells ∧ n ≤ M.2.2.2.2.1.slots) (h4 : pc + 3 = pc2) (h : (if kin i (dyb sh).length = true then B else none) = some r)
    (kk : B = some r → VV sh l M k n pc2 lo (.int (kschz sh 9 i) :: st) σ o) : VV sh l M k n pc lo (.int i :: .ref (2009) :: st) σ o := by
  obtain ⟨h1, h2⟩ := kif h
  exact kv_sV ht [.int i] (.int (kschz sh 9 i) :: st) pc2 k n (tJ0_charAt_5068e sh l hst 9 ht i h1 σ) hd rfl yw_J0_charAt_5068e hlk hR hcat hf rfl ⟨h4, rfl, rfl⟩ (kk h2)
theorem kv_slen (hst : l.stackTraces = false) {t ix : Nat} (pc2 : Nat) (ht : t < 9) (hd : decode M.2.1 pc = .ok (.invokevirtual ix, 3)) (hlk : Cond.methodLink M.1 ix yJ0_length_8abf5 ∈ kg) (hR : 1 + 1 ≤ M.2.2.2.2.1.frames ∧ 8 + (1 + 11) + 20 ≤ M.2.2.2.2.1.locals) (hcat : (st.map fun v => v.category).sum ≤ 8) (hf : k ≤ M.2.2.2.2.1.cells ∧ n ≤ M.2.2.2.2.1.slots) (h4 : pc + 3 = pc2)
    (kk : VV sh l M k n pc2 lo (.int (nI (ksby t).length) :: st) σ o) : VV sh l M k n pc lo (.ref (2000 + t) :: st) σ o := by
  have h9 := tJ0_length_8abf5 sh l hst t (ktx_lt ht) σ
  rw [ksbz_lt ht] at h9
  exact kv_sV (ktx_lt ht) [] (.int (nI (ksby t).length) :: st) pc2 k n h9 hd rfl yw_J0_length_8abf5 hlk hR hcat hf rfl ⟨h4, rfl, rfl⟩ kk
theorem kv_schr {α : Type} {B : Option α} {r : α} (hst : l.stackTraces = false) {t ix : Nat} {i : Int32} (pc2 : Nat) (ht : t < 9) (hd : decode M.2.1 pc = .ok (.invokevirtual ix, 3)) (hlk : Cond.methodLink M.1 ix yJ0_charAt_5068e ∈ kg) (hR : 3 + 1 ≤ M.2.2.2.2.1.frames ∧ 8 + (2 + 11) + 64 ≤ M.2.2.2.2.1.locals) (hcat : (st.map fun v => v.category).sum ≤ 8) (hf : k ≤ M.2.2.2.2.1.cells ∧ n ≤ M.2.2.2.2.1.slots) (h4 : pc + 3 = pc2) (h : (if kin i (ksby t).length = true then B else none) = some r)
    (kk : B = some r → VV sh l M k n pc2 lo (.int (ksch t i) :: st) σ o) : VV sh l M k n pc lo (.int i :: .ref (2000 + t) :: st) σ o := by
  obtain ⟨h1, h2⟩ := kif h
  have h9 := tJ0_charAt_5068e sh l hst t (ktx_lt ht) i (by rw [ksbz_lt ht]; exact h1) σ
  rw [show kschz sh t i = ksch t i by unfold kschz ksch; rw [ksbz_lt ht]] at h9
  exact kv_sV (ktx_lt ht) [.int i] (.int (ksch t i) :: st) pc2 k n h9 hd rfl yw_J0_charAt_5068e hlk hR hcat hf rfl ⟨h4, rfl, rfl⟩ (kk h2)
end KSTR2
