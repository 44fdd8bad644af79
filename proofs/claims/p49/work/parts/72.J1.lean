/-! the JDK's methods, each walked on the path that is taken -/
theorem j_recS {E0 : KE} {A : Nat → Prop} {s : State} {H : Heap} {locs : List Loc} (hF : JF E0 A s s.heap) (hS : va_S A s.heap H locs) (j : Nat) (hj : j < 4) : ∃ cell : Cell, H[E0.2.1 (2020 + j)]? = some cell ∧ cell.vm.isStatics = false ∧ s.vm.findClass RJ0 = some cell.cls := by
  obtain ⟨cell, g1, g2, g3, -⟩ := (hF.2.1 j hj).1.kept hS.2.1
  exact ⟨cell, g1, g2, g3⟩
theorem j_sub {D : va_G} {A : Nat → Prop} {H : Heap} {ws w' : va_W} (is : List Nat) (hi : is.map (fun i => ws[i]?) = w'.map some) (hn : va_nd is = true) (hP : va_P D vwCl ws H) (hD : va_D A ws) : va_P D vwCl w' H ∧ va_D A w' := by
  refine ⟨fun k q hq => ?_, hD.sub is hn hi⟩
  have h1 : (is.map (fun i => ws[i]?))[k]? = some (some q) := by rw [hi, List.getElem?_map, hq]; rfl
  rw [List.getElem?_map] at h1
  cases hk : is[k]? with
  | none => rw [hk] at h1; cases h1
  | some i => rw [hk] at h1; exact hP i q (Option.some.inj h1)
theorem jlen (j : Nat) : (jby j).length ≤ 8 := by
  match j with
  | 0 => decide
  | 1 => decide
  | 2 => decide
  | 3 => decide
  | j + 4 => exact Nat.zero_le _
theorem jfb {c : Nat} (h : c < 128) : fits .byte (.int (nI c)) = true := by
  have : ∀ c, c < 128 → fits .byte (.int (nI c)) = true := by decide +kernel
  exact this c h
theorem jnar {c : Nat} (h : c < 128) : vp_nar .byte (nI c) = nI c := by
  have : ∀ c, c < 128 → vp_nar .byte (nI c) = nI c := by decide +kernel
  exact this c h
theorem jby_lt (j i : Nat) : (jby j).getD i 0 < 128 := by
  have key : ∀ (L : List Nat), (∀ x ∈ L, x < 128) → L.getD i 0 < 128 := by
    intro L h
    rw [List.getD_eq_getElem?_getD]
    cases hx : L[i]? with
    | none => show (0 : Nat) < 128; omega
    | some x => exact h x (List.mem_of_getElem? hx)
  match j with
  | 0 => exact key _ (by decide)
  | 1 => exact key _ (by decide)
  | 2 => exact key _ (by decide)
  | 3 => exact key _ (by decide)
  | j + 4 => exact key [] (by decide)
theorem jby_fit (j : Nat) : sb_Fit (fun i => nI ((jby j).getD i 0)) := fun i => jfb (jby_lt j i)
/-- a builder that holds the letters t -/
def JT (E0 : KE) (a : Nat) (t : List Nat) (w : va_W) : Prop := ∃ (b m : Nat) (f : Nat → Int32), w = [(a, .inr (8, [.ref b, .int 0, .int 0, .int (nI t.length)])), (b, .inl (E0.2.2 4, m, .inl f))] ∧ (m = 16 ∨ m = 34) ∧ t.length ≤ m ∧ sb_Fit f ∧ ∀ i, i < t.length → f i = nI (t.getD i 0)
theorem jsub0 (x : Int32) : x - 0 = x := Int32.sub_zero x
theorem jmax {d : Nat} (h : d ≤ 18) : (if nI d < 18 then 18 else nI d) = (18 : Int32) := by
  have : ∀ d, d ≤ 18 → (if nI d < 18 then 18 else nI d) = (18 : Int32) := by decide
  exact this d h
theorem jle {q m : Nat} (hm : m ≤ 34) (h : q ≤ m) : nI q - nI m ≤ 0 := by
  have e1 : (nI q - nI m).toInt = (q : Int) - m := pk_sub_toInt (by omega) (by omega)
  rw [Int32.le_iff_toInt_le, e1, Int32.toInt_zero]; omega
theorem jnle {q : Nat} (h : 0 < q) (h2 : q ≤ 34) : ¬ nI q ≤ 0 := fun c => by
  have := (nI_leI (b := 0) (by omega) (by omega)).mp c
  omega
theorem jd : ∀ x, x < 200 → (x < 10 → ¬ (-(nI x)) ≤ (-10)) ∧ (10 ≤ x → (-(nI x)) ≤ (-10)) ∧ (x < 100 → ¬ (-(nI x)) ≤ (-100)) ∧ (100 ≤ x → (-(nI x)) ≤ (-100)) ∧ ¬ (-(nI x)) ≤ (-1000) := by decide +kernel
theorem jd2 : ∀ x, x < 200 → (x < 100 → (-100) < (-(nI x))) ∧ (100 ≤ x → ¬ (-100) < (-(nI x))) ∧ (x < 10 → (-9) ≤ (-(nI x))) ∧ (10 ≤ x → ¬ (-9) ≤ (-(nI x))) ∧ (100 ≤ x → (-(nI x)) / 100 = (-1)) ∧ (100 ≤ x → (-100) - (-(nI x)) = nI (x - 100)) := by decide +kernel
theorem jm1 {p : Nat} (h : 0 < p) : nI p + Int32.ofInt (-1) = nI (p - 1) := by
  rw [show Int32.ofInt (-1) = (-1 : Int32) by decide]
  exact sb_m1 h
theorem dgs_1 {x : Nat} (h : x < 10) : dgs x = [48 + x] := if_pos h
theorem dgs_2 {x : Nat} (h : 10 ≤ x) (h2 : x < 100) : dgs x = [48 + x / 10, 48 + x % 10] := by unfold dgs; rw [if_neg (by omega), if_pos h2]
theorem dgs_3 {x : Nat} (h : 100 ≤ x) : dgs x = [48 + x / 100, 48 + x / 10 % 10, 48 + x % 10] := by unfold dgs; rw [if_neg (by omega), if_neg (by omega)]
theorem j_cat {t u : List Nat} {f f2 f3 : Nat → Int32} {m : Nat} (hL : ∀ i, i < t.length → f i = nI (t.getD i 0)) (ht : t.length ≤ m) (hk : ∀ i, i < m → f2 i = f i) (h1 : ∀ i, i < t.length → f3 i = f2 i) (h2 : ∀ i, i < u.length → f3 (t.length + i) = nI (u.getD i 0)) : ∀ i, i < (t ++ u).length → f3 i = nI ((t ++ u).getD i 0) := by
  intro i hi
  rw [List.length_append] at hi
  by_cases h : i < t.length
  · rw [h1 i h, hk i (by omega), hL i h, List.getD_eq_getElem?_getD, List.getD_eq_getElem?_getD, List.getElem?_append_left h]
  · have h9 := h2 (i - t.length) (by omega)
    rw [show t.length + (i - t.length) = i by omega] at h9
    rw [h9, List.getD_eq_getElem?_getD, List.getD_eq_getElem?_getD, List.getElem?_append_right (by omega)]
theorem jd_J5_isLatin1_aae02_0 : decode cJ5_isLatin1_aae02 0 = .ok (.getstatic 18, 3) := by decide +kernel
theorem jf_J5_18 : Cond.fieldLink RJ5 18 "java/lang/String" "COMPACT_STRINGS" "Z" ∈ kg := kg_in 1164 (by decide +kernel) (by decide +kernel)
theorem jd_J5_isLatin1_aae02_3 : decode cJ5_isLatin1_aae02 3 = .ok (.ifCond .eq 14, 3) := by decide +kernel
theorem jd_J5_isLatin1_aae02_6 : decode cJ5_isLatin1_aae02 6 = .ok (.aload_n 0, 1) := by decide +kernel
theorem jd_J5_isLatin1_aae02_7 : decode cJ5_isLatin1_aae02 7 = .ok (.getfield 22, 3) := by decide +kernel
theorem jf_J5_22 : Cond.fieldLink RJ5 22 "java/lang/AbstractStringBuilder" "coder" "B" ∈ kg := kg_in 1173 (by decide +kernel) (by decide +kernel)
theorem jd_J5_isLatin1_aae02_10 : decode cJ5_isLatin1_aae02 10 = .ok (.ifCond .ne 7, 3) := by decide +kernel
theorem jd_J5_isLatin1_aae02_13 : decode cJ5_isLatin1_aae02 13 = .ok (.iconst 1, 1) := by decide +kernel
theorem jd_J5_isLatin1_aae02_14 : decode cJ5_isLatin1_aae02 14 = .ok (.goto 4, 3) := by decide +kernel
theorem jd_J5_isLatin1_aae02_18 : decode cJ5_isLatin1_aae02 18 = .ok (.ireturn, 1) := by decide +kernel
abbrev mzJ5_isLatin1_aae02 : KM := (RJ5, cJ5_isLatin1_aae02, 1, (some .boolean), { frames := 0, cells := 0, slots := 0, locals := 12 }, 0, 0)
set_option maxHeartbeats 1000000 in
set_option maxRecDepth 100000 in
theorem jt_lat (l : Launch) (E0 : KE) (a b : Nat) (n : Int32) (m : Nat) (f : Nat → Int32) : JC l E0 yJ5_isLatin1_aae02 mzJ5_isLatin1_aae02 [.ref a] [(a, .inr (8, [.ref b, .int 0, .int 0, .int n])), (b, .inl (E0.2.2 4, m, .inl f))] (fun v w => v = some (.int 1) ∧ w = [(a, .inr (8, [.ref b, .int 0, .int 0, .int n])), (b, .inl (E0.2.2 4, m, .inl f))]) := by
  refine jc_of [(0, .ref a)] (by decide +kernel) rfl rfl (Nat.le_of_ble_eq_true rfl) ?_
  intro A pr e s mt args below meth c Q B H locs ls hP hD hS hl
  have C := B.1
  have hnm := B.2.1
  obtain ⟨hx, hb, hml, hown, hts, hA, hK, hF⟩ := id C
  refine va_gets hx hb hF.1 hS hown (hts _ jf_J5_18) (fun _ h9 => h9) jd_J5_isLatin1_aae02_0 ?_
  refine lv_if_eq hx hb jd_J5_isLatin1_aae02_3 (tgt := 17) (by decide) (fun h9 => absurd h9 (by decide)) (fun _ => ?_)
  refine lv_aload_n hx hb jd_J5_isLatin1_aae02_6 rfl (lv_at hl 0 rfl) ?_
  refine va_get (D := E0.1) (ci := 8) (v := .int 0) (C := RJ4) (T := TJ4) (N := 4) hx hb hts (kcl_ws 8 _ rfl) hown hK hP 0 rfl rfl 1 (by decide) (hts _ jf_J5_22) (fun _ h9 => h9) rfl jd_J5_isLatin1_aae02_7 ?_
  refine lv_if_ne hx hb jd_J5_isLatin1_aae02_10 (tgt := 17) (by decide) (fun h9 => absurd rfl h9) (fun _ => ?_)
  refine lv_iconst (v := 1) hx hb jd_J5_isLatin1_aae02_13 (by decide) ?_
  refine lv_goto hx hb jd_J5_isLatin1_aae02_14 (tgt := 18) (by decide) ?_
  exact j_iret B jd_J5_isLatin1_aae02_18 rfl (by first | rfl | decide) (⟨rfl, rfl⟩) (Nat.le_of_ble_eq_true rfl) (Nat.le_of_ble_eq_true rfl) hP hD hS
theorem jd_J0_coder_7d493_0 : decode cJ0_coder_7d493 0 = .ok (.getstatic 38, 3) := by decide +kernel
theorem jf_J0_38 : Cond.fieldLink RJ0 38 "java/lang/String" "COMPACT_STRINGS" "Z" ∈ kg := kg_in 380 (by decide +kernel) (by decide +kernel)
theorem jd_J0_coder_7d493_3 : decode cJ0_coder_7d493 3 = .ok (.ifCond .eq 10, 3) := by decide +kernel
theorem jd_J0_coder_7d493_6 : decode cJ0_coder_7d493 6 = .ok (.aload_n 0, 1) := by decide +kernel
theorem jd_J0_coder_7d493_7 : decode cJ0_coder_7d493 7 = .ok (.getfield 15, 3) := by decide +kernel
theorem jf_J0_15 : Cond.fieldLink RJ0 15 "java/lang/String" "coder" "B" ∈ kg := kg_in 1352 (by decide +kernel) (by decide +kernel)
theorem jd_J0_coder_7d493_10 : decode cJ0_coder_7d493 10 = .ok (.goto 4, 3) := by decide +kernel
theorem jd_J0_coder_7d493_14 : decode cJ0_coder_7d493 14 = .ok (.ireturn, 1) := by decide +kernel
abbrev mzJ0_coder_7d493 : KM := (RJ0, cJ0_coder_7d493, 1, (some .byte), { frames := 0, cells := 0, slots := 0, locals := 12 }, 0, 0)
set_option maxHeartbeats 1000000 in
set_option maxRecDepth 100000 in
theorem jt_coder (l : Launch) (E0 : KE) (j : Nat) (hj : j < 4) : JC l E0 yJ0_coder_7d493 mzJ0_coder_7d493 [.ref (E0.2.1 (2020 + j))] [] (fun v w => v = some (.int 0) ∧ w = []) := by
  refine jc_of [(0, .ref (E0.2.1 (2020 + j)))] (by decide +kernel) rfl rfl (Nat.le_of_ble_eq_true rfl) ?_
  intro A pr e s mt args below meth c Q B H locs ls hP hD hS hl
  have C := B.1
  have hnm := B.2.1
  obtain ⟨hx, hb, hml, hown, hts, hA, hK, hF⟩ := id C
  refine va_gets hx hb hF.1 hS hown (hts _ jf_J0_38) (fun _ h9 => h9) jd_J0_coder_7d493_0 ?_
  refine lv_if_eq hx hb jd_J0_coder_7d493_3 (tgt := 13) (by decide) (fun h9 => absurd h9 (by decide)) (fun _ => ?_)
  refine lv_aload_n hx hb jd_J0_coder_7d493_6 rfl (lv_at hl 0 rfl) ?_
  refine vk_getf hx hb (hF.2.1 j hj).2.1 hS hown (hts _ jf_J0_15) (fun _ h9 => h9) jd_J0_coder_7d493_7 ?_
  refine lv_goto hx hb jd_J0_coder_7d493_10 (tgt := 14) (by decide) ?_
  exact j_iret B jd_J0_coder_7d493_14 rfl (by first | rfl | decide) (⟨rfl, rfl⟩) (Nat.le_of_ble_eq_true rfl) (Nat.le_of_ble_eq_true rfl) hP hD hS
theorem jd_J0_length_8abf5_0 : decode cJ0_length_8abf5 0 = .ok (.aload_n 0, 1) := by decide +kernel
theorem jd_J0_length_8abf5_1 : decode cJ0_length_8abf5 1 = .ok (.getfield 9, 3) := by decide +kernel
theorem jf_J0_9 : Cond.fieldLink RJ0 9 "java/lang/String" "value" "[B" ∈ kg := kg_in 1351 (by decide +kernel) (by decide +kernel)
theorem jd_J0_length_8abf5_4 : decode cJ0_length_8abf5 4 = .ok (.arraylength, 1) := by decide +kernel
theorem jd_J0_length_8abf5_5 : decode cJ0_length_8abf5 5 = .ok (.aload_n 0, 1) := by decide +kernel
theorem jd_J0_length_8abf5_6 : decode cJ0_length_8abf5 6 = .ok (.invokevirtual 335, 3) := by decide +kernel
theorem jse_J0_coder_7d493 : Cond.selects RJ0 yJ0_coder_7d493 yJ0_coder_7d493 ∈ kg := kg_in 378 (by decide +kernel) (by decide +kernel)
theorem yk_J0_coder_7d493 : KMW yJ0_coder_7d493 mzJ0_coder_7d493 0 := ⟨⟨by decide +kernel, by decide +kernel, by decide +kernel⟩, ⟨rfl, rfl⟩, kg_in 63 (by decide +kernel) (by decide +kernel), kg_in 379 (by decide +kernel) (by decide +kernel)⟩
theorem jl_J0_335 : Cond.methodLink RJ0 335 yJ0_coder_7d493 ∈ kg := kg_in 376 (by decide +kernel) (by decide +kernel)
theorem ji_J0_coder_7d493 : Cond.instanceMethod yJ0_coder_7d493 ∈ kg := kg_in 377 (by decide +kernel) (by decide +kernel)
theorem jd_J0_length_8abf5_9 : decode cJ0_length_8abf5 9 = .ok (.ishr, 1) := by decide +kernel
theorem jd_J0_length_8abf5_10 : decode cJ0_length_8abf5 10 = .ok (.ireturn, 1) := by decide +kernel
abbrev mzJ0_length_8abf5 : KM := (RJ0, cJ0_length_8abf5, 1, (some .int), { frames := 1, cells := 0, slots := 0, locals := 32 }, 0, 0)
set_option maxHeartbeats 1000000 in
set_option maxRecDepth 100000 in
theorem jt_slen (l : Launch) (E0 : KE) (j : Nat) (hj : j < 4) : JC l E0 yJ0_length_8abf5 mzJ0_length_8abf5 [.ref (E0.2.1 (2020 + j))] [] (fun v w => v = some (.int (nI (jby j).length)) ∧ w = []) := by
  refine jc_of [(0, .ref (E0.2.1 (2020 + j)))] (by decide +kernel) rfl rfl (Nat.le_of_ble_eq_true rfl) ?_
  intro A pr e s mt args below meth c Q B H locs ls hP hD hS hl
  have C := B.1
  have hnm := B.2.1
  obtain ⟨hx, hb, hml, hown, hts, hA, hK, hF⟩ := id C
  refine lv_aload_n hx hb jd_J0_length_8abf5_0 rfl (lv_at hl 0 rfl) ?_
  refine vk_getf hx hb (hF.2.1 j hj).2.2.1 hS hown (hts _ jf_J0_9) (fun _ h9 => h9) jd_J0_length_8abf5_1 ?_
  refine va_tlen (v := nI (jby j).length) hx hb (hF.2.1 j hj).2.2.2.1 hS rfl jd_J0_length_8abf5_4 ?_
  refine lv_aload_n hx hb jd_J0_length_8abf5_5 rfl (lv_at hl 0 rfl) ?_
  refine j_V (As := []) (st := [.int (nI (jby j).length)]) (C0 := RJ0) (ws := ([] : va_W)) (wc := []) (wr := ([] : va_W)) [] [] C rfl rfl rfl rfl (by decide) (jt_coder l E0 j hj) jd_J0_length_8abf5_6 rfl (j_recS hF hS j hj) yk_J0_coder_7d493 jl_J0_335 ji_J0_coder_7d493 (hts _ jse_J0_coder_7d493) ⟨Nat.le_of_ble_eq_true rfl, Nat.le_of_ble_eq_true rfl⟩ (show _ ≤ 8 from Nat.le_of_ble_eq_true rfl) (show _ ∧ _ from ⟨Nat.le_of_ble_eq_true rfl, Nat.le_of_ble_eq_true rfl⟩) hl.1 hP hD hS (fun v w H locs hq hP hD hS => ?_)
  obtain ⟨rfl, rfl⟩ := hq
  have hP : va_P E0.1 vwCl ([] : va_W) H := hP
  have hD : va_D A ([] : va_W) := hD
  refine W.eq (g2 := F0 mt 9 ls [.int 0, .int (nI (jby j).length)]) rfl ?_
  refine lv_ishr hx hb jd_J0_length_8abf5_9 ?_
  refine j_i (x' := (nI (jby j).length)) (sb_shr0 _) ?_
  exact j_iret B jd_J0_length_8abf5_10 rfl (by first | rfl | decide) (⟨rfl, rfl⟩) (Nat.le_of_ble_eq_true rfl) (Nat.le_of_ble_eq_true rfl) hP hD hS
theorem jd_J5_inflateIfNeededFor_a7421_0 : decode cJ5_inflateIfNeededFor_a7421 0 = .ok (.getstatic 18, 3) := by decide +kernel
theorem jd_J5_inflateIfNeededFor_a7421_3 : decode cJ5_inflateIfNeededFor_a7421 3 = .ok (.ifCond .eq 18, 3) := by decide +kernel
theorem jd_J5_inflateIfNeededFor_a7421_6 : decode cJ5_inflateIfNeededFor_a7421 6 = .ok (.aload_n 0, 1) := by decide +kernel
theorem jd_J5_inflateIfNeededFor_a7421_7 : decode cJ5_inflateIfNeededFor_a7421 7 = .ok (.getfield 22, 3) := by decide +kernel
theorem jd_J5_inflateIfNeededFor_a7421_10 : decode cJ5_inflateIfNeededFor_a7421 10 = .ok (.aload_n 1, 1) := by decide +kernel
theorem jd_J5_inflateIfNeededFor_a7421_11 : decode cJ5_inflateIfNeededFor_a7421 11 = .ok (.invokevirtual 40, 3) := by decide +kernel
theorem jl_J5_40 : Cond.methodLink RJ5 40 yJ0_coder_7d493 ∈ kg := kg_in 1254 (by decide +kernel) (by decide +kernel)
theorem jd_J5_inflateIfNeededFor_a7421_14 : decode cJ5_inflateIfNeededFor_a7421 14 = .ok (.if_icmp .eq 7, 3) := by decide +kernel
theorem jd_J5_inflateIfNeededFor_a7421_21 : decode cJ5_inflateIfNeededFor_a7421 21 = .ok (.return_, 1) := by decide +kernel
abbrev mzJ5_inflateIfNeededFor_a7421 : KM := (RJ5, cJ5_inflateIfNeededFor_a7421, 2, none, { frames := 1, cells := 0, slots := 0, locals := 32 }, 0, 0)
set_option maxHeartbeats 1000000 in
set_option maxRecDepth 100000 in
theorem jt_infl (l : Launch) (E0 : KE) (a b : Nat) (n : Int32) (m : Nat) (f : Nat → Int32) (j : Nat) (hj : j < 4) : JC l E0 yJ5_inflateIfNeededFor_a7421 mzJ5_inflateIfNeededFor_a7421 [.ref a, .ref (E0.2.1 (2020 + j))] [(a, .inr (8, [.ref b, .int 0, .int 0, .int n])), (b, .inl (E0.2.2 4, m, .inl f))] (fun v w => v = none ∧ w = [(a, .inr (8, [.ref b, .int 0, .int 0, .int n])), (b, .inl (E0.2.2 4, m, .inl f))]) := by
  refine jc_of [(0, .ref a), (1, .ref (E0.2.1 (2020 + j)))] (by decide +kernel) rfl rfl (Nat.le_of_ble_eq_true rfl) ?_
  intro A pr e s mt args below meth c Q B H locs ls hP hD hS hl
  have C := B.1
  have hnm := B.2.1
  obtain ⟨hx, hb, hml, hown, hts, hA, hK, hF⟩ := id C
  refine va_gets hx hb hF.1 hS hown (hts _ jf_J5_18) (fun _ h9 => h9) jd_J5_inflateIfNeededFor_a7421_0 ?_
  refine lv_if_eq hx hb jd_J5_inflateIfNeededFor_a7421_3 (tgt := 21) (by decide) (fun h9 => absurd h9 (by decide)) (fun _ => ?_)
  refine lv_aload_n hx hb jd_J5_inflateIfNeededFor_a7421_6 rfl (lv_at hl 0 rfl) ?_
  refine va_get (D := E0.1) (ci := 8) (v := .int 0) (C := RJ4) (T := TJ4) (N := 4) hx hb hts (kcl_ws 8 _ rfl) hown hK hP 0 rfl rfl 1 (by decide) (hts _ jf_J5_22) (fun _ h9 => h9) rfl jd_J5_inflateIfNeededFor_a7421_7 ?_
  refine lv_aload_n hx hb jd_J5_inflateIfNeededFor_a7421_10 rfl (lv_at hl 1 rfl) ?_
  refine j_V (As := []) (st := [.int 0]) (C0 := RJ0) (ws := ([(a, .inr (8, [.ref b, .int 0, .int 0, .int n])), (b, .inl (E0.2.2 4, m, .inl f))] : va_W)) (wc := []) (wr := ([(a, .inr (8, [.ref b, .int 0, .int 0, .int n])), (b, .inl (E0.2.2 4, m, .inl f))] : va_W)) [] [0, 1] C rfl rfl rfl rfl (by decide) (jt_coder l E0 j hj) jd_J5_inflateIfNeededFor_a7421_11 rfl (j_recS hF hS j hj) yk_J0_coder_7d493 jl_J5_40 ji_J0_coder_7d493 (hts _ jse_J0_coder_7d493) ⟨Nat.le_of_ble_eq_true rfl, Nat.le_of_ble_eq_true rfl⟩ (show _ ≤ 8 from Nat.le_of_ble_eq_true rfl) (show _ ∧ _ from ⟨Nat.le_of_ble_eq_true rfl, Nat.le_of_ble_eq_true rfl⟩) hl.1 hP hD hS (fun v w H locs hq hP hD hS => ?_)
  obtain ⟨rfl, rfl⟩ := hq
  have hP : va_P E0.1 vwCl ([(a, .inr (8, [.ref b, .int 0, .int 0, .int n])), (b, .inl (E0.2.2 4, m, .inl f))] : va_W) H := hP
  have hD : va_D A ([(a, .inr (8, [.ref b, .int 0, .int 0, .int n])), (b, .inl (E0.2.2 4, m, .inl f))] : va_W) := hD
  refine W.eq (g2 := F0 mt 14 ls [.int 0, .int 0]) rfl ?_
  refine lv_icmp_eq hx hb jd_J5_inflateIfNeededFor_a7421_14 (tgt := 21) (by decide) (fun _ => ?_) (fun h9 => absurd rfl h9)
  exact j_vret B jd_J5_inflateIfNeededFor_a7421_21 rfl (⟨rfl, rfl⟩) (Nat.le_of_ble_eq_true rfl) (Nat.le_of_ble_eq_true rfl) hP hD hS
theorem jd_J0_getBytes_840e7_0 : decode cJ0_getBytes_840e7 0 = .ok (.aload_n 0, 1) := by decide +kernel
theorem jd_J0_getBytes_840e7_1 : decode cJ0_getBytes_840e7 1 = .ok (.invokevirtual 335, 3) := by decide +kernel
theorem jd_J0_getBytes_840e7_4 : decode cJ0_getBytes_840e7 4 = .ok (.iload_n 3, 1) := by decide +kernel
theorem jd_J0_getBytes_840e7_5 : decode cJ0_getBytes_840e7 5 = .ok (.if_icmp .ne 23, 3) := by decide +kernel
theorem jd_J0_getBytes_840e7_8 : decode cJ0_getBytes_840e7 8 = .ok (.aload_n 0, 1) := by decide +kernel
theorem jd_J0_getBytes_840e7_9 : decode cJ0_getBytes_840e7 9 = .ok (.getfield 9, 3) := by decide +kernel
theorem jd_J0_getBytes_840e7_12 : decode cJ0_getBytes_840e7 12 = .ok (.iconst 0, 1) := by decide +kernel
theorem jd_J0_getBytes_840e7_13 : decode cJ0_getBytes_840e7 13 = .ok (.aload_n 1, 1) := by decide +kernel
theorem jd_J0_getBytes_840e7_14 : decode cJ0_getBytes_840e7 14 = .ok (.iload_n 2, 1) := by decide +kernel
theorem jd_J0_getBytes_840e7_15 : decode cJ0_getBytes_840e7 15 = .ok (.iload_n 3, 1) := by decide +kernel
theorem jd_J0_getBytes_840e7_16 : decode cJ0_getBytes_840e7 16 = .ok (.ishl, 1) := by decide +kernel
theorem jd_J0_getBytes_840e7_17 : decode cJ0_getBytes_840e7 17 = .ok (.aload_n 0, 1) := by decide +kernel
theorem jd_J0_getBytes_840e7_18 : decode cJ0_getBytes_840e7 18 = .ok (.getfield 9, 3) := by decide +kernel
theorem jd_J0_getBytes_840e7_21 : decode cJ0_getBytes_840e7 21 = .ok (.arraylength, 1) := by decide +kernel
theorem jd_J0_getBytes_840e7_22 : decode cJ0_getBytes_840e7 22 = .ok (.invokestatic 212, 3) := by decide +kernel
theorem jl_J0_212 : Cond.methodLink RJ0 212 arraycopyName ∈ kg := kg_in 1278 (by decide +kernel) (by decide +kernel)
theorem jd_J0_getBytes_840e7_25 : decode cJ0_getBytes_840e7 25 = .ok (.goto 18, 3) := by decide +kernel
theorem jd_J0_getBytes_840e7_43 : decode cJ0_getBytes_840e7 43 = .ok (.return_, 1) := by decide +kernel
abbrev mzJ0_getBytes_840e7 : KM := (RJ0, cJ0_getBytes_840e7, 4, none, { frames := 1, cells := 0, slots := 0, locals := 64 }, 0, 0)
set_option maxHeartbeats 1000000 in
set_option maxRecDepth 100000 in
theorem jt_getB (l : Launch) (E0 : KE) (j : Nat) (hj : j < 4) (b n m : Nat) (f : Nat → Int32) (hm : m ≤ 34) (hn : n + (jby j).length ≤ m) : JC l E0 yJ0_getBytes_840e7 mzJ0_getBytes_840e7 [.ref (E0.2.1 (2020 + j)), .ref b, .int (nI n), .int 0] [(b, .inl (E0.2.2 4, m, .inl f))] (fun v w => v = none ∧ w = [(b, .inl (E0.2.2 4, m, .inl (va_cpy (fun i => nI ((jby j).getD i 0)) f 0 n (jby j).length)))]) := by
  refine jc_of [(0, .ref (E0.2.1 (2020 + j))), (1, .ref b), (2, .int (nI n)), (3, .int 0)] (by decide +kernel) rfl rfl (Nat.le_of_ble_eq_true rfl) ?_
  intro A pr e s mt args below meth c Q B H locs ls hP hD hS hl
  have C := B.1
  have hnm := B.2.1
  obtain ⟨hx, hb, hml, hown, hts, hA, hK, hF⟩ := id C
  have hj8 := jlen j
  refine lv_aload_n hx hb jd_J0_getBytes_840e7_0 rfl (lv_at hl 0 rfl) ?_
  refine j_V (As := []) (st := []) (C0 := RJ0) (ws := ([(b, .inl (E0.2.2 4, m, .inl f))] : va_W)) (wc := []) (wr := ([(b, .inl (E0.2.2 4, m, .inl f))] : va_W)) [] [0] C rfl rfl rfl rfl (by decide) (jt_coder l E0 j hj) jd_J0_getBytes_840e7_1 rfl (j_recS hF hS j hj) yk_J0_coder_7d493 jl_J0_335 ji_J0_coder_7d493 (hts _ jse_J0_coder_7d493) ⟨Nat.le_of_ble_eq_true rfl, Nat.le_of_ble_eq_true rfl⟩ (show _ ≤ 8 from Nat.le_of_ble_eq_true rfl) (show _ ∧ _ from ⟨Nat.le_of_ble_eq_true rfl, Nat.le_of_ble_eq_true rfl⟩) hl.1 hP hD hS (fun v w H locs hq hP hD hS => ?_)
  obtain ⟨rfl, rfl⟩ := hq
  have hP : va_P E0.1 vwCl ([(b, .inl (E0.2.2 4, m, .inl f))] : va_W) H := hP
  have hD : va_D A ([(b, .inl (E0.2.2 4, m, .inl f))] : va_W) := hD
  refine W.eq (g2 := F0 mt 4 ls [.int 0]) rfl ?_
  refine lv_iload_n hx hb jd_J0_getBytes_840e7_4 rfl (lv_at hl 3 rfl) ?_
  refine lv_icmp_ne hx hb jd_J0_getBytes_840e7_5 (tgt := 28) (by decide) (fun h9 => absurd rfl h9) (fun _ => ?_)
  refine lv_aload_n hx hb jd_J0_getBytes_840e7_8 rfl (lv_at hl 0 rfl) ?_
  refine vk_getf hx hb (hF.2.1 j hj).2.2.1 hS hown (hts _ jf_J0_9) (fun _ h9 => h9) jd_J0_getBytes_840e7_9 ?_
  refine lv_iconst (v := 0) hx hb jd_J0_getBytes_840e7_12 (by decide) ?_
  refine lv_aload_n hx hb jd_J0_getBytes_840e7_13 rfl (lv_at hl 1 rfl) ?_
  refine lv_iload_n hx hb jd_J0_getBytes_840e7_14 rfl (lv_at hl 2 rfl) ?_
  refine lv_iload_n hx hb jd_J0_getBytes_840e7_15 rfl (lv_at hl 3 rfl) ?_
  refine lv_ishl hx hb jd_J0_getBytes_840e7_16 ?_
  refine j_i (x' := (nI n)) (sb_shl0 _) ?_
  refine lv_aload_n hx hb jd_J0_getBytes_840e7_17 rfl (lv_at hl 0 rfl) ?_
  refine vk_getf hx hb (hF.2.1 j hj).2.2.1 hS hown (hts _ jf_J0_9) (fun _ h9 => h9) jd_J0_getBytes_840e7_18 ?_
  refine va_tlen (v := nI (jby j).length) hx hb (hF.2.1 j hj).2.2.2.1 hS rfl jd_J0_getBytes_840e7_21 ?_
  refine vk_copyt hx hb (by rw [hml]; exact hl.1.symm) hown (hts _ jl_J0_212) (hts _ kw_copy.1) (hts _ kw_copy.2.1) (hts _ kw_copy.2.2) hK hP hD hS (f := fun i => nI ((jby j).getD i 0)) (hF.2.1 j hj).2.2.2.1 0 0 rfl rfl (by decide) (nI_pos (by omega)) (nI_pos (by omega)) (by rw [sb_cl0, nI_clamp (by omega)]; omega) (by rw [nI_clamp (by omega), nI_clamp (by omega)]; omega) (fun i _ => jby_fit j _) (Nat.le_of_ble_eq_true rfl) (Nat.le_of_ble_eq_true rfl) jd_J0_getBytes_840e7_22 (fun H locs hP hD hS => ?_)
  have hP : va_P E0.1 vwCl ([(b, .inl (E0.2.2 4, m, .inl (va_cpy (fun i => nI ((jby j).getD i 0)) f (Int32.toNatClampNeg (0)) (Int32.toNatClampNeg ((nI n))) (Int32.toNatClampNeg ((nI (jby j).length))))))] : va_W) H := hP
  have hD : va_D A ([(b, .inl (E0.2.2 4, m, .inl (va_cpy (fun i => nI ((jby j).getD i 0)) f (Int32.toNatClampNeg (0)) (Int32.toNatClampNeg ((nI n))) (Int32.toNatClampNeg ((nI (jby j).length))))))] : va_W) := hD
  have e9 : va_cpy (fun i => nI ((jby j).getD i 0)) f (Int32.toNatClampNeg (0)) (Int32.toNatClampNeg ((nI n))) (Int32.toNatClampNeg ((nI (jby j).length))) = (va_cpy (fun i => nI ((jby j).getD i 0)) f 0 n (jby j).length) := by rw [sb_cl0, nI_clamp (by omega), nI_clamp (by omega)]
  rw [e9] at hP hD
  refine lv_goto hx hb jd_J0_getBytes_840e7_25 (tgt := 43) (by decide) ?_
  exact j_vret B jd_J0_getBytes_840e7_43 rfl (⟨rfl, rfl⟩) (Nat.le_of_ble_eq_true rfl) (Nat.le_of_ble_eq_true rfl) hP hD hS
theorem jd_J5_putStringAt_47b60_0 : decode cJ5_putStringAt_47b60 0 = .ok (.aload_n 0, 1) := by decide +kernel
theorem jd_J5_putStringAt_47b60_1 : decode cJ5_putStringAt_47b60 1 = .ok (.aload_n 2, 1) := by decide +kernel
theorem jd_J5_putStringAt_47b60_2 : decode cJ5_putStringAt_47b60 2 = .ok (.invokevirtual 397, 3) := by decide +kernel
theorem yk_J5_inflateIfNeededFor_a7421 : KMW yJ5_inflateIfNeededFor_a7421 mzJ5_inflateIfNeededFor_a7421 1 := ⟨⟨by decide +kernel, by decide +kernel, by decide +kernel⟩, ⟨rfl, rfl⟩, kg_in 61 (by decide +kernel) (by decide +kernel), kg_in 1253 (by decide +kernel) (by decide +kernel)⟩
theorem jl_J5_397 : Cond.methodLink RJ5 397 yJ5_inflateIfNeededFor_a7421 ∈ kg := kg_in 1250 (by decide +kernel) (by decide +kernel)
theorem ji_J5_inflateIfNeededFor_a7421 : Cond.instanceMethod yJ5_inflateIfNeededFor_a7421 ∈ kg := kg_in 1252 (by decide +kernel) (by decide +kernel)
theorem jd_J5_putStringAt_47b60_5 : decode cJ5_putStringAt_47b60 5 = .ok (.aload_n 2, 1) := by decide +kernel
theorem jd_J5_putStringAt_47b60_6 : decode cJ5_putStringAt_47b60 6 = .ok (.aload_n 0, 1) := by decide +kernel
theorem jd_J5_putStringAt_47b60_7 : decode cJ5_putStringAt_47b60 7 = .ok (.getfield 15, 3) := by decide +kernel
theorem jf_J5_15 : Cond.fieldLink RJ5 15 "java/lang/AbstractStringBuilder" "value" "[B" ∈ kg := kg_in 1172 (by decide +kernel) (by decide +kernel)
theorem jd_J5_putStringAt_47b60_10 : decode cJ5_putStringAt_47b60 10 = .ok (.iload_n 1, 1) := by decide +kernel
theorem jd_J5_putStringAt_47b60_11 : decode cJ5_putStringAt_47b60 11 = .ok (.aload_n 0, 1) := by decide +kernel
theorem jd_J5_putStringAt_47b60_12 : decode cJ5_putStringAt_47b60 12 = .ok (.getfield 22, 3) := by decide +kernel
theorem jd_J5_putStringAt_47b60_15 : decode cJ5_putStringAt_47b60 15 = .ok (.invokevirtual 399, 3) := by decide +kernel
theorem jse_J0_getBytes_840e7 : Cond.selects RJ0 yJ0_getBytes_840e7 yJ0_getBytes_840e7 ∈ kg := kg_in 1276 (by decide +kernel) (by decide +kernel)
theorem yk_J0_getBytes_840e7 : KMW yJ0_getBytes_840e7 mzJ0_getBytes_840e7 3 := ⟨⟨by decide +kernel, by decide +kernel, by decide +kernel⟩, ⟨rfl, rfl⟩, kg_in 63 (by decide +kernel) (by decide +kernel), kg_in 1277 (by decide +kernel) (by decide +kernel)⟩
theorem jl_J5_399 : Cond.methodLink RJ5 399 yJ0_getBytes_840e7 ∈ kg := kg_in 1274 (by decide +kernel) (by decide +kernel)
theorem ji_J0_getBytes_840e7 : Cond.instanceMethod yJ0_getBytes_840e7 ∈ kg := kg_in 1275 (by decide +kernel) (by decide +kernel)
theorem jd_J5_putStringAt_47b60_18 : decode cJ5_putStringAt_47b60 18 = .ok (.return_, 1) := by decide +kernel
abbrev mzJ5_putStringAt_47b60 : KM := (RJ5, cJ5_putStringAt_47b60, 3, none, { frames := 2, cells := 0, slots := 0, locals := 87 }, 0, 0)
set_option maxHeartbeats 1000000 in
set_option maxRecDepth 100000 in
theorem jt_putS (l : Launch) (E0 : KE) (a b : Nat) (n : Int32) (m : Nat) (f : Nat → Int32) (n0 j : Nat) (hj : j < 4) (hm : m ≤ 34) (hn : n0 + (jby j).length ≤ m) : JC l E0 yJ5_putStringAt_47b60 mzJ5_putStringAt_47b60 [.ref a, .int (nI n0), .ref (E0.2.1 (2020 + j))] [(a, .inr (8, [.ref b, .int 0, .int 0, .int n])), (b, .inl (E0.2.2 4, m, .inl f))] (fun v w => v = none ∧ w = [(a, .inr (8, [.ref b, .int 0, .int 0, .int n])), (b, .inl (E0.2.2 4, m, .inl (va_cpy (fun i => nI ((jby j).getD i 0)) f 0 n0 (jby j).length)))]) := by
  refine jc_of [(0, .ref a), (1, .int (nI n0)), (2, .ref (E0.2.1 (2020 + j)))] (by decide +kernel) rfl rfl (Nat.le_of_ble_eq_true rfl) ?_
  intro A pr e s mt args below meth c Q B H locs ls hP hD hS hl
  have C := B.1
  have hnm := B.2.1
  obtain ⟨hx, hb, hml, hown, hts, hA, hK, hF⟩ := id C
  refine lv_aload_n hx hb jd_J5_putStringAt_47b60_0 rfl (lv_at hl 0 rfl) ?_
  refine lv_aload_n hx hb jd_J5_putStringAt_47b60_1 rfl (lv_at hl 2 rfl) ?_
  refine j_V (As := [.ref (E0.2.1 (2020 + j))]) (st := []) (C0 := RJ4) (ws := ([(a, .inr (8, [.ref b, .int 0, .int 0, .int n])), (b, .inl (E0.2.2 4, m, .inl f))] : va_W)) (wc := [(a, .inr (8, [.ref b, .int 0, .int 0, .int n])), (b, .inl (E0.2.2 4, m, .inl f))]) (wr := ([] : va_W)) [0, 1] [] C rfl rfl rfl rfl (by decide) (jt_infl l E0 a b n m f j hj) jd_J5_putStringAt_47b60_2 rfl (va_recv (ci := 8) (q := (RJ4, TJ4, 4)) (q0 := 0) hK hP rfl rfl) yk_J5_inflateIfNeededFor_a7421 jl_J5_397 ji_J5_inflateIfNeededFor_a7421 (j_selM (List.mem_of_getElem? (i := 3) rfl) hF) ⟨Nat.le_of_ble_eq_true rfl, Nat.le_of_ble_eq_true rfl⟩ (show _ ≤ 8 from Nat.le_of_ble_eq_true rfl) (show _ ∧ _ from ⟨Nat.le_of_ble_eq_true rfl, Nat.le_of_ble_eq_true rfl⟩) hl.1 hP hD hS (fun v w H locs hq hP hD hS => ?_)
  obtain ⟨rfl, rfl⟩ := hq
  have hP : va_P E0.1 vwCl ([(a, .inr (8, [.ref b, .int 0, .int 0, .int n])), (b, .inl (E0.2.2 4, m, .inl f))] : va_W) H := hP
  have hD : va_D A ([(a, .inr (8, [.ref b, .int 0, .int 0, .int n])), (b, .inl (E0.2.2 4, m, .inl f))] : va_W) := hD
  refine W.eq (g2 := F0 mt 5 ls []) rfl ?_
  refine lv_aload_n hx hb jd_J5_putStringAt_47b60_5 rfl (lv_at hl 2 rfl) ?_
  refine lv_aload_n hx hb jd_J5_putStringAt_47b60_6 rfl (lv_at hl 0 rfl) ?_
  refine va_get (D := E0.1) (ci := 8) (v := .ref b) (C := RJ4) (T := TJ4) (N := 4) hx hb hts (kcl_ws 8 _ rfl) hown hK hP 0 rfl rfl 0 (by decide) (hts _ jf_J5_15) (fun _ h9 => h9) rfl jd_J5_putStringAt_47b60_7 ?_
  refine lv_iload_n hx hb jd_J5_putStringAt_47b60_10 rfl (lv_at hl 1 rfl) ?_
  refine lv_aload_n hx hb jd_J5_putStringAt_47b60_11 rfl (lv_at hl 0 rfl) ?_
  refine va_get (D := E0.1) (ci := 8) (v := .int 0) (C := RJ4) (T := TJ4) (N := 4) hx hb hts (kcl_ws 8 _ rfl) hown hK hP 0 rfl rfl 1 (by decide) (hts _ jf_J5_22) (fun _ h9 => h9) rfl jd_J5_putStringAt_47b60_12 ?_
  refine j_V (As := [.ref b, .int (nI n0), .int 0]) (st := []) (C0 := RJ0) (ws := ([(a, .inr (8, [.ref b, .int 0, .int 0, .int n])), (b, .inl (E0.2.2 4, m, .inl f))] : va_W)) (wc := [(b, .inl (E0.2.2 4, m, .inl f))]) (wr := ([(a, .inr (8, [.ref b, .int 0, .int 0, .int n]))] : va_W)) [1] [0] C rfl rfl rfl rfl (by decide) (jt_getB l E0 j hj b n0 m f hm hn) jd_J5_putStringAt_47b60_15 rfl (j_recS hF hS j hj) yk_J0_getBytes_840e7 jl_J5_399 ji_J0_getBytes_840e7 (hts _ jse_J0_getBytes_840e7) ⟨Nat.le_of_ble_eq_true rfl, Nat.le_of_ble_eq_true rfl⟩ (show _ ≤ 8 from Nat.le_of_ble_eq_true rfl) (show _ ∧ _ from ⟨Nat.le_of_ble_eq_true rfl, Nat.le_of_ble_eq_true rfl⟩) hl.1 hP hD hS (fun v w H locs hq hP hD hS => ?_)
  obtain ⟨rfl, rfl⟩ := hq
  have hP : va_P E0.1 vwCl ([(a, .inr (8, [.ref b, .int 0, .int 0, .int n])), (b, .inl (E0.2.2 4, m, .inl (va_cpy (fun i => nI ((jby j).getD i 0)) f 0 n0 (jby j).length)))] : va_W) H := hP
  have hD : va_D A ([(a, .inr (8, [.ref b, .int 0, .int 0, .int n])), (b, .inl (E0.2.2 4, m, .inl (va_cpy (fun i => nI ((jby j).getD i 0)) f 0 n0 (jby j).length)))] : va_W) := hD
  refine W.eq (g2 := F0 mt 18 ls []) rfl ?_
  exact j_vret B jd_J5_putStringAt_47b60_18 rfl (⟨rfl, rfl⟩) (Nat.le_of_ble_eq_true rfl) (Nat.le_of_ble_eq_true rfl) hP hD hS
theorem jd_J8_newLength_cabcc_0 : decode cJ8_newLength_cabcc 0 = .ok (.iload_n 0, 1) := by decide +kernel
theorem jd_J8_newLength_cabcc_1 : decode cJ8_newLength_cabcc 1 = .ok (.iload_n 1, 1) := by decide +kernel
theorem jd_J8_newLength_cabcc_2 : decode cJ8_newLength_cabcc 2 = .ok (.iload_n 2, 1) := by decide +kernel
theorem jd_J8_newLength_cabcc_3 : decode cJ8_newLength_cabcc 3 = .ok (.invokestatic 194, 3) := by decide +kernel
theorem jl_J8_194 : Cond.methodLink RJ8 194 Lib.Math.max.name ∈ kg := kg_in 1207 (by decide +kernel) (by decide +kernel)
theorem jd_J8_newLength_cabcc_6 : decode cJ8_newLength_cabcc 6 = .ok (.iadd, 1) := by decide +kernel
theorem jd_J8_newLength_cabcc_7 : decode cJ8_newLength_cabcc 7 = .ok (.istore_n 3, 1) := by decide +kernel
theorem jd_J8_newLength_cabcc_8 : decode cJ8_newLength_cabcc 8 = .ok (.iconst 0, 1) := by decide +kernel
theorem jd_J8_newLength_cabcc_9 : decode cJ8_newLength_cabcc 9 = .ok (.iload_n 3, 1) := by decide +kernel
theorem jd_J8_newLength_cabcc_10 : decode cJ8_newLength_cabcc 10 = .ok (.if_icmp .ge 11, 3) := by decide +kernel
theorem jd_J8_newLength_cabcc_13 : decode cJ8_newLength_cabcc 13 = .ok (.iload_n 3, 1) := by decide +kernel
theorem jd_J8_newLength_cabcc_14 : decode cJ8_newLength_cabcc 14 = .ok (.ldc 200, 2) := by decide +kernel
theorem jc_J8_200 : Cond.constant RJ8 200 2147483639 ∈ kg := kg_in 1208 (by decide +kernel) (by decide +kernel)
theorem jd_J8_newLength_cabcc_16 : decode cJ8_newLength_cabcc 16 = .ok (.if_icmp .gt 5, 3) := by decide +kernel
theorem jd_J8_newLength_cabcc_19 : decode cJ8_newLength_cabcc 19 = .ok (.iload_n 3, 1) := by decide +kernel
theorem jd_J8_newLength_cabcc_20 : decode cJ8_newLength_cabcc 20 = .ok (.ireturn, 1) := by decide +kernel
abbrev mzJ8_newLength_cabcc : KM := (RJ8, cJ8_newLength_cabcc, 4, (some .int), { frames := 1, cells := 0, slots := 0, locals := 18 }, 0, 0)
set_option maxHeartbeats 1000000 in
set_option maxRecDepth 100000 in
theorem jt_newLen (l : Launch) (E0 : KE) (d : Nat) (hd : d ≤ 18) : JC l E0 yJ8_newLength_cabcc mzJ8_newLength_cabcc [.int 16, .int (nI d), .int 18] [] (fun v w => v = some (.int 34) ∧ w = []) := by
  refine jc_of [(0, .int 16), (1, .int (nI d)), (2, .int 18)] (by decide +kernel) rfl rfl (Nat.le_of_ble_eq_true rfl) ?_
  intro A pr e s mt args below meth c Q B H locs ls hP hD hS hl
  have C := B.1
  have hnm := B.2.1
  obtain ⟨hx, hb, hml, hown, hts, hA, hK, hF⟩ := id C
  refine lv_iload_n hx hb jd_J8_newLength_cabcc_0 rfl (lv_at hl 0 rfl) ?_
  refine lv_iload_n hx hb jd_J8_newLength_cabcc_1 rfl (lv_at hl 1 rfl) ?_
  refine lv_iload_n hx hb jd_J8_newLength_cabcc_2 rfl (lv_at hl 2 rfl) ?_
  refine va_mmax hx hb (by rw [hml]; exact hl.1.symm) hown (hts _ jl_J8_194) (hts _ kw_max.1) (hts _ kw_max.2.1) (hts _ kw_max.2.2) (Nat.le_of_ble_eq_true rfl) (Nat.le_of_ble_eq_true rfl) (Nat.le_of_ble_eq_true rfl) (Nat.le_of_ble_eq_true rfl) jd_J8_newLength_cabcc_3 ?_
  refine j_i (x' := 18) (jmax hd) ?_
  refine lv_iadd hx hb jd_J8_newLength_cabcc_6 ?_
  refine j_i (x' := 34) (by decide) ?_
  refine lv_istore_n (lv' := [(3, .int 34), (0, .int 16), (1, .int (nI d)), (2, .int 18)]) hx hb jd_J8_newLength_cabcc_7 rfl hl (by decide) rfl (fun ls hl => ?_)
  refine lv_iconst (v := 0) hx hb jd_J8_newLength_cabcc_8 (by decide) ?_
  refine lv_iload_n hx hb jd_J8_newLength_cabcc_9 rfl (lv_at hl 0 rfl) ?_
  refine lv_icmp_ge hx hb jd_J8_newLength_cabcc_10 (tgt := 21) (by decide) (fun h9 => absurd h9 (by decide)) (fun _ => ?_)
  refine lv_iload_n hx hb jd_J8_newLength_cabcc_13 rfl (lv_at hl 0 rfl) ?_
  refine lv_ldc hx hb hown (hts _ jc_J8_200) jd_J8_newLength_cabcc_14 ?_
  refine lv_icmp_gt hx hb jd_J8_newLength_cabcc_16 (tgt := 21) (by decide) (fun h9 => absurd h9 (by decide)) (fun _ => ?_)
  refine lv_iload_n hx hb jd_J8_newLength_cabcc_19 rfl (lv_at hl 0 rfl) ?_
  exact j_iret B jd_J8_newLength_cabcc_20 rfl (by first | rfl | decide) (⟨rfl, rfl⟩) (Nat.le_of_ble_eq_true rfl) (Nat.le_of_ble_eq_true rfl) hP hD hS
theorem jd_J5_newCapacity_0f7a4_0 : decode cJ5_newCapacity_0f7a4 0 = .ok (.aload_n 0, 1) := by decide +kernel
theorem jd_J5_newCapacity_0f7a4_1 : decode cJ5_newCapacity_0f7a4 1 = .ok (.getfield 15, 3) := by decide +kernel
theorem jd_J5_newCapacity_0f7a4_4 : decode cJ5_newCapacity_0f7a4 4 = .ok (.arraylength, 1) := by decide +kernel
theorem jd_J5_newCapacity_0f7a4_5 : decode cJ5_newCapacity_0f7a4 5 = .ok (.istore_n 2, 1) := by decide +kernel
theorem jd_J5_newCapacity_0f7a4_6 : decode cJ5_newCapacity_0f7a4 6 = .ok (.iload_n 1, 1) := by decide +kernel
theorem jd_J5_newCapacity_0f7a4_7 : decode cJ5_newCapacity_0f7a4 7 = .ok (.aload_n 0, 1) := by decide +kernel
theorem jd_J5_newCapacity_0f7a4_8 : decode cJ5_newCapacity_0f7a4 8 = .ok (.getfield 22, 3) := by decide +kernel
theorem jd_J5_newCapacity_0f7a4_11 : decode cJ5_newCapacity_0f7a4 11 = .ok (.ishl, 1) := by decide +kernel
theorem jd_J5_newCapacity_0f7a4_12 : decode cJ5_newCapacity_0f7a4 12 = .ok (.istore_n 3, 1) := by decide +kernel
theorem jd_J5_newCapacity_0f7a4_13 : decode cJ5_newCapacity_0f7a4 13 = .ok (.iload_n 3, 1) := by decide +kernel
theorem jd_J5_newCapacity_0f7a4_14 : decode cJ5_newCapacity_0f7a4 14 = .ok (.iload_n 2, 1) := by decide +kernel
theorem jd_J5_newCapacity_0f7a4_15 : decode cJ5_newCapacity_0f7a4 15 = .ok (.isub, 1) := by decide +kernel
theorem jd_J5_newCapacity_0f7a4_16 : decode cJ5_newCapacity_0f7a4 16 = .ok (.istore 4, 2) := by decide +kernel
theorem jd_J5_newCapacity_0f7a4_18 : decode cJ5_newCapacity_0f7a4 18 = .ok (.iload_n 2, 1) := by decide +kernel
theorem jd_J5_newCapacity_0f7a4_19 : decode cJ5_newCapacity_0f7a4 19 = .ok (.iload 4, 2) := by decide +kernel
theorem jd_J5_newCapacity_0f7a4_21 : decode cJ5_newCapacity_0f7a4 21 = .ok (.iload_n 2, 1) := by decide +kernel
theorem jd_J5_newCapacity_0f7a4_22 : decode cJ5_newCapacity_0f7a4 22 = .ok (.iconst 2, 1) := by decide +kernel
theorem jd_J5_newCapacity_0f7a4_23 : decode cJ5_newCapacity_0f7a4 23 = .ok (.aload_n 0, 1) := by decide +kernel
theorem jd_J5_newCapacity_0f7a4_24 : decode cJ5_newCapacity_0f7a4 24 = .ok (.getfield 22, 3) := by decide +kernel
theorem jd_J5_newCapacity_0f7a4_27 : decode cJ5_newCapacity_0f7a4 27 = .ok (.ishl, 1) := by decide +kernel
theorem jd_J5_newCapacity_0f7a4_28 : decode cJ5_newCapacity_0f7a4 28 = .ok (.iadd, 1) := by decide +kernel
theorem jd_J5_newCapacity_0f7a4_29 : decode cJ5_newCapacity_0f7a4 29 = .ok (.invokestatic 114, 3) := by decide +kernel
theorem yk_J8_newLength_cabcc : KMW yJ8_newLength_cabcc mzJ8_newLength_cabcc 3 := ⟨⟨by decide +kernel, by decide +kernel, by decide +kernel⟩, ⟨rfl, rfl⟩, kg_in 65 (by decide +kernel) (by decide +kernel), kg_in 1206 (by decide +kernel) (by decide +kernel)⟩
theorem jl_J5_114 : Cond.methodLink RJ5 114 yJ8_newLength_cabcc ∈ kg := kg_in 1204 (by decide +kernel) (by decide +kernel)
theorem js_J8_newLength_cabcc : Cond.static yJ8_newLength_cabcc ∈ kg := kg_in 1205 (by decide +kernel) (by decide +kernel)
theorem jd_J5_newCapacity_0f7a4_32 : decode cJ5_newCapacity_0f7a4 32 = .ok (.istore 5, 2) := by decide +kernel
theorem jd_J5_newCapacity_0f7a4_34 : decode cJ5_newCapacity_0f7a4 34 = .ok (.iload 5, 2) := by decide +kernel
theorem jd_J5_newCapacity_0f7a4_36 : decode cJ5_newCapacity_0f7a4 36 = .ok (.ldc 39, 2) := by decide +kernel
theorem jc_J5_39 : Cond.constant RJ5 39 2147483647 ∈ kg := kg_in 1212 (by decide +kernel) (by decide +kernel)
theorem jd_J5_newCapacity_0f7a4_38 : decode cJ5_newCapacity_0f7a4 38 = .ok (.if_icmp .ne 13, 3) := by decide +kernel
theorem jd_J5_newCapacity_0f7a4_51 : decode cJ5_newCapacity_0f7a4 51 = .ok (.iload 5, 2) := by decide +kernel
theorem jd_J5_newCapacity_0f7a4_53 : decode cJ5_newCapacity_0f7a4 53 = .ok (.aload_n 0, 1) := by decide +kernel
theorem jd_J5_newCapacity_0f7a4_54 : decode cJ5_newCapacity_0f7a4 54 = .ok (.getfield 22, 3) := by decide +kernel
theorem jd_J5_newCapacity_0f7a4_57 : decode cJ5_newCapacity_0f7a4 57 = .ok (.ishr, 1) := by decide +kernel
theorem jd_J5_newCapacity_0f7a4_58 : decode cJ5_newCapacity_0f7a4 58 = .ok (.ireturn, 1) := by decide +kernel
abbrev mzJ5_newCapacity_0f7a4 : KM := (RJ5, cJ5_newCapacity_0f7a4, 6, (some .int), { frames := 2, cells := 0, slots := 0, locals := 41 }, 0, 0)
set_option maxHeartbeats 1000000 in
set_option maxRecDepth 100000 in
theorem jt_newCap (l : Launch) (E0 : KE) (a b : Nat) (n : Int32) (f : Nat → Int32) (q : Nat) (h1 : 16 < q) (h2 : q ≤ 34) : JC l E0 yJ5_newCapacity_0f7a4 mzJ5_newCapacity_0f7a4 [.ref a, .int (nI q)] [(a, .inr (8, [.ref b, .int 0, .int 0, .int n])), (b, .inl (E0.2.2 4, 16, .inl f))] (fun v w => v = some (.int 34) ∧ w = [(a, .inr (8, [.ref b, .int 0, .int 0, .int n])), (b, .inl (E0.2.2 4, 16, .inl f))]) := by
  refine jc_of [(0, .ref a), (1, .int (nI q))] (by decide +kernel) rfl rfl (Nat.le_of_ble_eq_true rfl) ?_
  intro A pr e s mt args below meth c Q B H locs ls hP hD hS hl
  have C := B.1
  have hnm := B.2.1
  obtain ⟨hx, hb, hml, hown, hts, hA, hK, hF⟩ := id C
  refine lv_aload_n hx hb jd_J5_newCapacity_0f7a4_0 rfl (lv_at hl 0 rfl) ?_
  refine va_get (D := E0.1) (ci := 8) (v := .ref b) (C := RJ4) (T := TJ4) (N := 4) hx hb hts (kcl_ws 8 _ rfl) hown hK hP 0 rfl rfl 0 (by decide) (hts _ jf_J5_15) (fun _ h9 => h9) rfl jd_J5_newCapacity_0f7a4_1 ?_
  refine va_alen (D := E0.1) (v := 16) hx hb hK hP 1 0 rfl rfl rfl jd_J5_newCapacity_0f7a4_4 ?_
  refine lv_istore_n (lv' := [(2, .int 16), (0, .ref a), (1, .int (nI q))]) hx hb jd_J5_newCapacity_0f7a4_5 rfl hl (by decide) rfl (fun ls hl => ?_)
  refine lv_iload_n hx hb jd_J5_newCapacity_0f7a4_6 rfl (lv_at hl 2 rfl) ?_
  refine lv_aload_n hx hb jd_J5_newCapacity_0f7a4_7 rfl (lv_at hl 1 rfl) ?_
  refine va_get (D := E0.1) (ci := 8) (v := .int 0) (C := RJ4) (T := TJ4) (N := 4) hx hb hts (kcl_ws 8 _ rfl) hown hK hP 0 rfl rfl 1 (by decide) (hts _ jf_J5_22) (fun _ h9 => h9) rfl jd_J5_newCapacity_0f7a4_8 ?_
  refine lv_ishl hx hb jd_J5_newCapacity_0f7a4_11 ?_
  refine j_i (x' := (nI q)) (sb_shl0 _) ?_
  refine lv_istore_n (lv' := [(3, .int (nI q)), (2, .int 16), (0, .ref a), (1, .int (nI q))]) hx hb jd_J5_newCapacity_0f7a4_12 rfl hl (by decide) rfl (fun ls hl => ?_)
  refine lv_iload_n hx hb jd_J5_newCapacity_0f7a4_13 rfl (lv_at hl 0 rfl) ?_
  refine lv_iload_n hx hb jd_J5_newCapacity_0f7a4_14 rfl (lv_at hl 1 rfl) ?_
  refine lv_isub hx hb jd_J5_newCapacity_0f7a4_15 ?_
  refine j_i (x' := (nI (q - 16))) (pk_sub (b := 16) (by omega)) ?_
  refine lv_istore (lv' := [(4, .int (nI (q - 16))), (3, .int (nI q)), (2, .int 16), (0, .ref a), (1, .int (nI q))]) hx hb jd_J5_newCapacity_0f7a4_16 hl (by decide) rfl (fun ls hl => ?_)
  refine lv_iload_n hx hb jd_J5_newCapacity_0f7a4_18 rfl (lv_at hl 2 rfl) ?_
  refine lv_iload hx hb jd_J5_newCapacity_0f7a4_19 (lv_at hl 0 rfl) ?_
  refine lv_iload_n hx hb jd_J5_newCapacity_0f7a4_21 rfl (lv_at hl 2 rfl) ?_
  refine lv_iconst (v := 2) hx hb jd_J5_newCapacity_0f7a4_22 (by decide) ?_
  refine lv_aload_n hx hb jd_J5_newCapacity_0f7a4_23 rfl (lv_at hl 3 rfl) ?_
  refine va_get (D := E0.1) (ci := 8) (v := .int 0) (C := RJ4) (T := TJ4) (N := 4) hx hb hts (kcl_ws 8 _ rfl) hown hK hP 0 rfl rfl 1 (by decide) (hts _ jf_J5_22) (fun _ h9 => h9) rfl jd_J5_newCapacity_0f7a4_24 ?_
  refine lv_ishl hx hb jd_J5_newCapacity_0f7a4_27 ?_
  refine j_i (x' := 2) (by decide) ?_
  refine lv_iadd hx hb jd_J5_newCapacity_0f7a4_28 ?_
  refine j_i (x' := 18) (by decide) ?_
  refine j_S (As := [.int 16, .int (nI (q - 16)), .int 18]) (st := []) (ws := ([(a, .inr (8, [.ref b, .int 0, .int 0, .int n])), (b, .inl (E0.2.2 4, 16, .inl f))] : va_W)) (wc := []) (wr := ([(a, .inr (8, [.ref b, .int 0, .int 0, .int n])), (b, .inl (E0.2.2 4, 16, .inl f))] : va_W)) [] [0, 1] C rfl rfl rfl rfl (by decide) (jt_newLen l E0 (q - 16) (by omega)) jd_J5_newCapacity_0f7a4_29 rfl yk_J8_newLength_cabcc jl_J5_114 js_J8_newLength_cabcc ⟨Nat.le_of_ble_eq_true rfl, Nat.le_of_ble_eq_true rfl⟩ (show _ ≤ 8 from Nat.le_of_ble_eq_true rfl) (show _ ∧ _ from ⟨Nat.le_of_ble_eq_true rfl, Nat.le_of_ble_eq_true rfl⟩) hl.1 hP hD hS (fun v w H locs hq hP hD hS => ?_)
  obtain ⟨rfl, rfl⟩ := hq
  have hP : va_P E0.1 vwCl ([(a, .inr (8, [.ref b, .int 0, .int 0, .int n])), (b, .inl (E0.2.2 4, 16, .inl f))] : va_W) H := hP
  have hD : va_D A ([(a, .inr (8, [.ref b, .int 0, .int 0, .int n])), (b, .inl (E0.2.2 4, 16, .inl f))] : va_W) := hD
  refine W.eq (g2 := F0 mt 32 ls [.int 34]) rfl ?_
  refine lv_istore (lv' := [(5, .int 34), (4, .int (nI (q - 16))), (3, .int (nI q)), (2, .int 16), (0, .ref a), (1, .int (nI q))]) hx hb jd_J5_newCapacity_0f7a4_32 hl (by decide) rfl (fun ls hl => ?_)
  refine lv_iload hx hb jd_J5_newCapacity_0f7a4_34 (lv_at hl 0 rfl) ?_
  refine lv_ldc hx hb hown (hts _ jc_J5_39) jd_J5_newCapacity_0f7a4_36 ?_
  refine lv_icmp_ne hx hb jd_J5_newCapacity_0f7a4_38 (tgt := 51) (by decide) (fun _ => ?_) (fun h9 => absurd h9 (by decide))
  refine lv_iload hx hb jd_J5_newCapacity_0f7a4_51 (lv_at hl 0 rfl) ?_
  refine lv_aload_n hx hb jd_J5_newCapacity_0f7a4_53 rfl (lv_at hl 4 rfl) ?_
  refine va_get (D := E0.1) (ci := 8) (v := .int 0) (C := RJ4) (T := TJ4) (N := 4) hx hb hts (kcl_ws 8 _ rfl) hown hK hP 0 rfl rfl 1 (by decide) (hts _ jf_J5_22) (fun _ h9 => h9) rfl jd_J5_newCapacity_0f7a4_54 ?_
  refine lv_ishr hx hb jd_J5_newCapacity_0f7a4_57 ?_
  refine j_i (x' := 34) (by decide) ?_
  exact j_iret B jd_J5_newCapacity_0f7a4_58 rfl (by first | rfl | decide) (⟨rfl, rfl⟩) (Nat.le_of_ble_eq_true rfl) (Nat.le_of_ble_eq_true rfl) hP hD hS
theorem jd_J7_copyOf_9075b_0 : decode cJ7_copyOf_9075b 0 = .ok (.iload_n 1, 1) := by decide +kernel
theorem jd_J7_copyOf_9075b_1 : decode cJ7_copyOf_9075b 1 = .ok (.aload_n 0, 1) := by decide +kernel
theorem jd_J7_copyOf_9075b_2 : decode cJ7_copyOf_9075b 2 = .ok (.arraylength, 1) := by decide +kernel
theorem jd_J7_copyOf_9075b_3 : decode cJ7_copyOf_9075b 3 = .ok (.if_icmp .ne 11, 3) := by decide +kernel
theorem jd_J7_copyOf_9075b_14 : decode cJ7_copyOf_9075b 14 = .ok (.iload_n 1, 1) := by decide +kernel
theorem jd_J7_copyOf_9075b_15 : decode cJ7_copyOf_9075b 15 = .ok (.newarray .byte, 2) := by decide +kernel
theorem io_b : Cond.arrayClass .byte ∈ kg := kg_in 546 (by decide +kernel) (by decide +kernel)
theorem jd_J7_copyOf_9075b_17 : decode cJ7_copyOf_9075b 17 = .ok (.astore_n 2, 1) := by decide +kernel
theorem jd_J7_copyOf_9075b_18 : decode cJ7_copyOf_9075b 18 = .ok (.aload_n 0, 1) := by decide +kernel
theorem jd_J7_copyOf_9075b_19 : decode cJ7_copyOf_9075b 19 = .ok (.iconst 0, 1) := by decide +kernel
theorem jd_J7_copyOf_9075b_20 : decode cJ7_copyOf_9075b 20 = .ok (.aload_n 2, 1) := by decide +kernel
theorem jd_J7_copyOf_9075b_21 : decode cJ7_copyOf_9075b 21 = .ok (.iconst 0, 1) := by decide +kernel
theorem jd_J7_copyOf_9075b_22 : decode cJ7_copyOf_9075b 22 = .ok (.aload_n 0, 1) := by decide +kernel
theorem jd_J7_copyOf_9075b_23 : decode cJ7_copyOf_9075b 23 = .ok (.arraylength, 1) := by decide +kernel
theorem jd_J7_copyOf_9075b_24 : decode cJ7_copyOf_9075b 24 = .ok (.iload_n 1, 1) := by decide +kernel
theorem jd_J7_copyOf_9075b_25 : decode cJ7_copyOf_9075b 25 = .ok (.invokestatic 304, 3) := by decide +kernel
theorem jl_J7_304 : Cond.methodLink RJ7 304 Lib.Math.min.name ∈ kg := kg_in 1223 (by decide +kernel) (by decide +kernel)
theorem jd_J7_copyOf_9075b_28 : decode cJ7_copyOf_9075b 28 = .ok (.invokestatic 150, 3) := by decide +kernel
theorem jl_J7_150 : Cond.methodLink RJ7 150 arraycopyName ∈ kg := kg_in 1224 (by decide +kernel) (by decide +kernel)
theorem jd_J7_copyOf_9075b_31 : decode cJ7_copyOf_9075b 31 = .ok (.aload_n 2, 1) := by decide +kernel
theorem jd_J7_copyOf_9075b_32 : decode cJ7_copyOf_9075b 32 = .ok (.areturn, 1) := by decide +kernel
abbrev mzJ7_copyOf_9075b : KM := (RJ7, cJ7_copyOf_9075b, 3, (some (.array .byte)), { frames := 1, cells := 1, slots := 34, locals := 64 }, 1, 34)
set_option maxHeartbeats 1000000 in
set_option maxRecDepth 100000 in
theorem jt_copyOf (l : Launch) (E0 : KE) (b : Nat) (f : Nat → Int32) (hf : sb_Fit f) : JC l E0 yJ7_copyOf_9075b mzJ7_copyOf_9075b [.ref b, .int 34] [(b, .inl (E0.2.2 4, 16, .inl f))] (fun v w => ∃ b2 : Nat, v = some (.ref b2) ∧ w = [(b, .inl (E0.2.2 4, 16, .inl f)), (b2, .inl (E0.2.2 4, 34, .inl (va_cpy f (fun _ => 0) 0 0 16)))]) := by
  refine jc_of [(0, .ref b), (1, .int 34)] (by decide +kernel) rfl rfl (Nat.le_of_ble_eq_true rfl) ?_
  intro A pr e s mt args below meth c Q B H locs ls hP hD hS hl
  have C := B.1
  have hnm := B.2.1
  obtain ⟨hx, hb, hml, hown, hts, hA, hK, hF⟩ := id C
  refine lv_iload_n hx hb jd_J7_copyOf_9075b_0 rfl (lv_at hl 1 rfl) ?_
  refine lv_aload_n hx hb jd_J7_copyOf_9075b_1 rfl (lv_at hl 0 rfl) ?_
  refine va_alen (D := E0.1) (v := 16) hx hb hK hP 0 0 rfl rfl rfl jd_J7_copyOf_9075b_2 ?_
  refine lv_icmp_ne hx hb jd_J7_copyOf_9075b_3 (tgt := 14) (by decide) (fun _ => ?_) (fun h9 => absurd h9 (by decide))
  refine lv_iload_n hx hb jd_J7_copyOf_9075b_14 rfl (lv_at hl 1 rfl) ?_
  refine j_newB (N := 34) C jd_J7_copyOf_9075b_15 io_b (by decide) (by decide) (by omega) ⟨Nat.le_of_ble_eq_true rfl, Nat.le_of_ble_eq_true rfl⟩ hP hD hS (fun q15 H hP hD hS => ?_)
  have hP : va_P E0.1 vwCl ([(b, .inl (E0.2.2 4, 16, .inl f)), (q15, .inl (E0.2.2 4, 34, .inl (fun _ => 0)))] : va_W) H := hP
  have hD : va_D A ([(b, .inl (E0.2.2 4, 16, .inl f)), (q15, .inl (E0.2.2 4, 34, .inl (fun _ => 0)))] : va_W) := hD
  refine lv_astore_n (lv' := [(2, .ref q15), (0, .ref b), (1, .int 34)]) hx hb jd_J7_copyOf_9075b_17 rfl hl (by decide) rfl (fun ls hl => ?_)
  refine lv_aload_n hx hb jd_J7_copyOf_9075b_18 rfl (lv_at hl 1 rfl) ?_
  refine lv_iconst (v := 0) hx hb jd_J7_copyOf_9075b_19 (by decide) ?_
  refine lv_aload_n hx hb jd_J7_copyOf_9075b_20 rfl (lv_at hl 0 rfl) ?_
  refine lv_iconst (v := 0) hx hb jd_J7_copyOf_9075b_21 (by decide) ?_
  refine lv_aload_n hx hb jd_J7_copyOf_9075b_22 rfl (lv_at hl 1 rfl) ?_
  refine va_alen (D := E0.1) (v := 16) hx hb hK hP 0 0 rfl rfl rfl jd_J7_copyOf_9075b_23 ?_
  refine lv_iload_n hx hb jd_J7_copyOf_9075b_24 rfl (lv_at hl 2 rfl) ?_
  refine va_mmin hx hb (by rw [hml]; exact hl.1.symm) hown (hts _ jl_J7_304) (hts _ kw_min.1) (hts _ kw_min.2.1) (hts _ kw_min.2.2) (Nat.le_of_ble_eq_true rfl) (Nat.le_of_ble_eq_true rfl) (Nat.le_of_ble_eq_true rfl) (Nat.le_of_ble_eq_true rfl) jd_J7_copyOf_9075b_25 ?_
  refine j_i (x' := 16) (by decide) ?_
  refine va_copyi hx hb (by rw [hml]; exact hl.1.symm) hown (hts _ jl_J7_150) (hts _ kw_copy.1) (hts _ kw_copy.2.1) (hts _ kw_copy.2.2) hK hP hD hS 0 1 0 0 rfl rfl rfl rfl rfl (by decide) (by decide) (by decide) (by decide) (by decide) (fun i _ => hf _) (Nat.le_of_ble_eq_true rfl) (Nat.le_of_ble_eq_true rfl) jd_J7_copyOf_9075b_28 (fun H locs hP hD hS => ?_)
  have hP : va_P E0.1 vwCl ([(b, .inl (E0.2.2 4, 16, .inl f)), (q15, .inl (E0.2.2 4, 34, .inl (va_cpy f (fun _ => 0) (Int32.toNatClampNeg (0)) (Int32.toNatClampNeg (0)) (Int32.toNatClampNeg (16)))))] : va_W) H := hP
  have hD : va_D A ([(b, .inl (E0.2.2 4, 16, .inl f)), (q15, .inl (E0.2.2 4, 34, .inl (va_cpy f (fun _ => 0) (Int32.toNatClampNeg (0)) (Int32.toNatClampNeg (0)) (Int32.toNatClampNeg (16)))))] : va_W) := hD
  have e9 : va_cpy f (fun _ => 0) (Int32.toNatClampNeg (0)) (Int32.toNatClampNeg (0)) (Int32.toNatClampNeg (16)) = (va_cpy f (fun _ => 0) 0 0 16) := by rw [sb_cl0, show (16 : Int32).toNatClampNeg = 16 by decide]
  rw [e9] at hP hD
  refine lv_aload_n hx hb jd_J7_copyOf_9075b_31 rfl (lv_at hl 0 rfl) ?_
  exact j_aret B jd_J7_copyOf_9075b_32 rfl (.inr ⟨_, rfl⟩) (⟨_, rfl, rfl⟩) (Nat.le_of_ble_eq_true rfl) (Nat.le_of_ble_eq_true rfl) hP hD hS
theorem jd_J5_ensureCapacityInternal_d00df_0 : decode cJ5_ensureCapacityInternal_d00df 0 = .ok (.aload_n 0, 1) := by decide +kernel
theorem jd_J5_ensureCapacityInternal_d00df_1 : decode cJ5_ensureCapacityInternal_d00df 1 = .ok (.getfield 15, 3) := by decide +kernel
theorem jd_J5_ensureCapacityInternal_d00df_4 : decode cJ5_ensureCapacityInternal_d00df 4 = .ok (.arraylength, 1) := by decide +kernel
theorem jd_J5_ensureCapacityInternal_d00df_5 : decode cJ5_ensureCapacityInternal_d00df 5 = .ok (.aload_n 0, 1) := by decide +kernel
theorem jd_J5_ensureCapacityInternal_d00df_6 : decode cJ5_ensureCapacityInternal_d00df 6 = .ok (.getfield 22, 3) := by decide +kernel
theorem jd_J5_ensureCapacityInternal_d00df_9 : decode cJ5_ensureCapacityInternal_d00df 9 = .ok (.ishr, 1) := by decide +kernel
theorem jd_J5_ensureCapacityInternal_d00df_10 : decode cJ5_ensureCapacityInternal_d00df 10 = .ok (.istore_n 2, 1) := by decide +kernel
theorem jd_J5_ensureCapacityInternal_d00df_11 : decode cJ5_ensureCapacityInternal_d00df 11 = .ok (.iload_n 1, 1) := by decide +kernel
theorem jd_J5_ensureCapacityInternal_d00df_12 : decode cJ5_ensureCapacityInternal_d00df 12 = .ok (.iload_n 2, 1) := by decide +kernel
theorem jd_J5_ensureCapacityInternal_d00df_13 : decode cJ5_ensureCapacityInternal_d00df 13 = .ok (.isub, 1) := by decide +kernel
theorem jd_J5_ensureCapacityInternal_d00df_14 : decode cJ5_ensureCapacityInternal_d00df 14 = .ok (.ifCond .le 24, 3) := by decide +kernel
theorem jd_J5_ensureCapacityInternal_d00df_17 : decode cJ5_ensureCapacityInternal_d00df 17 = .ok (.aload_n 0, 1) := by decide +kernel
theorem jd_J5_ensureCapacityInternal_d00df_18 : decode cJ5_ensureCapacityInternal_d00df 18 = .ok (.aload_n 0, 1) := by decide +kernel
theorem jd_J5_ensureCapacityInternal_d00df_19 : decode cJ5_ensureCapacityInternal_d00df 19 = .ok (.getfield 15, 3) := by decide +kernel
theorem jd_J5_ensureCapacityInternal_d00df_22 : decode cJ5_ensureCapacityInternal_d00df 22 = .ok (.aload_n 0, 1) := by decide +kernel
theorem jd_J5_ensureCapacityInternal_d00df_23 : decode cJ5_ensureCapacityInternal_d00df 23 = .ok (.iload_n 1, 1) := by decide +kernel
theorem jd_J5_ensureCapacityInternal_d00df_24 : decode cJ5_ensureCapacityInternal_d00df 24 = .ok (.invokevirtual 104, 3) := by decide +kernel
theorem yk_J5_newCapacity_0f7a4 : KMW yJ5_newCapacity_0f7a4 mzJ5_newCapacity_0f7a4 1 := ⟨⟨by decide +kernel, by decide +kernel, by decide +kernel⟩, ⟨rfl, rfl⟩, kg_in 61 (by decide +kernel) (by decide +kernel), kg_in 1203 (by decide +kernel) (by decide +kernel)⟩
theorem jl_J5_104 : Cond.methodLink RJ5 104 yJ5_newCapacity_0f7a4 ∈ kg := kg_in 1200 (by decide +kernel) (by decide +kernel)
theorem ji_J5_newCapacity_0f7a4 : Cond.instanceMethod yJ5_newCapacity_0f7a4 ∈ kg := kg_in 1202 (by decide +kernel) (by decide +kernel)
theorem jd_J5_ensureCapacityInternal_d00df_27 : decode cJ5_ensureCapacityInternal_d00df 27 = .ok (.aload_n 0, 1) := by decide +kernel
theorem jd_J5_ensureCapacityInternal_d00df_28 : decode cJ5_ensureCapacityInternal_d00df 28 = .ok (.getfield 22, 3) := by decide +kernel
theorem jd_J5_ensureCapacityInternal_d00df_31 : decode cJ5_ensureCapacityInternal_d00df 31 = .ok (.ishl, 1) := by decide +kernel
theorem jd_J5_ensureCapacityInternal_d00df_32 : decode cJ5_ensureCapacityInternal_d00df 32 = .ok (.invokestatic 108, 3) := by decide +kernel
theorem yk_J7_copyOf_9075b : KMW yJ7_copyOf_9075b mzJ7_copyOf_9075b 2 := ⟨⟨by decide +kernel, by decide +kernel, by decide +kernel⟩, ⟨rfl, rfl⟩, kg_in 51 (by decide +kernel) (by decide +kernel), kg_in 1215 (by decide +kernel) (by decide +kernel)⟩
theorem jl_J5_108 : Cond.methodLink RJ5 108 yJ7_copyOf_9075b ∈ kg := kg_in 1213 (by decide +kernel) (by decide +kernel)
theorem js_J7_copyOf_9075b : Cond.static yJ7_copyOf_9075b ∈ kg := kg_in 1214 (by decide +kernel) (by decide +kernel)
theorem jd_J5_ensureCapacityInternal_d00df_35 : decode cJ5_ensureCapacityInternal_d00df 35 = .ok (.putfield 15, 3) := by decide +kernel
theorem jd_J5_ensureCapacityInternal_d00df_38 : decode cJ5_ensureCapacityInternal_d00df 38 = .ok (.return_, 1) := by decide +kernel
abbrev mzJ5_ensureCapacityInternal_d00df : KM := (RJ5, cJ5_ensureCapacityInternal_d00df, 3, none, { frames := 3, cells := 1, slots := 34, locals := 86 }, 1, 34)
set_option maxHeartbeats 1000000 in
set_option maxRecDepth 100000 in
theorem jt_ensB (l : Launch) (E0 : KE) (a b : Nat) (n : Int32) (f : Nat → Int32) (q : Nat) (hf : sb_Fit f) (h1 : 16 < q) (h2 : q ≤ 34) : JC l E0 yJ5_ensureCapacityInternal_d00df mzJ5_ensureCapacityInternal_d00df [.ref a, .int (nI q)] [(a, .inr (8, [.ref b, .int 0, .int 0, .int n])), (b, .inl (E0.2.2 4, 16, .inl f))] (fun v w => ∃ (b2 m2 : Nat) (f2 : Nat → Int32), v = none ∧ w = [(a, .inr (8, [.ref b2, .int 0, .int 0, .int n])), (b2, .inl (E0.2.2 4, m2, .inl f2))] ∧ (m2 = 16 ∨ m2 = 34) ∧ q ≤ m2 ∧ sb_Fit f2 ∧ ∀ i, i < 16 → f2 i = f i) := by
  refine jc_of [(0, .ref a), (1, .int (nI q))] (by decide +kernel) rfl rfl (Nat.le_of_ble_eq_true rfl) ?_
  intro A pr e s mt args below meth c Q B H locs ls hP hD hS hl
  have C := B.1
  have hnm := B.2.1
  obtain ⟨hx, hb, hml, hown, hts, hA, hK, hF⟩ := id C
  refine lv_aload_n hx hb jd_J5_ensureCapacityInternal_d00df_0 rfl (lv_at hl 0 rfl) ?_
  refine va_get (D := E0.1) (ci := 8) (v := .ref b) (C := RJ4) (T := TJ4) (N := 4) hx hb hts (kcl_ws 8 _ rfl) hown hK hP 0 rfl rfl 0 (by decide) (hts _ jf_J5_15) (fun _ h9 => h9) rfl jd_J5_ensureCapacityInternal_d00df_1 ?_
  refine va_alen (D := E0.1) (v := 16) hx hb hK hP 1 0 rfl rfl rfl jd_J5_ensureCapacityInternal_d00df_4 ?_
  refine lv_aload_n hx hb jd_J5_ensureCapacityInternal_d00df_5 rfl (lv_at hl 0 rfl) ?_
  refine va_get (D := E0.1) (ci := 8) (v := .int 0) (C := RJ4) (T := TJ4) (N := 4) hx hb hts (kcl_ws 8 _ rfl) hown hK hP 0 rfl rfl 1 (by decide) (hts _ jf_J5_22) (fun _ h9 => h9) rfl jd_J5_ensureCapacityInternal_d00df_6 ?_
  refine lv_ishr hx hb jd_J5_ensureCapacityInternal_d00df_9 ?_
  refine j_i (x' := 16) (by decide) ?_
  refine lv_istore_n (lv' := [(2, .int 16), (0, .ref a), (1, .int (nI q))]) hx hb jd_J5_ensureCapacityInternal_d00df_10 rfl hl (by decide) rfl (fun ls hl => ?_)
  refine lv_iload_n hx hb jd_J5_ensureCapacityInternal_d00df_11 rfl (lv_at hl 2 rfl) ?_
  refine lv_iload_n hx hb jd_J5_ensureCapacityInternal_d00df_12 rfl (lv_at hl 0 rfl) ?_
  refine lv_isub hx hb jd_J5_ensureCapacityInternal_d00df_13 ?_
  refine j_i (x' := (nI (q - 16))) (pk_sub (b := 16) (by omega)) ?_
  refine lv_if_le hx hb jd_J5_ensureCapacityInternal_d00df_14 (tgt := 38) (by decide) (fun h9 => absurd h9 (jnle (by omega) (by omega))) (fun _ => ?_)
  refine lv_aload_n hx hb jd_J5_ensureCapacityInternal_d00df_17 rfl (lv_at hl 1 rfl) ?_
  refine lv_aload_n hx hb jd_J5_ensureCapacityInternal_d00df_18 rfl (lv_at hl 1 rfl) ?_
  refine va_get (D := E0.1) (ci := 8) (v := .ref b) (C := RJ4) (T := TJ4) (N := 4) hx hb hts (kcl_ws 8 _ rfl) hown hK hP 0 rfl rfl 0 (by decide) (hts _ jf_J5_15) (fun _ h9 => h9) rfl jd_J5_ensureCapacityInternal_d00df_19 ?_
  refine lv_aload_n hx hb jd_J5_ensureCapacityInternal_d00df_22 rfl (lv_at hl 1 rfl) ?_
  refine lv_iload_n hx hb jd_J5_ensureCapacityInternal_d00df_23 rfl (lv_at hl 2 rfl) ?_
  refine j_V (As := [.int (nI q)]) (st := [.ref b, .ref a]) (C0 := RJ4) (ws := ([(a, .inr (8, [.ref b, .int 0, .int 0, .int n])), (b, .inl (E0.2.2 4, 16, .inl f))] : va_W)) (wc := [(a, .inr (8, [.ref b, .int 0, .int 0, .int n])), (b, .inl (E0.2.2 4, 16, .inl f))]) (wr := ([] : va_W)) [0, 1] [] C rfl rfl rfl rfl (by decide) (jt_newCap l E0 a b n f q h1 h2) jd_J5_ensureCapacityInternal_d00df_24 rfl (va_recv (ci := 8) (q := (RJ4, TJ4, 4)) (q0 := 0) hK hP rfl rfl) yk_J5_newCapacity_0f7a4 jl_J5_104 ji_J5_newCapacity_0f7a4 (j_selM (List.mem_of_getElem? (i := 1) rfl) hF) ⟨Nat.le_of_ble_eq_true rfl, Nat.le_of_ble_eq_true rfl⟩ (show _ ≤ 8 from Nat.le_of_ble_eq_true rfl) (show _ ∧ _ from ⟨Nat.le_of_ble_eq_true rfl, Nat.le_of_ble_eq_true rfl⟩) hl.1 hP hD hS (fun v w H locs hq hP hD hS => ?_)
  obtain ⟨rfl, rfl⟩ := hq
  have hP : va_P E0.1 vwCl ([(a, .inr (8, [.ref b, .int 0, .int 0, .int n])), (b, .inl (E0.2.2 4, 16, .inl f))] : va_W) H := hP
  have hD : va_D A ([(a, .inr (8, [.ref b, .int 0, .int 0, .int n])), (b, .inl (E0.2.2 4, 16, .inl f))] : va_W) := hD
  refine W.eq (g2 := F0 mt 27 ls [.int 34, .ref b, .ref a]) rfl ?_
  refine lv_aload_n hx hb jd_J5_ensureCapacityInternal_d00df_27 rfl (lv_at hl 1 rfl) ?_
  refine va_get (D := E0.1) (ci := 8) (v := .int 0) (C := RJ4) (T := TJ4) (N := 4) hx hb hts (kcl_ws 8 _ rfl) hown hK hP 0 rfl rfl 1 (by decide) (hts _ jf_J5_22) (fun _ h9 => h9) rfl jd_J5_ensureCapacityInternal_d00df_28 ?_
  refine lv_ishl hx hb jd_J5_ensureCapacityInternal_d00df_31 ?_
  refine j_i (x' := 34) (by decide) ?_
  refine j_S (As := [.ref b, .int 34]) (st := [.ref a]) (ws := ([(a, .inr (8, [.ref b, .int 0, .int 0, .int n])), (b, .inl (E0.2.2 4, 16, .inl f))] : va_W)) (wc := [(b, .inl (E0.2.2 4, 16, .inl f))]) (wr := ([(a, .inr (8, [.ref b, .int 0, .int 0, .int n]))] : va_W)) [1] [0] C rfl rfl rfl rfl (by decide) (jt_copyOf l E0 b f hf) jd_J5_ensureCapacityInternal_d00df_32 rfl yk_J7_copyOf_9075b jl_J5_108 js_J7_copyOf_9075b ⟨Nat.le_of_ble_eq_true rfl, Nat.le_of_ble_eq_true rfl⟩ (show _ ≤ 8 from Nat.le_of_ble_eq_true rfl) (show _ ∧ _ from ⟨Nat.le_of_ble_eq_true rfl, Nat.le_of_ble_eq_true rfl⟩) hl.1 hP hD hS (fun v w H locs hq hP hD hS => ?_)
  obtain ⟨b2, rfl, rfl⟩ := hq
  have hP : va_P E0.1 vwCl ([(a, .inr (8, [.ref b, .int 0, .int 0, .int n])), (b, .inl (E0.2.2 4, 16, .inl f)), (b2, .inl (E0.2.2 4, 34, .inl (va_cpy f (fun _ => 0) 0 0 16)))] : va_W) H := hP
  have hD : va_D A ([(a, .inr (8, [.ref b, .int 0, .int 0, .int n])), (b, .inl (E0.2.2 4, 16, .inl f)), (b2, .inl (E0.2.2 4, 34, .inl (va_cpy f (fun _ => 0) 0 0 16)))] : va_W) := hD
  refine W.eq (g2 := F0 mt 35 ls [.ref b2, .ref a]) rfl ?_
  refine va_put (D := E0.1) (ci := 8) (v := .ref b2) (ty := (.array .byte)) (C := RJ4) (T := TJ4) (N := 4) hx hb hts (kcl_ws 8 _ rfl) tyJ4 tyJ4_ok nmJ4 hown hK hP hD hS 0 rfl rfl 0 (by decide) (hts _ jf_J5_15) (fun _ h9 => h9) rfl rfl rfl rfl (show _ < List.length _ from Nat.le_of_ble_eq_true rfl) jd_J5_ensureCapacityInternal_d00df_35 (fun H locs hP hD hS => ?_)
  have hP : va_P E0.1 vwCl ([(a, .inr (8, [.ref b2, .int 0, .int 0, .int n])), (b, .inl (E0.2.2 4, 16, .inl f)), (b2, .inl (E0.2.2 4, 34, .inl (va_cpy f (fun _ => 0) 0 0 16)))] : va_W) H := hP
  have hD : va_D A ([(a, .inr (8, [.ref b2, .int 0, .int 0, .int n])), (b, .inl (E0.2.2 4, 16, .inl f)), (b2, .inl (E0.2.2 4, 34, .inl (va_cpy f (fun _ => 0) 0 0 16)))] : va_W) := hD
  have h8 := j_sub (w' := [(a, .inr (8, [.ref b2, .int 0, .int 0, .int n])), (b2, .inl (E0.2.2 4, 34, .inl (va_cpy f (fun _ => 0) 0 0 16)))]) [0, 2] rfl rfl hP hD
  have hP := h8.1
  have hD := h8.2
  exact j_vret B jd_J5_ensureCapacityInternal_d00df_38 rfl (⟨b2, 34, _, rfl, rfl, .inr rfl, h2, sb_fitC hf sb_fit0, fun i hi => by rw [pk_cpy_in (by omega) (by omega), Nat.sub_zero, Nat.zero_add]⟩) (Nat.le_of_ble_eq_true rfl) (Nat.le_of_ble_eq_true rfl) hP hD hS
set_option maxHeartbeats 1000000 in
set_option maxRecDepth 100000 in
theorem jt_ensA (l : Launch) (E0 : KE) (a b : Nat) (n : Int32) (m : Nat) (f : Nat → Int32) (q : Nat) (hf : sb_Fit f) (hm : m = 16 ∨ m = 34) (h1 : q ≤ m) : JC l E0 yJ5_ensureCapacityInternal_d00df mzJ5_ensureCapacityInternal_d00df [.ref a, .int (nI q)] [(a, .inr (8, [.ref b, .int 0, .int 0, .int n])), (b, .inl (E0.2.2 4, m, .inl f))] (fun v w => ∃ (b2 m2 : Nat) (f2 : Nat → Int32), v = none ∧ w = [(a, .inr (8, [.ref b2, .int 0, .int 0, .int n])), (b2, .inl (E0.2.2 4, m2, .inl f2))] ∧ (m2 = 16 ∨ m2 = 34) ∧ q ≤ m2 ∧ sb_Fit f2 ∧ ∀ i, i < m → f2 i = f i) := by
  refine jc_of [(0, .ref a), (1, .int (nI q))] (by decide +kernel) rfl rfl (Nat.le_of_ble_eq_true rfl) ?_
  intro A pr e s mt args below meth c Q B H locs ls hP hD hS hl
  have C := B.1
  have hnm := B.2.1
  obtain ⟨hx, hb, hml, hown, hts, hA, hK, hF⟩ := id C
  refine lv_aload_n hx hb jd_J5_ensureCapacityInternal_d00df_0 rfl (lv_at hl 0 rfl) ?_
  refine va_get (D := E0.1) (ci := 8) (v := .ref b) (C := RJ4) (T := TJ4) (N := 4) hx hb hts (kcl_ws 8 _ rfl) hown hK hP 0 rfl rfl 0 (by decide) (hts _ jf_J5_15) (fun _ h9 => h9) rfl jd_J5_ensureCapacityInternal_d00df_1 ?_
  refine va_alen (D := E0.1) (v := (nI m)) hx hb hK hP 1 0 rfl rfl rfl jd_J5_ensureCapacityInternal_d00df_4 ?_
  refine lv_aload_n hx hb jd_J5_ensureCapacityInternal_d00df_5 rfl (lv_at hl 0 rfl) ?_
  refine va_get (D := E0.1) (ci := 8) (v := .int 0) (C := RJ4) (T := TJ4) (N := 4) hx hb hts (kcl_ws 8 _ rfl) hown hK hP 0 rfl rfl 1 (by decide) (hts _ jf_J5_22) (fun _ h9 => h9) rfl jd_J5_ensureCapacityInternal_d00df_6 ?_
  refine lv_ishr hx hb jd_J5_ensureCapacityInternal_d00df_9 ?_
  refine j_i (x' := (nI m)) (sb_shr0 _) ?_
  refine lv_istore_n (lv' := [(2, .int (nI m)), (0, .ref a), (1, .int (nI q))]) hx hb jd_J5_ensureCapacityInternal_d00df_10 rfl hl (by decide) rfl (fun ls hl => ?_)
  refine lv_iload_n hx hb jd_J5_ensureCapacityInternal_d00df_11 rfl (lv_at hl 2 rfl) ?_
  refine lv_iload_n hx hb jd_J5_ensureCapacityInternal_d00df_12 rfl (lv_at hl 0 rfl) ?_
  refine lv_isub hx hb jd_J5_ensureCapacityInternal_d00df_13 ?_
  refine lv_if_le hx hb jd_J5_ensureCapacityInternal_d00df_14 (tgt := 38) (by decide) (fun _ => ?_) (fun h9 => absurd (jle (by omega) h1) h9)
  exact j_vret B jd_J5_ensureCapacityInternal_d00df_38 rfl (⟨b, m, f, rfl, rfl, hm, h1, hf, fun _ _ => rfl⟩) (Nat.le_of_ble_eq_true rfl) (Nat.le_of_ble_eq_true rfl) hP hD hS
theorem jt_ens (l : Launch) (E0 : KE) (a b : Nat) (n : Int32) (m : Nat) (f : Nat → Int32) (q : Nat) (hf : sb_Fit f) (hm : m = 16 ∨ m = 34) (h2 : q ≤ 34) : JC l E0 yJ5_ensureCapacityInternal_d00df mzJ5_ensureCapacityInternal_d00df [.ref a, .int (nI q)] [(a, .inr (8, [.ref b, .int 0, .int 0, .int n])), (b, .inl (E0.2.2 4, m, .inl f))] (fun v w => ∃ (b2 m2 : Nat) (f2 : Nat → Int32), v = none ∧ w = [(a, .inr (8, [.ref b2, .int 0, .int 0, .int n])), (b2, .inl (E0.2.2 4, m2, .inl f2))] ∧ (m2 = 16 ∨ m2 = 34) ∧ q ≤ m2 ∧ sb_Fit f2 ∧ ∀ i, i < m → f2 i = f i) := by
  by_cases h : q ≤ m
  · exact jt_ensA l E0 a b n m f q hf hm h
  · rcases hm with rfl | rfl
    · exact jt_ensB l E0 a b n f q hf (by omega) h2
    · exact absurd h2 h
theorem jd_J6_stringSize_0f7a4_0 : decode cJ6_stringSize_0f7a4 0 = .ok (.iconst 1, 1) := by decide +kernel
theorem jd_J6_stringSize_0f7a4_1 : decode cJ6_stringSize_0f7a4 1 = .ok (.istore_n 1, 1) := by decide +kernel
theorem jd_J6_stringSize_0f7a4_2 : decode cJ6_stringSize_0f7a4 2 = .ok (.iload_n 0, 1) := by decide +kernel
theorem jd_J6_stringSize_0f7a4_3 : decode cJ6_stringSize_0f7a4 3 = .ok (.ifCond .lt 8, 3) := by decide +kernel
theorem jd_J6_stringSize_0f7a4_6 : decode cJ6_stringSize_0f7a4 6 = .ok (.iconst 0, 1) := by decide +kernel
theorem jd_J6_stringSize_0f7a4_7 : decode cJ6_stringSize_0f7a4 7 = .ok (.istore_n 1, 1) := by decide +kernel
theorem jd_J6_stringSize_0f7a4_8 : decode cJ6_stringSize_0f7a4 8 = .ok (.iload_n 0, 1) := by decide +kernel
theorem jd_J6_stringSize_0f7a4_9 : decode cJ6_stringSize_0f7a4 9 = .ok (.ineg, 1) := by decide +kernel
theorem jd_J6_stringSize_0f7a4_10 : decode cJ6_stringSize_0f7a4 10 = .ok (.istore_n 0, 1) := by decide +kernel
theorem jd_J6_stringSize_0f7a4_11 : decode cJ6_stringSize_0f7a4 11 = .ok (.bipush (-10), 2) := by decide +kernel
theorem jd_J6_stringSize_0f7a4_13 : decode cJ6_stringSize_0f7a4 13 = .ok (.istore_n 2, 1) := by decide +kernel
theorem jd_J6_stringSize_0f7a4_14 : decode cJ6_stringSize_0f7a4 14 = .ok (.iconst 1, 1) := by decide +kernel
theorem jd_J6_stringSize_0f7a4_15 : decode cJ6_stringSize_0f7a4 15 = .ok (.istore_n 3, 1) := by decide +kernel
theorem jd_J6_stringSize_0f7a4_16 : decode cJ6_stringSize_0f7a4 16 = .ok (.iload_n 3, 1) := by decide +kernel
theorem jd_J6_stringSize_0f7a4_17 : decode cJ6_stringSize_0f7a4 17 = .ok (.bipush 10, 2) := by decide +kernel
theorem jd_J6_stringSize_0f7a4_19 : decode cJ6_stringSize_0f7a4 19 = .ok (.if_icmp .ge 23, 3) := by decide +kernel
theorem jd_J6_stringSize_0f7a4_22 : decode cJ6_stringSize_0f7a4 22 = .ok (.iload_n 0, 1) := by decide +kernel
theorem jd_J6_stringSize_0f7a4_23 : decode cJ6_stringSize_0f7a4 23 = .ok (.iload_n 2, 1) := by decide +kernel
theorem jd_J6_stringSize_0f7a4_24 : decode cJ6_stringSize_0f7a4 24 = .ok (.if_icmp .le 7, 3) := by decide +kernel
theorem jd_J6_stringSize_0f7a4_27 : decode cJ6_stringSize_0f7a4 27 = .ok (.iload_n 3, 1) := by decide +kernel
theorem jd_J6_stringSize_0f7a4_28 : decode cJ6_stringSize_0f7a4 28 = .ok (.iload_n 1, 1) := by decide +kernel
theorem jd_J6_stringSize_0f7a4_29 : decode cJ6_stringSize_0f7a4 29 = .ok (.iadd, 1) := by decide +kernel
theorem jd_J6_stringSize_0f7a4_30 : decode cJ6_stringSize_0f7a4 30 = .ok (.ireturn, 1) := by decide +kernel
abbrev mzJ6_stringSize_0f7a4 : KM := (RJ6, cJ6_stringSize_0f7a4, 4, (some .int), { frames := 0, cells := 0, slots := 0, locals := 12 }, 0, 0)
set_option maxHeartbeats 1000000 in
set_option maxRecDepth 100000 in
theorem jt_size1 (l : Launch) (E0 : KE) (x : Nat) (h1 : x < 10) : JC l E0 yJ6_stringSize_0f7a4 mzJ6_stringSize_0f7a4 [.int (nI x)] [] (fun v w => v = some (.int (nI (dgs x).length)) ∧ w = []) := by
  refine jc_of [(0, .int (nI x))] (by decide +kernel) rfl rfl (Nat.le_of_ble_eq_true rfl) ?_
  intro A pr e s mt args below meth c Q B H locs ls hP hD hS hl
  have C := B.1
  have hnm := B.2.1
  obtain ⟨hx, hb, hml, hown, hts, hA, hK, hF⟩ := id C
  refine lv_iconst (v := 1) hx hb jd_J6_stringSize_0f7a4_0 (by decide) ?_
  refine lv_istore_n (lv' := [(1, .int 1), (0, .int (nI x))]) hx hb jd_J6_stringSize_0f7a4_1 rfl hl (by decide) rfl (fun ls hl => ?_)
  refine lv_iload_n hx hb jd_J6_stringSize_0f7a4_2 rfl (lv_at hl 1 rfl) ?_
  refine lv_if_lt hx hb jd_J6_stringSize_0f7a4_3 (tgt := 11) (by decide) (fun h9 => absurd h9 (nI_pos (by omega))) (fun _ => ?_)
  refine lv_iconst (v := 0) hx hb jd_J6_stringSize_0f7a4_6 (by decide) ?_
  refine lv_istore_n (lv' := [(1, .int 0), (0, .int (nI x))]) hx hb jd_J6_stringSize_0f7a4_7 rfl hl (by decide) rfl (fun ls hl => ?_)
  refine lv_iload_n hx hb jd_J6_stringSize_0f7a4_8 rfl (lv_at hl 1 rfl) ?_
  refine lv_ineg hx hb jd_J6_stringSize_0f7a4_9 ?_
  refine lv_istore_n (lv' := [(0, .int (-((nI x)))), (1, .int 0)]) hx hb jd_J6_stringSize_0f7a4_10 rfl hl (by decide) rfl (fun ls hl => ?_)
  refine lv_bipush (v := (-10)) hx hb jd_J6_stringSize_0f7a4_11 (by decide) ?_
  refine lv_istore_n (lv' := [(2, .int (-10)), (0, .int (-((nI x)))), (1, .int 0)]) hx hb jd_J6_stringSize_0f7a4_13 rfl hl (by decide) rfl (fun ls hl => ?_)
  refine lv_iconst (v := 1) hx hb jd_J6_stringSize_0f7a4_14 (by decide) ?_
  refine lv_istore_n (lv' := [(3, .int 1), (2, .int (-10)), (0, .int (-((nI x)))), (1, .int 0)]) hx hb jd_J6_stringSize_0f7a4_15 rfl hl (by decide) rfl (fun ls hl => ?_)
  refine lv_iload_n hx hb jd_J6_stringSize_0f7a4_16 rfl (lv_at hl 0 rfl) ?_
  refine lv_bipush (v := 10) hx hb jd_J6_stringSize_0f7a4_17 (by decide) ?_
  refine lv_icmp_ge hx hb jd_J6_stringSize_0f7a4_19 (tgt := 42) (by decide) (fun h9 => absurd h9 (by decide)) (fun _ => ?_)
  refine lv_iload_n hx hb jd_J6_stringSize_0f7a4_22 rfl (lv_at hl 2 rfl) ?_
  refine lv_iload_n hx hb jd_J6_stringSize_0f7a4_23 rfl (lv_at hl 1 rfl) ?_
  refine lv_icmp_le hx hb jd_J6_stringSize_0f7a4_24 (tgt := 31) (by decide) (fun h9 => absurd h9 ((jd x (by omega)).1 h1)) (fun _ => ?_)
  refine lv_iload_n hx hb jd_J6_stringSize_0f7a4_27 rfl (lv_at hl 0 rfl) ?_
  refine lv_iload_n hx hb jd_J6_stringSize_0f7a4_28 rfl (lv_at hl 3 rfl) ?_
  refine lv_iadd hx hb jd_J6_stringSize_0f7a4_29 ?_
  refine j_i (x' := 1) (by decide) ?_
  exact j_iret B jd_J6_stringSize_0f7a4_30 rfl (by first | rfl | decide) (⟨by rw [dgs_1 h1]; rfl, rfl⟩) (Nat.le_of_ble_eq_true rfl) (Nat.le_of_ble_eq_true rfl) hP hD hS
theorem jd_J6_stringSize_0f7a4_31 : decode cJ6_stringSize_0f7a4 31 = .ok (.bipush 10, 2) := by decide +kernel
theorem jd_J6_stringSize_0f7a4_33 : decode cJ6_stringSize_0f7a4 33 = .ok (.iload_n 2, 1) := by decide +kernel
theorem jd_J6_stringSize_0f7a4_34 : decode cJ6_stringSize_0f7a4 34 = .ok (.imul, 1) := by decide +kernel
theorem jd_J6_stringSize_0f7a4_35 : decode cJ6_stringSize_0f7a4 35 = .ok (.istore_n 2, 1) := by decide +kernel
theorem jd_J6_stringSize_0f7a4_36 : decode cJ6_stringSize_0f7a4 36 = .ok (.iinc 3 1, 3) := by decide +kernel
theorem jd_J6_stringSize_0f7a4_39 : decode cJ6_stringSize_0f7a4 39 = .ok (.goto (-23), 3) := by decide +kernel
set_option maxHeartbeats 1000000 in
set_option maxRecDepth 100000 in
theorem jt_size2 (l : Launch) (E0 : KE) (x : Nat) (h0 : 10 ≤ x) (h1 : x < 100) : JC l E0 yJ6_stringSize_0f7a4 mzJ6_stringSize_0f7a4 [.int (nI x)] [] (fun v w => v = some (.int (nI (dgs x).length)) ∧ w = []) := by
  refine jc_of [(0, .int (nI x))] (by decide +kernel) rfl rfl (Nat.le_of_ble_eq_true rfl) ?_
  intro A pr e s mt args below meth c Q B H locs ls hP hD hS hl
  have C := B.1
  have hnm := B.2.1
  obtain ⟨hx, hb, hml, hown, hts, hA, hK, hF⟩ := id C
  refine lv_iconst (v := 1) hx hb jd_J6_stringSize_0f7a4_0 (by decide) ?_
  refine lv_istore_n (lv' := [(1, .int 1), (0, .int (nI x))]) hx hb jd_J6_stringSize_0f7a4_1 rfl hl (by decide) rfl (fun ls hl => ?_)
  refine lv_iload_n hx hb jd_J6_stringSize_0f7a4_2 rfl (lv_at hl 1 rfl) ?_
  refine lv_if_lt hx hb jd_J6_stringSize_0f7a4_3 (tgt := 11) (by decide) (fun h9 => absurd h9 (nI_pos (by omega))) (fun _ => ?_)
  refine lv_iconst (v := 0) hx hb jd_J6_stringSize_0f7a4_6 (by decide) ?_
  refine lv_istore_n (lv' := [(1, .int 0), (0, .int (nI x))]) hx hb jd_J6_stringSize_0f7a4_7 rfl hl (by decide) rfl (fun ls hl => ?_)
  refine lv_iload_n hx hb jd_J6_stringSize_0f7a4_8 rfl (lv_at hl 1 rfl) ?_
  refine lv_ineg hx hb jd_J6_stringSize_0f7a4_9 ?_
  refine lv_istore_n (lv' := [(0, .int (-((nI x)))), (1, .int 0)]) hx hb jd_J6_stringSize_0f7a4_10 rfl hl (by decide) rfl (fun ls hl => ?_)
  refine lv_bipush (v := (-10)) hx hb jd_J6_stringSize_0f7a4_11 (by decide) ?_
  refine lv_istore_n (lv' := [(2, .int (-10)), (0, .int (-((nI x)))), (1, .int 0)]) hx hb jd_J6_stringSize_0f7a4_13 rfl hl (by decide) rfl (fun ls hl => ?_)
  refine lv_iconst (v := 1) hx hb jd_J6_stringSize_0f7a4_14 (by decide) ?_
  refine lv_istore_n (lv' := [(3, .int 1), (2, .int (-10)), (0, .int (-((nI x)))), (1, .int 0)]) hx hb jd_J6_stringSize_0f7a4_15 rfl hl (by decide) rfl (fun ls hl => ?_)
  refine lv_iload_n hx hb jd_J6_stringSize_0f7a4_16 rfl (lv_at hl 0 rfl) ?_
  refine lv_bipush (v := 10) hx hb jd_J6_stringSize_0f7a4_17 (by decide) ?_
  refine lv_icmp_ge hx hb jd_J6_stringSize_0f7a4_19 (tgt := 42) (by decide) (fun h9 => absurd h9 (by decide)) (fun _ => ?_)
  refine lv_iload_n hx hb jd_J6_stringSize_0f7a4_22 rfl (lv_at hl 2 rfl) ?_
  refine lv_iload_n hx hb jd_J6_stringSize_0f7a4_23 rfl (lv_at hl 1 rfl) ?_
  refine lv_icmp_le hx hb jd_J6_stringSize_0f7a4_24 (tgt := 31) (by decide) (fun _ => ?_) (fun h9 => absurd ((jd x (by omega)).2.1 h0) h9)
  refine lv_bipush (v := 10) hx hb jd_J6_stringSize_0f7a4_31 (by decide) ?_
  refine lv_iload_n hx hb jd_J6_stringSize_0f7a4_33 rfl (lv_at hl 1 rfl) ?_
  refine lv_imul hx hb jd_J6_stringSize_0f7a4_34 ?_
  refine j_i (x' := (-100)) (by decide) ?_
  refine lv_istore_n (lv' := [(2, .int (-100)), (3, .int 1), (0, .int (-((nI x)))), (1, .int 0)]) hx hb jd_J6_stringSize_0f7a4_35 rfl hl (by decide) rfl (fun ls hl => ?_)
  refine lv_iinc (k := 1) (lv' := [(3, .int 2), (2, .int (-100)), (0, .int (-((nI x)))), (1, .int 0)]) hx hb jd_J6_stringSize_0f7a4_36 hl rfl (by decide) (by decide) rfl (fun ls hl => ?_)
  refine lv_goto hx hb jd_J6_stringSize_0f7a4_39 (tgt := 16) (by decide) ?_
  refine lv_iload_n hx hb jd_J6_stringSize_0f7a4_16 rfl (lv_at hl 0 rfl) ?_
  refine lv_bipush (v := 10) hx hb jd_J6_stringSize_0f7a4_17 (by decide) ?_
  refine lv_icmp_ge hx hb jd_J6_stringSize_0f7a4_19 (tgt := 42) (by decide) (fun h9 => absurd h9 (by decide)) (fun _ => ?_)
  refine lv_iload_n hx hb jd_J6_stringSize_0f7a4_22 rfl (lv_at hl 2 rfl) ?_
  refine lv_iload_n hx hb jd_J6_stringSize_0f7a4_23 rfl (lv_at hl 1 rfl) ?_
  refine lv_icmp_le hx hb jd_J6_stringSize_0f7a4_24 (tgt := 31) (by decide) (fun h9 => absurd h9 ((jd x (by omega)).2.2.1 h1)) (fun _ => ?_)
  refine lv_iload_n hx hb jd_J6_stringSize_0f7a4_27 rfl (lv_at hl 0 rfl) ?_
  refine lv_iload_n hx hb jd_J6_stringSize_0f7a4_28 rfl (lv_at hl 3 rfl) ?_
  refine lv_iadd hx hb jd_J6_stringSize_0f7a4_29 ?_
  refine j_i (x' := 2) (by decide) ?_
  exact j_iret B jd_J6_stringSize_0f7a4_30 rfl (by first | rfl | decide) (⟨by rw [dgs_2 h0 h1]; rfl, rfl⟩) (Nat.le_of_ble_eq_true rfl) (Nat.le_of_ble_eq_true rfl) hP hD hS
set_option maxHeartbeats 1000000 in
set_option maxRecDepth 100000 in
theorem jt_size3 (l : Launch) (E0 : KE) (x : Nat) (h0 : 100 ≤ x) (h1 : x < 200) : JC l E0 yJ6_stringSize_0f7a4 mzJ6_stringSize_0f7a4 [.int (nI x)] [] (fun v w => v = some (.int (nI (dgs x).length)) ∧ w = []) := by
  refine jc_of [(0, .int (nI x))] (by decide +kernel) rfl rfl (Nat.le_of_ble_eq_true rfl) ?_
  intro A pr e s mt args below meth c Q B H locs ls hP hD hS hl
  have C := B.1
  have hnm := B.2.1
  obtain ⟨hx, hb, hml, hown, hts, hA, hK, hF⟩ := id C
  refine lv_iconst (v := 1) hx hb jd_J6_stringSize_0f7a4_0 (by decide) ?_
  refine lv_istore_n (lv' := [(1, .int 1), (0, .int (nI x))]) hx hb jd_J6_stringSize_0f7a4_1 rfl hl (by decide) rfl (fun ls hl => ?_)
  refine lv_iload_n hx hb jd_J6_stringSize_0f7a4_2 rfl (lv_at hl 1 rfl) ?_
  refine lv_if_lt hx hb jd_J6_stringSize_0f7a4_3 (tgt := 11) (by decide) (fun h9 => absurd h9 (nI_pos (by omega))) (fun _ => ?_)
  refine lv_iconst (v := 0) hx hb jd_J6_stringSize_0f7a4_6 (by decide) ?_
  refine lv_istore_n (lv' := [(1, .int 0), (0, .int (nI x))]) hx hb jd_J6_stringSize_0f7a4_7 rfl hl (by decide) rfl (fun ls hl => ?_)
  refine lv_iload_n hx hb jd_J6_stringSize_0f7a4_8 rfl (lv_at hl 1 rfl) ?_
  refine lv_ineg hx hb jd_J6_stringSize_0f7a4_9 ?_
  refine lv_istore_n (lv' := [(0, .int (-((nI x)))), (1, .int 0)]) hx hb jd_J6_stringSize_0f7a4_10 rfl hl (by decide) rfl (fun ls hl => ?_)
  refine lv_bipush (v := (-10)) hx hb jd_J6_stringSize_0f7a4_11 (by decide) ?_
  refine lv_istore_n (lv' := [(2, .int (-10)), (0, .int (-((nI x)))), (1, .int 0)]) hx hb jd_J6_stringSize_0f7a4_13 rfl hl (by decide) rfl (fun ls hl => ?_)
  refine lv_iconst (v := 1) hx hb jd_J6_stringSize_0f7a4_14 (by decide) ?_
  refine lv_istore_n (lv' := [(3, .int 1), (2, .int (-10)), (0, .int (-((nI x)))), (1, .int 0)]) hx hb jd_J6_stringSize_0f7a4_15 rfl hl (by decide) rfl (fun ls hl => ?_)
  refine lv_iload_n hx hb jd_J6_stringSize_0f7a4_16 rfl (lv_at hl 0 rfl) ?_
  refine lv_bipush (v := 10) hx hb jd_J6_stringSize_0f7a4_17 (by decide) ?_
  refine lv_icmp_ge hx hb jd_J6_stringSize_0f7a4_19 (tgt := 42) (by decide) (fun h9 => absurd h9 (by decide)) (fun _ => ?_)
  refine lv_iload_n hx hb jd_J6_stringSize_0f7a4_22 rfl (lv_at hl 2 rfl) ?_
  refine lv_iload_n hx hb jd_J6_stringSize_0f7a4_23 rfl (lv_at hl 1 rfl) ?_
  refine lv_icmp_le hx hb jd_J6_stringSize_0f7a4_24 (tgt := 31) (by decide) (fun _ => ?_) (fun h9 => absurd ((jd x (by omega)).2.1 (by omega)) h9)
  refine lv_bipush (v := 10) hx hb jd_J6_stringSize_0f7a4_31 (by decide) ?_
  refine lv_iload_n hx hb jd_J6_stringSize_0f7a4_33 rfl (lv_at hl 1 rfl) ?_
  refine lv_imul hx hb jd_J6_stringSize_0f7a4_34 ?_
  refine j_i (x' := (-100)) (by decide) ?_
  refine lv_istore_n (lv' := [(2, .int (-100)), (3, .int 1), (0, .int (-((nI x)))), (1, .int 0)]) hx hb jd_J6_stringSize_0f7a4_35 rfl hl (by decide) rfl (fun ls hl => ?_)
  refine lv_iinc (k := 1) (lv' := [(3, .int 2), (2, .int (-100)), (0, .int (-((nI x)))), (1, .int 0)]) hx hb jd_J6_stringSize_0f7a4_36 hl rfl (by decide) (by decide) rfl (fun ls hl => ?_)
  refine lv_goto hx hb jd_J6_stringSize_0f7a4_39 (tgt := 16) (by decide) ?_
  refine lv_iload_n hx hb jd_J6_stringSize_0f7a4_16 rfl (lv_at hl 0 rfl) ?_
  refine lv_bipush (v := 10) hx hb jd_J6_stringSize_0f7a4_17 (by decide) ?_
  refine lv_icmp_ge hx hb jd_J6_stringSize_0f7a4_19 (tgt := 42) (by decide) (fun h9 => absurd h9 (by decide)) (fun _ => ?_)
  refine lv_iload_n hx hb jd_J6_stringSize_0f7a4_22 rfl (lv_at hl 2 rfl) ?_
  refine lv_iload_n hx hb jd_J6_stringSize_0f7a4_23 rfl (lv_at hl 1 rfl) ?_
  refine lv_icmp_le hx hb jd_J6_stringSize_0f7a4_24 (tgt := 31) (by decide) (fun _ => ?_) (fun h9 => absurd ((jd x (by omega)).2.2.2.1 h0) h9)
  refine lv_bipush (v := 10) hx hb jd_J6_stringSize_0f7a4_31 (by decide) ?_
  refine lv_iload_n hx hb jd_J6_stringSize_0f7a4_33 rfl (lv_at hl 1 rfl) ?_
  refine lv_imul hx hb jd_J6_stringSize_0f7a4_34 ?_
  refine j_i (x' := (-1000)) (by decide) ?_
  refine lv_istore_n (lv' := [(2, .int (-1000)), (3, .int 2), (0, .int (-((nI x)))), (1, .int 0)]) hx hb jd_J6_stringSize_0f7a4_35 rfl hl (by decide) rfl (fun ls hl => ?_)
  refine lv_iinc (k := 1) (lv' := [(3, .int 3), (2, .int (-1000)), (0, .int (-((nI x)))), (1, .int 0)]) hx hb jd_J6_stringSize_0f7a4_36 hl rfl (by decide) (by decide) rfl (fun ls hl => ?_)
  refine lv_goto hx hb jd_J6_stringSize_0f7a4_39 (tgt := 16) (by decide) ?_
  refine lv_iload_n hx hb jd_J6_stringSize_0f7a4_16 rfl (lv_at hl 0 rfl) ?_
  refine lv_bipush (v := 10) hx hb jd_J6_stringSize_0f7a4_17 (by decide) ?_
  refine lv_icmp_ge hx hb jd_J6_stringSize_0f7a4_19 (tgt := 42) (by decide) (fun h9 => absurd h9 (by decide)) (fun _ => ?_)
  refine lv_iload_n hx hb jd_J6_stringSize_0f7a4_22 rfl (lv_at hl 2 rfl) ?_
  refine lv_iload_n hx hb jd_J6_stringSize_0f7a4_23 rfl (lv_at hl 1 rfl) ?_
  refine lv_icmp_le hx hb jd_J6_stringSize_0f7a4_24 (tgt := 31) (by decide) (fun h9 => absurd h9 (jd x (by omega)).2.2.2.2) (fun _ => ?_)
  refine lv_iload_n hx hb jd_J6_stringSize_0f7a4_27 rfl (lv_at hl 0 rfl) ?_
  refine lv_iload_n hx hb jd_J6_stringSize_0f7a4_28 rfl (lv_at hl 3 rfl) ?_
  refine lv_iadd hx hb jd_J6_stringSize_0f7a4_29 ?_
  refine j_i (x' := 3) (by decide) ?_
  exact j_iret B jd_J6_stringSize_0f7a4_30 rfl (by first | rfl | decide) (⟨by rw [dgs_3 h0]; rfl, rfl⟩) (Nat.le_of_ble_eq_true rfl) (Nat.le_of_ble_eq_true rfl) hP hD hS
theorem jt_size (l : Launch) (E0 : KE) (x : Nat) (h : x < 200) : JC l E0 yJ6_stringSize_0f7a4 mzJ6_stringSize_0f7a4 [.int (nI x)] [] (fun v w => v = some (.int (nI (dgs x).length)) ∧ w = []) := by
  by_cases h1 : x < 10
  · exact jt_size1 l E0 x h1
  · by_cases h2 : x < 100
    · exact jt_size2 l E0 x (by omega) h2
    · exact jt_size3 l E0 x (by omega) h
theorem jg1 {E0 : KE} {x p b m : Nat} {f : Nat → Int32} (hf : sb_Fit f) (hp : 1 ≤ p) (h1 : x < 10) : (fun (v : Option Value) (w : va_W) => ∃ f2 : Nat → Int32, v = some (.int (nI (p - (dgs x).length))) ∧ w = [(b, .inl (E0.2.2 4, m, .inl f2))] ∧ sb_Fit f2 ∧ (∀ i, i < p - (dgs x).length → f2 i = f i) ∧ ∀ i, i < (dgs x).length → f2 (p - (dgs x).length + i) = nI ((dgs x).getD i 0)) (some (.int (nI (p - 1)))) [(b, .inl (E0.2.2 4, m, .inl (upd f (p - 1) (nI (48 + x % 10)))))] := by
  refine ⟨_, ?_, rfl, sb_fitU hf (jfb (by omega)), fun i hi => ?_, fun i hi => ?_⟩
  · rw [dgs_1 h1]; exact congrArg (fun z => some (Value.int (nI z))) (show p - 1 = p - 1 by omega)
  · rw [dgs_1 h1] at hi
    have hi : i < p - 1 := hi
    rw [pk_un (by omega)]
  · rw [dgs_1 h1] at hi ⊢
    show (upd f (p - 1) (nI (48 + x % 10))) (p - 1 + i) = _
    obtain rfl : i = 0 := by have : i < 1 := hi; omega
    rw [show p - 1 + 0 = p - 1 by omega, pk_us, show x % 10 = x by omega]
    rfl
theorem jd_J6_getChars_ba4f3_0 : decode cJ6_getChars_ba4f3 0 = .ok (.iload_n 1, 1) := by decide +kernel
theorem jd_J6_getChars_ba4f3_1 : decode cJ6_getChars_ba4f3 1 = .ok (.istore 5, 2) := by decide +kernel
theorem jd_J6_getChars_ba4f3_3 : decode cJ6_getChars_ba4f3 3 = .ok (.iload_n 0, 1) := by decide +kernel
theorem jd_J6_getChars_ba4f3_4 : decode cJ6_getChars_ba4f3 4 = .ok (.ifCond .ge 7, 3) := by decide +kernel
theorem jd_J6_getChars_ba4f3_11 : decode cJ6_getChars_ba4f3 11 = .ok (.iconst 0, 1) := by decide +kernel
theorem jd_J6_getChars_ba4f3_12 : decode cJ6_getChars_ba4f3 12 = .ok (.istore 6, 2) := by decide +kernel
theorem jd_J6_getChars_ba4f3_14 : decode cJ6_getChars_ba4f3 14 = .ok (.iload 6, 2) := by decide +kernel
theorem jd_J6_getChars_ba4f3_16 : decode cJ6_getChars_ba4f3 16 = .ok (.ifCond .ne 6, 3) := by decide +kernel
theorem jd_J6_getChars_ba4f3_19 : decode cJ6_getChars_ba4f3 19 = .ok (.iload_n 0, 1) := by decide +kernel
theorem jd_J6_getChars_ba4f3_20 : decode cJ6_getChars_ba4f3 20 = .ok (.ineg, 1) := by decide +kernel
theorem jd_J6_getChars_ba4f3_21 : decode cJ6_getChars_ba4f3 21 = .ok (.istore_n 0, 1) := by decide +kernel
theorem jd_J6_getChars_ba4f3_22 : decode cJ6_getChars_ba4f3 22 = .ok (.iload_n 0, 1) := by decide +kernel
theorem jd_J6_getChars_ba4f3_23 : decode cJ6_getChars_ba4f3 23 = .ok (.bipush (-100), 2) := by decide +kernel
theorem jd_J6_getChars_ba4f3_25 : decode cJ6_getChars_ba4f3 25 = .ok (.if_icmp .gt 47, 3) := by decide +kernel
theorem jd_J6_getChars_ba4f3_72 : decode cJ6_getChars_ba4f3 72 = .ok (.aload_n 2, 1) := by decide +kernel
theorem jd_J6_getChars_ba4f3_73 : decode cJ6_getChars_ba4f3 73 = .ok (.iinc 5 (-1), 3) := by decide +kernel
theorem jd_J6_getChars_ba4f3_76 : decode cJ6_getChars_ba4f3 76 = .ok (.iload 5, 2) := by decide +kernel
theorem jd_J6_getChars_ba4f3_78 : decode cJ6_getChars_ba4f3 78 = .ok (.getstatic 83, 3) := by decide +kernel
theorem jf_J6_83 : Cond.fieldLink RJ6 83 "java/lang/Integer" "DigitOnes" "[B" ∈ kg := kg_in 1293 (by decide +kernel) (by decide +kernel)
theorem jd_J6_getChars_ba4f3_81 : decode cJ6_getChars_ba4f3 81 = .ok (.iload_n 0, 1) := by decide +kernel
theorem jd_J6_getChars_ba4f3_82 : decode cJ6_getChars_ba4f3 82 = .ok (.ineg, 1) := by decide +kernel
theorem jd_J6_getChars_ba4f3_83 : decode cJ6_getChars_ba4f3 83 = .ok (.baload, 1) := by decide +kernel
theorem jd_J6_getChars_ba4f3_84 : decode cJ6_getChars_ba4f3 84 = .ok (.bastore, 1) := by decide +kernel
theorem jd_J6_getChars_ba4f3_85 : decode cJ6_getChars_ba4f3 85 = .ok (.iload_n 0, 1) := by decide +kernel
theorem jd_J6_getChars_ba4f3_86 : decode cJ6_getChars_ba4f3 86 = .ok (.bipush (-9), 2) := by decide +kernel
theorem jd_J6_getChars_ba4f3_88 : decode cJ6_getChars_ba4f3 88 = .ok (.if_icmp .ge 16, 3) := by decide +kernel
theorem jd_J6_getChars_ba4f3_104 : decode cJ6_getChars_ba4f3 104 = .ok (.iload 6, 2) := by decide +kernel
theorem jd_J6_getChars_ba4f3_106 : decode cJ6_getChars_ba4f3 106 = .ok (.ifCond .eq 12, 3) := by decide +kernel
theorem jd_J6_getChars_ba4f3_118 : decode cJ6_getChars_ba4f3 118 = .ok (.iload 5, 2) := by decide +kernel
theorem jd_J6_getChars_ba4f3_120 : decode cJ6_getChars_ba4f3 120 = .ok (.ireturn, 1) := by decide +kernel
abbrev mzJ6_getChars_ba4f3 : KM := (RJ6, cJ6_getChars_ba4f3, 7, (some .int), { frames := 0, cells := 0, slots := 0, locals := 12 }, 0, 0)
set_option maxHeartbeats 1000000 in
set_option maxRecDepth 100000 in
theorem jt_getC1 (l : Launch) (E0 : KE) (x p b m : Nat) (f : Nat → Int32) (hf : sb_Fit f) (hm : m ≤ 34) (hp : p ≤ m) (hd : (dgs x).length ≤ p) (h1 : x < 10) : JC l E0 yJ6_getChars_ba4f3 mzJ6_getChars_ba4f3 [.int (nI x), .int (nI p), .ref b] [(b, .inl (E0.2.2 4, m, .inl f))] (fun v w => ∃ f2 : Nat → Int32, v = some (.int (nI (p - (dgs x).length))) ∧ w = [(b, .inl (E0.2.2 4, m, .inl f2))] ∧ sb_Fit f2 ∧ (∀ i, i < p - (dgs x).length → f2 i = f i) ∧ ∀ i, i < (dgs x).length → f2 (p - (dgs x).length + i) = nI ((dgs x).getD i 0)) := by
  refine jc_of [(0, .int (nI x)), (1, .int (nI p)), (2, .ref b)] (by decide +kernel) rfl rfl (Nat.le_of_ble_eq_true rfl) ?_
  intro A pr e s mt args below meth c Q B H locs ls hP hD hS hl
  have C := B.1
  have hnm := B.2.1
  obtain ⟨hx, hb, hml, hown, hts, hA, hK, hF⟩ := id C
  have hd9 : 1 ≤ p := by rw [dgs_1 h1] at hd; exact hd
  refine lv_iload_n hx hb jd_J6_getChars_ba4f3_0 rfl (lv_at hl 1 rfl) ?_
  refine lv_istore (lv' := [(5, .int (nI p)), (0, .int (nI x)), (1, .int (nI p)), (2, .ref b)]) hx hb jd_J6_getChars_ba4f3_1 hl (by decide) rfl (fun ls hl => ?_)
  refine lv_iload_n hx hb jd_J6_getChars_ba4f3_3 rfl (lv_at hl 1 rfl) ?_
  refine lv_if_ge hx hb jd_J6_getChars_ba4f3_4 (tgt := 11) (by decide) (fun _ => ?_) (fun h9 => absurd (nI_pos' (by omega)) h9)
  refine lv_iconst (v := 0) hx hb jd_J6_getChars_ba4f3_11 (by decide) ?_
  refine lv_istore (lv' := [(6, .int 0), (5, .int (nI p)), (0, .int (nI x)), (1, .int (nI p)), (2, .ref b)]) hx hb jd_J6_getChars_ba4f3_12 hl (by decide) rfl (fun ls hl => ?_)
  refine lv_iload hx hb jd_J6_getChars_ba4f3_14 (lv_at hl 0 rfl) ?_
  refine lv_if_ne hx hb jd_J6_getChars_ba4f3_16 (tgt := 22) (by decide) (fun h9 => absurd rfl h9) (fun _ => ?_)
  refine lv_iload_n hx hb jd_J6_getChars_ba4f3_19 rfl (lv_at hl 2 rfl) ?_
  refine lv_ineg hx hb jd_J6_getChars_ba4f3_20 ?_
  refine lv_istore_n (lv' := [(0, .int (-((nI x)))), (6, .int 0), (5, .int (nI p)), (1, .int (nI p)), (2, .ref b)]) hx hb jd_J6_getChars_ba4f3_21 rfl hl (by decide) rfl (fun ls hl => ?_)
  refine lv_iload_n hx hb jd_J6_getChars_ba4f3_22 rfl (lv_at hl 0 rfl) ?_
  refine lv_bipush (v := (-100)) hx hb jd_J6_getChars_ba4f3_23 (by decide) ?_
  refine lv_icmp_gt hx hb jd_J6_getChars_ba4f3_25 (tgt := 72) (by decide) (fun _ => ?_) (fun h9 => absurd ((jd2 x (by omega)).1 (by omega)) h9)
  refine lv_aload_n hx hb jd_J6_getChars_ba4f3_72 rfl (lv_at hl 4 rfl) ?_
  refine lv_iinc (k := 2) (lv' := [(5, .int (nI (p - 1))), (0, .int (-((nI x)))), (6, .int 0), (1, .int (nI p)), (2, .ref b)]) hx hb jd_J6_getChars_ba4f3_73 hl rfl (jm1 (by omega)) (by decide) rfl (fun ls hl => ?_)
  refine lv_iload hx hb jd_J6_getChars_ba4f3_76 (lv_at hl 0 rfl) ?_
  refine va_gets hx hb hF.2.2.1 hS hown (hts _ jf_J6_83) (fun _ h9 => h9) jd_J6_getChars_ba4f3_78 ?_
  refine lv_iload_n hx hb jd_J6_getChars_ba4f3_81 rfl (lv_at hl 1 rfl) ?_
  refine lv_ineg hx hb jd_J6_getChars_ba4f3_82 ?_
  refine j_i (x' := (nI x)) (Int32.neg_neg) ?_
  refine va_tb (v := .int (nI (48 + x % 10))) hx hb hF.2.2.2.1 hS (vp_in_nI (by omega) (by decide)) (by show Value.int (nI (48 + (nI x).toNatClampNeg % 10)) = _; rw [nI_clamp (by omega)]) jd_J6_getChars_ba4f3_83 ?_
  refine va_bast (D := E0.1) hx hb hK hP hD hS 0 0 rfl rfl (vp_in_nI (by omega) (by omega)) jd_J6_getChars_ba4f3_84 (fun H locs hP hD hS => ?_)
  have hP : va_P E0.1 vwCl ([(b, .inl (E0.2.2 4, m, .inl (upd f (Int32.toNatClampNeg ((nI (p - 1)))) (vp_nar .byte (nI (48 + x % 10))))))] : va_W) H := hP
  have hD : va_D A ([(b, .inl (E0.2.2 4, m, .inl (upd f (Int32.toNatClampNeg ((nI (p - 1)))) (vp_nar .byte (nI (48 + x % 10))))))] : va_W) := hD
  have e9 : upd f (Int32.toNatClampNeg ((nI (p - 1)))) (vp_nar .byte (nI (48 + x % 10))) = (upd f (p - 1) (nI (48 + x % 10))) := by rw [nI_clamp (by omega), jnar (by omega)]
  rw [e9] at hP hD
  refine lv_iload_n hx hb jd_J6_getChars_ba4f3_85 rfl (lv_at hl 1 rfl) ?_
  refine lv_bipush (v := (-9)) hx hb jd_J6_getChars_ba4f3_86 (by decide) ?_
  refine lv_icmp_ge hx hb jd_J6_getChars_ba4f3_88 (tgt := 104) (by decide) (fun _ => ?_) (fun h9 => absurd ((jd2 x (by omega)).2.2.1 h1) h9)
  refine lv_iload hx hb jd_J6_getChars_ba4f3_104 (lv_at hl 2 rfl) ?_
  refine lv_if_eq hx hb jd_J6_getChars_ba4f3_106 (tgt := 118) (by decide) (fun _ => ?_) (fun h9 => absurd rfl h9)
  refine lv_iload hx hb jd_J6_getChars_ba4f3_118 (lv_at hl 0 rfl) ?_
  exact j_iret B jd_J6_getChars_ba4f3_120 rfl (by first | rfl | decide) (jg1 hf hd9 h1) (Nat.le_of_ble_eq_true rfl) (Nat.le_of_ble_eq_true rfl) hP hD hS
theorem jg2 {E0 : KE} {x p b m : Nat} {f : Nat → Int32} (hf : sb_Fit f) (hp : 2 ≤ p) (h0 : 10 ≤ x) (h1 : x < 100) : (fun (v : Option Value) (w : va_W) => ∃ f2 : Nat → Int32, v = some (.int (nI (p - (dgs x).length))) ∧ w = [(b, .inl (E0.2.2 4, m, .inl f2))] ∧ sb_Fit f2 ∧ (∀ i, i < p - (dgs x).length → f2 i = f i) ∧ ∀ i, i < (dgs x).length → f2 (p - (dgs x).length + i) = nI ((dgs x).getD i 0)) (some (.int (nI (p - 1 - 1)))) [(b, .inl (E0.2.2 4, m, .inl (upd (upd f (p - 1) (nI (48 + x % 10))) (p - 1 - 1) (nI (48 + x / 10)))))] := by
  refine ⟨_, ?_, rfl, sb_fitU (sb_fitU hf (jfb (by omega))) (jfb (by omega)), fun i hi => ?_, fun i hi => ?_⟩
  · rw [dgs_2 h0 h1]; exact congrArg (fun z => some (Value.int (nI z))) (show p - 1 - 1 = p - 2 by omega)
  · rw [dgs_2 h0 h1] at hi
    have hi : i < p - 2 := hi
    rw [pk_un (by omega), pk_un (by omega)]
  · rw [dgs_2 h0 h1] at hi ⊢
    show (upd (upd f (p - 1) (nI (48 + x % 10))) (p - 1 - 1) (nI (48 + x / 10))) (p - 2 + i) = _
    match i, hi with
    | 0, _ => rw [show p - 2 + 0 = p - 1 - 1 by omega, pk_us]; rfl
    | 1, _ => rw [show p - 2 + 1 = p - 1 by omega, pk_un (by omega), pk_us]; rfl
    | i + 2, hi => have : i + 2 < 2 := hi; omega
theorem jd_J6_getChars_ba4f3_91 : decode cJ6_getChars_ba4f3 91 = .ok (.aload_n 2, 1) := by decide +kernel
theorem jd_J6_getChars_ba4f3_92 : decode cJ6_getChars_ba4f3 92 = .ok (.iinc 5 (-1), 3) := by decide +kernel
theorem jd_J6_getChars_ba4f3_95 : decode cJ6_getChars_ba4f3 95 = .ok (.iload 5, 2) := by decide +kernel
theorem jd_J6_getChars_ba4f3_97 : decode cJ6_getChars_ba4f3 97 = .ok (.getstatic 87, 3) := by decide +kernel
theorem jf_J6_87 : Cond.fieldLink RJ6 87 "java/lang/Integer" "DigitTens" "[B" ∈ kg := kg_in 1295 (by decide +kernel) (by decide +kernel)
theorem jd_J6_getChars_ba4f3_100 : decode cJ6_getChars_ba4f3 100 = .ok (.iload_n 0, 1) := by decide +kernel
theorem jd_J6_getChars_ba4f3_101 : decode cJ6_getChars_ba4f3 101 = .ok (.ineg, 1) := by decide +kernel
theorem jd_J6_getChars_ba4f3_102 : decode cJ6_getChars_ba4f3 102 = .ok (.baload, 1) := by decide +kernel
theorem jd_J6_getChars_ba4f3_103 : decode cJ6_getChars_ba4f3 103 = .ok (.bastore, 1) := by decide +kernel
set_option maxHeartbeats 1000000 in
set_option maxRecDepth 100000 in
theorem jt_getC2 (l : Launch) (E0 : KE) (x p b m : Nat) (f : Nat → Int32) (hf : sb_Fit f) (hm : m ≤ 34) (hp : p ≤ m) (hd : (dgs x).length ≤ p) (h0 : 10 ≤ x) (h1 : x < 100) : JC l E0 yJ6_getChars_ba4f3 mzJ6_getChars_ba4f3 [.int (nI x), .int (nI p), .ref b] [(b, .inl (E0.2.2 4, m, .inl f))] (fun v w => ∃ f2 : Nat → Int32, v = some (.int (nI (p - (dgs x).length))) ∧ w = [(b, .inl (E0.2.2 4, m, .inl f2))] ∧ sb_Fit f2 ∧ (∀ i, i < p - (dgs x).length → f2 i = f i) ∧ ∀ i, i < (dgs x).length → f2 (p - (dgs x).length + i) = nI ((dgs x).getD i 0)) := by
  refine jc_of [(0, .int (nI x)), (1, .int (nI p)), (2, .ref b)] (by decide +kernel) rfl rfl (Nat.le_of_ble_eq_true rfl) ?_
  intro A pr e s mt args below meth c Q B H locs ls hP hD hS hl
  have C := B.1
  have hnm := B.2.1
  obtain ⟨hx, hb, hml, hown, hts, hA, hK, hF⟩ := id C
  have hd9 : 2 ≤ p := by rw [dgs_2 h0 h1] at hd; exact hd
  refine lv_iload_n hx hb jd_J6_getChars_ba4f3_0 rfl (lv_at hl 1 rfl) ?_
  refine lv_istore (lv' := [(5, .int (nI p)), (0, .int (nI x)), (1, .int (nI p)), (2, .ref b)]) hx hb jd_J6_getChars_ba4f3_1 hl (by decide) rfl (fun ls hl => ?_)
  refine lv_iload_n hx hb jd_J6_getChars_ba4f3_3 rfl (lv_at hl 1 rfl) ?_
  refine lv_if_ge hx hb jd_J6_getChars_ba4f3_4 (tgt := 11) (by decide) (fun _ => ?_) (fun h9 => absurd (nI_pos' (by omega)) h9)
  refine lv_iconst (v := 0) hx hb jd_J6_getChars_ba4f3_11 (by decide) ?_
  refine lv_istore (lv' := [(6, .int 0), (5, .int (nI p)), (0, .int (nI x)), (1, .int (nI p)), (2, .ref b)]) hx hb jd_J6_getChars_ba4f3_12 hl (by decide) rfl (fun ls hl => ?_)
  refine lv_iload hx hb jd_J6_getChars_ba4f3_14 (lv_at hl 0 rfl) ?_
  refine lv_if_ne hx hb jd_J6_getChars_ba4f3_16 (tgt := 22) (by decide) (fun h9 => absurd rfl h9) (fun _ => ?_)
  refine lv_iload_n hx hb jd_J6_getChars_ba4f3_19 rfl (lv_at hl 2 rfl) ?_
  refine lv_ineg hx hb jd_J6_getChars_ba4f3_20 ?_
  refine lv_istore_n (lv' := [(0, .int (-((nI x)))), (6, .int 0), (5, .int (nI p)), (1, .int (nI p)), (2, .ref b)]) hx hb jd_J6_getChars_ba4f3_21 rfl hl (by decide) rfl (fun ls hl => ?_)
  refine lv_iload_n hx hb jd_J6_getChars_ba4f3_22 rfl (lv_at hl 0 rfl) ?_
  refine lv_bipush (v := (-100)) hx hb jd_J6_getChars_ba4f3_23 (by decide) ?_
  refine lv_icmp_gt hx hb jd_J6_getChars_ba4f3_25 (tgt := 72) (by decide) (fun _ => ?_) (fun h9 => absurd ((jd2 x (by omega)).1 (by omega)) h9)
  refine lv_aload_n hx hb jd_J6_getChars_ba4f3_72 rfl (lv_at hl 4 rfl) ?_
  refine lv_iinc (k := 2) (lv' := [(5, .int (nI (p - 1))), (0, .int (-((nI x)))), (6, .int 0), (1, .int (nI p)), (2, .ref b)]) hx hb jd_J6_getChars_ba4f3_73 hl rfl (jm1 (by omega)) (by decide) rfl (fun ls hl => ?_)
  refine lv_iload hx hb jd_J6_getChars_ba4f3_76 (lv_at hl 0 rfl) ?_
  refine va_gets hx hb hF.2.2.1 hS hown (hts _ jf_J6_83) (fun _ h9 => h9) jd_J6_getChars_ba4f3_78 ?_
  refine lv_iload_n hx hb jd_J6_getChars_ba4f3_81 rfl (lv_at hl 1 rfl) ?_
  refine lv_ineg hx hb jd_J6_getChars_ba4f3_82 ?_
  refine j_i (x' := (nI x)) (Int32.neg_neg) ?_
  refine va_tb (v := .int (nI (48 + x % 10))) hx hb hF.2.2.2.1 hS (vp_in_nI (by omega) (by decide)) (by show Value.int (nI (48 + (nI x).toNatClampNeg % 10)) = _; rw [nI_clamp (by omega)]) jd_J6_getChars_ba4f3_83 ?_
  refine va_bast (D := E0.1) hx hb hK hP hD hS 0 0 rfl rfl (vp_in_nI (by omega) (by omega)) jd_J6_getChars_ba4f3_84 (fun H locs hP hD hS => ?_)
  have hP : va_P E0.1 vwCl ([(b, .inl (E0.2.2 4, m, .inl (upd f (Int32.toNatClampNeg ((nI (p - 1)))) (vp_nar .byte (nI (48 + x % 10))))))] : va_W) H := hP
  have hD : va_D A ([(b, .inl (E0.2.2 4, m, .inl (upd f (Int32.toNatClampNeg ((nI (p - 1)))) (vp_nar .byte (nI (48 + x % 10))))))] : va_W) := hD
  have e9 : upd f (Int32.toNatClampNeg ((nI (p - 1)))) (vp_nar .byte (nI (48 + x % 10))) = (upd f (p - 1) (nI (48 + x % 10))) := by rw [nI_clamp (by omega), jnar (by omega)]
  rw [e9] at hP hD
  refine lv_iload_n hx hb jd_J6_getChars_ba4f3_85 rfl (lv_at hl 1 rfl) ?_
  refine lv_bipush (v := (-9)) hx hb jd_J6_getChars_ba4f3_86 (by decide) ?_
  refine lv_icmp_ge hx hb jd_J6_getChars_ba4f3_88 (tgt := 104) (by decide) (fun h9 => absurd h9 ((jd2 x (by omega)).2.2.2.1 h0)) (fun _ => ?_)
  refine lv_aload_n hx hb jd_J6_getChars_ba4f3_91 rfl (lv_at hl 4 rfl) ?_
  refine lv_iinc (k := 0) (lv' := [(5, .int (nI (p - 1 - 1))), (0, .int (-((nI x)))), (6, .int 0), (1, .int (nI p)), (2, .ref b)]) hx hb jd_J6_getChars_ba4f3_92 hl rfl (jm1 (by omega)) (by decide) rfl (fun ls hl => ?_)
  refine lv_iload hx hb jd_J6_getChars_ba4f3_95 (lv_at hl 0 rfl) ?_
  refine va_gets hx hb hF.2.2.2.2.1 hS hown (hts _ jf_J6_87) (fun _ h9 => h9) jd_J6_getChars_ba4f3_97 ?_
  refine lv_iload_n hx hb jd_J6_getChars_ba4f3_100 rfl (lv_at hl 1 rfl) ?_
  refine lv_ineg hx hb jd_J6_getChars_ba4f3_101 ?_
  refine j_i (x' := (nI x)) (Int32.neg_neg) ?_
  refine va_tb (v := .int (nI (48 + x / 10))) hx hb hF.2.2.2.2.2.1 hS (vp_in_nI (by omega) (by decide)) (by show Value.int (nI (48 + (nI x).toNatClampNeg / 10)) = _; rw [nI_clamp (by omega)]) jd_J6_getChars_ba4f3_102 ?_
  refine va_bast (D := E0.1) hx hb hK hP hD hS 0 0 rfl rfl (vp_in_nI (by omega) (by omega)) jd_J6_getChars_ba4f3_103 (fun H locs hP hD hS => ?_)
  have hP : va_P E0.1 vwCl ([(b, .inl (E0.2.2 4, m, .inl (upd (((upd f (p - 1) (nI (48 + x % 10))))) (Int32.toNatClampNeg ((nI (p - 1 - 1)))) (vp_nar .byte (nI (48 + x / 10))))))] : va_W) H := hP
  have hD : va_D A ([(b, .inl (E0.2.2 4, m, .inl (upd (((upd f (p - 1) (nI (48 + x % 10))))) (Int32.toNatClampNeg ((nI (p - 1 - 1)))) (vp_nar .byte (nI (48 + x / 10))))))] : va_W) := hD
  have e9 : upd (((upd f (p - 1) (nI (48 + x % 10))))) (Int32.toNatClampNeg ((nI (p - 1 - 1)))) (vp_nar .byte (nI (48 + x / 10))) = (upd (upd f (p - 1) (nI (48 + x % 10))) (p - 1 - 1) (nI (48 + x / 10))) := by rw [nI_clamp (by omega), jnar (by omega)]
  rw [e9] at hP hD
  refine lv_iload hx hb jd_J6_getChars_ba4f3_104 (lv_at hl 2 rfl) ?_
  refine lv_if_eq hx hb jd_J6_getChars_ba4f3_106 (tgt := 118) (by decide) (fun _ => ?_) (fun h9 => absurd rfl h9)
  refine lv_iload hx hb jd_J6_getChars_ba4f3_118 (lv_at hl 0 rfl) ?_
  exact j_iret B jd_J6_getChars_ba4f3_120 rfl (by first | rfl | decide) (jg2 hf hd9 h0 h1) (Nat.le_of_ble_eq_true rfl) (Nat.le_of_ble_eq_true rfl) hP hD hS
theorem jg3 {E0 : KE} {x p b m : Nat} {f : Nat → Int32} (hf : sb_Fit f) (hp : 3 ≤ p) (h0 : 100 ≤ x) (h1 : x < 200) : (fun (v : Option Value) (w : va_W) => ∃ f2 : Nat → Int32, v = some (.int (nI (p - (dgs x).length))) ∧ w = [(b, .inl (E0.2.2 4, m, .inl f2))] ∧ sb_Fit f2 ∧ (∀ i, i < p - (dgs x).length → f2 i = f i) ∧ ∀ i, i < (dgs x).length → f2 (p - (dgs x).length + i) = nI ((dgs x).getD i 0)) (some (.int (nI (p - 1 - 1 - 1)))) [(b, .inl (E0.2.2 4, m, .inl (upd (upd (upd f (p - 1) (nI (48 + (x - 100) % 10))) (p - 1 - 1) (nI (48 + (x - 100) / 10))) (p - 1 - 1 - 1) (nI 49))))] := by
  refine ⟨_, ?_, rfl, sb_fitU (sb_fitU (sb_fitU hf (jfb (by omega))) (jfb (by omega))) (jfb (by decide)), fun i hi => ?_, fun i hi => ?_⟩
  · rw [dgs_3 h0]; exact congrArg (fun z => some (Value.int (nI z))) (show p - 1 - 1 - 1 = p - 3 by omega)
  · rw [dgs_3 h0] at hi
    have hi : i < p - 3 := hi
    rw [pk_un (by omega), pk_un (by omega), pk_un (by omega)]
  · rw [dgs_3 h0] at hi ⊢
    show (upd (upd (upd f (p - 1) (nI (48 + (x - 100) % 10))) (p - 1 - 1) (nI (48 + (x - 100) / 10))) (p - 1 - 1 - 1) (nI 49)) (p - 3 + i) = _
    match i, hi with
    | 0, _ => rw [show p - 3 + 0 = p - 1 - 1 - 1 by omega, pk_us]; exact congrArg nI (show 49 = 48 + x / 100 by omega)
    | 1, _ => rw [show p - 3 + 1 = p - 1 - 1 by omega, pk_un (by omega), pk_us]; exact congrArg nI (show 48 + (x - 100) / 10 = 48 + x / 10 % 10 by omega)
    | 2, _ => rw [show p - 3 + 2 = p - 1 by omega, pk_un (by omega), pk_un (by omega), pk_us]; exact congrArg nI (show 48 + (x - 100) % 10 = 48 + x % 10 by omega)
    | i + 3, hi => have : i + 3 < 3 := hi; omega
theorem jd_J6_getChars_ba4f3_28 : decode cJ6_getChars_ba4f3 28 = .ok (.iload_n 0, 1) := by decide +kernel
theorem jd_J6_getChars_ba4f3_29 : decode cJ6_getChars_ba4f3 29 = .ok (.bipush 100, 2) := by decide +kernel
theorem jd_J6_getChars_ba4f3_31 : decode cJ6_getChars_ba4f3 31 = .ok (.idiv, 1) := by decide +kernel
theorem jd_J6_getChars_ba4f3_32 : decode cJ6_getChars_ba4f3 32 = .ok (.istore_n 3, 1) := by decide +kernel
theorem jd_J6_getChars_ba4f3_33 : decode cJ6_getChars_ba4f3 33 = .ok (.iload_n 3, 1) := by decide +kernel
theorem jd_J6_getChars_ba4f3_34 : decode cJ6_getChars_ba4f3 34 = .ok (.bipush 100, 2) := by decide +kernel
theorem jd_J6_getChars_ba4f3_36 : decode cJ6_getChars_ba4f3 36 = .ok (.imul, 1) := by decide +kernel
theorem jd_J6_getChars_ba4f3_37 : decode cJ6_getChars_ba4f3 37 = .ok (.iload_n 0, 1) := by decide +kernel
theorem jd_J6_getChars_ba4f3_38 : decode cJ6_getChars_ba4f3 38 = .ok (.isub, 1) := by decide +kernel
theorem jd_J6_getChars_ba4f3_39 : decode cJ6_getChars_ba4f3 39 = .ok (.istore 4, 2) := by decide +kernel
theorem jd_J6_getChars_ba4f3_41 : decode cJ6_getChars_ba4f3 41 = .ok (.iload_n 3, 1) := by decide +kernel
theorem jd_J6_getChars_ba4f3_42 : decode cJ6_getChars_ba4f3 42 = .ok (.istore_n 0, 1) := by decide +kernel
theorem jd_J6_getChars_ba4f3_43 : decode cJ6_getChars_ba4f3 43 = .ok (.aload_n 2, 1) := by decide +kernel
theorem jd_J6_getChars_ba4f3_44 : decode cJ6_getChars_ba4f3 44 = .ok (.iinc 5 (-1), 3) := by decide +kernel
theorem jd_J6_getChars_ba4f3_47 : decode cJ6_getChars_ba4f3 47 = .ok (.iload 5, 2) := by decide +kernel
theorem jd_J6_getChars_ba4f3_49 : decode cJ6_getChars_ba4f3 49 = .ok (.getstatic 83, 3) := by decide +kernel
theorem jd_J6_getChars_ba4f3_52 : decode cJ6_getChars_ba4f3 52 = .ok (.iload 4, 2) := by decide +kernel
theorem jd_J6_getChars_ba4f3_54 : decode cJ6_getChars_ba4f3 54 = .ok (.baload, 1) := by decide +kernel
theorem jd_J6_getChars_ba4f3_55 : decode cJ6_getChars_ba4f3 55 = .ok (.bastore, 1) := by decide +kernel
theorem jd_J6_getChars_ba4f3_56 : decode cJ6_getChars_ba4f3 56 = .ok (.aload_n 2, 1) := by decide +kernel
theorem jd_J6_getChars_ba4f3_57 : decode cJ6_getChars_ba4f3 57 = .ok (.iinc 5 (-1), 3) := by decide +kernel
theorem jd_J6_getChars_ba4f3_60 : decode cJ6_getChars_ba4f3 60 = .ok (.iload 5, 2) := by decide +kernel
theorem jd_J6_getChars_ba4f3_62 : decode cJ6_getChars_ba4f3 62 = .ok (.getstatic 87, 3) := by decide +kernel
theorem jd_J6_getChars_ba4f3_65 : decode cJ6_getChars_ba4f3 65 = .ok (.iload 4, 2) := by decide +kernel
theorem jd_J6_getChars_ba4f3_67 : decode cJ6_getChars_ba4f3 67 = .ok (.baload, 1) := by decide +kernel
theorem jd_J6_getChars_ba4f3_68 : decode cJ6_getChars_ba4f3 68 = .ok (.bastore, 1) := by decide +kernel
theorem jd_J6_getChars_ba4f3_69 : decode cJ6_getChars_ba4f3 69 = .ok (.goto (-47), 3) := by decide +kernel
set_option maxHeartbeats 1000000 in
set_option maxRecDepth 100000 in
theorem jt_getC3 (l : Launch) (E0 : KE) (x p b m : Nat) (f : Nat → Int32) (hf : sb_Fit f) (hm : m ≤ 34) (hp : p ≤ m) (hd : (dgs x).length ≤ p) (h0 : 100 ≤ x) (h1 : x < 200) : JC l E0 yJ6_getChars_ba4f3 mzJ6_getChars_ba4f3 [.int (nI x), .int (nI p), .ref b] [(b, .inl (E0.2.2 4, m, .inl f))] (fun v w => ∃ f2 : Nat → Int32, v = some (.int (nI (p - (dgs x).length))) ∧ w = [(b, .inl (E0.2.2 4, m, .inl f2))] ∧ sb_Fit f2 ∧ (∀ i, i < p - (dgs x).length → f2 i = f i) ∧ ∀ i, i < (dgs x).length → f2 (p - (dgs x).length + i) = nI ((dgs x).getD i 0)) := by
  refine jc_of [(0, .int (nI x)), (1, .int (nI p)), (2, .ref b)] (by decide +kernel) rfl rfl (Nat.le_of_ble_eq_true rfl) ?_
  intro A pr e s mt args below meth c Q B H locs ls hP hD hS hl
  have C := B.1
  have hnm := B.2.1
  obtain ⟨hx, hb, hml, hown, hts, hA, hK, hF⟩ := id C
  have hd9 : 3 ≤ p := by rw [dgs_3 h0] at hd; exact hd
  refine lv_iload_n hx hb jd_J6_getChars_ba4f3_0 rfl (lv_at hl 1 rfl) ?_
  refine lv_istore (lv' := [(5, .int (nI p)), (0, .int (nI x)), (1, .int (nI p)), (2, .ref b)]) hx hb jd_J6_getChars_ba4f3_1 hl (by decide) rfl (fun ls hl => ?_)
  refine lv_iload_n hx hb jd_J6_getChars_ba4f3_3 rfl (lv_at hl 1 rfl) ?_
  refine lv_if_ge hx hb jd_J6_getChars_ba4f3_4 (tgt := 11) (by decide) (fun _ => ?_) (fun h9 => absurd (nI_pos' (by omega)) h9)
  refine lv_iconst (v := 0) hx hb jd_J6_getChars_ba4f3_11 (by decide) ?_
  refine lv_istore (lv' := [(6, .int 0), (5, .int (nI p)), (0, .int (nI x)), (1, .int (nI p)), (2, .ref b)]) hx hb jd_J6_getChars_ba4f3_12 hl (by decide) rfl (fun ls hl => ?_)
  refine lv_iload hx hb jd_J6_getChars_ba4f3_14 (lv_at hl 0 rfl) ?_
  refine lv_if_ne hx hb jd_J6_getChars_ba4f3_16 (tgt := 22) (by decide) (fun h9 => absurd rfl h9) (fun _ => ?_)
  refine lv_iload_n hx hb jd_J6_getChars_ba4f3_19 rfl (lv_at hl 2 rfl) ?_
  refine lv_ineg hx hb jd_J6_getChars_ba4f3_20 ?_
  refine lv_istore_n (lv' := [(0, .int (-((nI x)))), (6, .int 0), (5, .int (nI p)), (1, .int (nI p)), (2, .ref b)]) hx hb jd_J6_getChars_ba4f3_21 rfl hl (by decide) rfl (fun ls hl => ?_)
  refine lv_iload_n hx hb jd_J6_getChars_ba4f3_22 rfl (lv_at hl 0 rfl) ?_
  refine lv_bipush (v := (-100)) hx hb jd_J6_getChars_ba4f3_23 (by decide) ?_
  refine lv_icmp_gt hx hb jd_J6_getChars_ba4f3_25 (tgt := 72) (by decide) (fun h9 => absurd h9 ((jd2 x (by omega)).2.1 h0)) (fun _ => ?_)
  refine lv_iload_n hx hb jd_J6_getChars_ba4f3_28 rfl (lv_at hl 0 rfl) ?_
  refine lv_bipush (v := 100) hx hb jd_J6_getChars_ba4f3_29 (by decide) ?_
  refine lv_idiv hx hb jd_J6_getChars_ba4f3_31 (by decide) ?_
  refine j_i (x' := (-1)) ((jd2 x (by omega)).2.2.2.2.1 h0) ?_
  refine lv_istore_n (lv' := [(3, .int (-1)), (0, .int (-((nI x)))), (6, .int 0), (5, .int (nI p)), (1, .int (nI p)), (2, .ref b)]) hx hb jd_J6_getChars_ba4f3_32 rfl hl (by decide) rfl (fun ls hl => ?_)
  refine lv_iload_n hx hb jd_J6_getChars_ba4f3_33 rfl (lv_at hl 0 rfl) ?_
  refine lv_bipush (v := 100) hx hb jd_J6_getChars_ba4f3_34 (by decide) ?_
  refine lv_imul hx hb jd_J6_getChars_ba4f3_36 ?_
  refine j_i (x' := (-100)) (by decide) ?_
  refine lv_iload_n hx hb jd_J6_getChars_ba4f3_37 rfl (lv_at hl 1 rfl) ?_
  refine lv_isub hx hb jd_J6_getChars_ba4f3_38 ?_
  refine j_i (x' := (nI (x - 100))) ((jd2 x (by omega)).2.2.2.2.2 h0) ?_
  refine lv_istore (lv' := [(4, .int (nI (x - 100))), (3, .int (-1)), (0, .int (-((nI x)))), (6, .int 0), (5, .int (nI p)), (1, .int (nI p)), (2, .ref b)]) hx hb jd_J6_getChars_ba4f3_39 hl (by decide) rfl (fun ls hl => ?_)
  refine lv_iload_n hx hb jd_J6_getChars_ba4f3_41 rfl (lv_at hl 1 rfl) ?_
  refine lv_istore_n (lv' := [(0, .int (-1)), (4, .int (nI (x - 100))), (3, .int (-1)), (6, .int 0), (5, .int (nI p)), (1, .int (nI p)), (2, .ref b)]) hx hb jd_J6_getChars_ba4f3_42 rfl hl (by decide) rfl (fun ls hl => ?_)
  refine lv_aload_n hx hb jd_J6_getChars_ba4f3_43 rfl (lv_at hl 6 rfl) ?_
  refine lv_iinc (k := 4) (lv' := [(5, .int (nI (p - 1))), (0, .int (-1)), (4, .int (nI (x - 100))), (3, .int (-1)), (6, .int 0), (1, .int (nI p)), (2, .ref b)]) hx hb jd_J6_getChars_ba4f3_44 hl rfl (jm1 (by omega)) (by decide) rfl (fun ls hl => ?_)
  refine lv_iload hx hb jd_J6_getChars_ba4f3_47 (lv_at hl 0 rfl) ?_
  refine va_gets hx hb hF.2.2.1 hS hown (hts _ jf_J6_83) (fun _ h9 => h9) jd_J6_getChars_ba4f3_49 ?_
  refine lv_iload hx hb jd_J6_getChars_ba4f3_52 (lv_at hl 2 rfl) ?_
  refine va_tb (v := .int (nI (48 + (x - 100) % 10))) hx hb hF.2.2.2.1 hS (vp_in_nI (by omega) (by decide)) (by show Value.int (nI (48 + (nI (x - 100)).toNatClampNeg % 10)) = _; rw [nI_clamp (by omega)]) jd_J6_getChars_ba4f3_54 ?_
  refine va_bast (D := E0.1) hx hb hK hP hD hS 0 0 rfl rfl (vp_in_nI (by omega) (by omega)) jd_J6_getChars_ba4f3_55 (fun H locs hP hD hS => ?_)
  have hP : va_P E0.1 vwCl ([(b, .inl (E0.2.2 4, m, .inl (upd f (Int32.toNatClampNeg ((nI (p - 1)))) (vp_nar .byte (nI (48 + (x - 100) % 10))))))] : va_W) H := hP
  have hD : va_D A ([(b, .inl (E0.2.2 4, m, .inl (upd f (Int32.toNatClampNeg ((nI (p - 1)))) (vp_nar .byte (nI (48 + (x - 100) % 10))))))] : va_W) := hD
  have e9 : upd f (Int32.toNatClampNeg ((nI (p - 1)))) (vp_nar .byte (nI (48 + (x - 100) % 10))) = (upd f (p - 1) (nI (48 + (x - 100) % 10))) := by rw [nI_clamp (by omega), jnar (by omega)]
  rw [e9] at hP hD
  refine lv_aload_n hx hb jd_J6_getChars_ba4f3_56 rfl (lv_at hl 6 rfl) ?_
  refine lv_iinc (k := 0) (lv' := [(5, .int (nI (p - 1 - 1))), (0, .int (-1)), (4, .int (nI (x - 100))), (3, .int (-1)), (6, .int 0), (1, .int (nI p)), (2, .ref b)]) hx hb jd_J6_getChars_ba4f3_57 hl rfl (jm1 (by omega)) (by decide) rfl (fun ls hl => ?_)
  refine lv_iload hx hb jd_J6_getChars_ba4f3_60 (lv_at hl 0 rfl) ?_
  refine va_gets hx hb hF.2.2.2.2.1 hS hown (hts _ jf_J6_87) (fun _ h9 => h9) jd_J6_getChars_ba4f3_62 ?_
  refine lv_iload hx hb jd_J6_getChars_ba4f3_65 (lv_at hl 2 rfl) ?_
  refine va_tb (v := .int (nI (48 + (x - 100) / 10))) hx hb hF.2.2.2.2.2.1 hS (vp_in_nI (by omega) (by decide)) (by show Value.int (nI (48 + (nI (x - 100)).toNatClampNeg / 10)) = _; rw [nI_clamp (by omega)]) jd_J6_getChars_ba4f3_67 ?_
  refine va_bast (D := E0.1) hx hb hK hP hD hS 0 0 rfl rfl (vp_in_nI (by omega) (by omega)) jd_J6_getChars_ba4f3_68 (fun H locs hP hD hS => ?_)
  have hP : va_P E0.1 vwCl ([(b, .inl (E0.2.2 4, m, .inl (upd (((upd f (p - 1) (nI (48 + (x - 100) % 10))))) (Int32.toNatClampNeg ((nI (p - 1 - 1)))) (vp_nar .byte (nI (48 + (x - 100) / 10))))))] : va_W) H := hP
  have hD : va_D A ([(b, .inl (E0.2.2 4, m, .inl (upd (((upd f (p - 1) (nI (48 + (x - 100) % 10))))) (Int32.toNatClampNeg ((nI (p - 1 - 1)))) (vp_nar .byte (nI (48 + (x - 100) / 10))))))] : va_W) := hD
  have e9 : upd (((upd f (p - 1) (nI (48 + (x - 100) % 10))))) (Int32.toNatClampNeg ((nI (p - 1 - 1)))) (vp_nar .byte (nI (48 + (x - 100) / 10))) = (upd (upd f (p - 1) (nI (48 + (x - 100) % 10))) (p - 1 - 1) (nI (48 + (x - 100) / 10))) := by rw [nI_clamp (by omega), jnar (by omega)]
  rw [e9] at hP hD
  refine lv_goto hx hb jd_J6_getChars_ba4f3_69 (tgt := 22) (by decide) ?_
  refine lv_iload_n hx hb jd_J6_getChars_ba4f3_22 rfl (lv_at hl 1 rfl) ?_
  refine lv_bipush (v := (-100)) hx hb jd_J6_getChars_ba4f3_23 (by decide) ?_
  refine lv_icmp_gt hx hb jd_J6_getChars_ba4f3_25 (tgt := 72) (by decide) (fun _ => ?_) (fun h9 => absurd (by decide) h9)
  refine lv_aload_n hx hb jd_J6_getChars_ba4f3_72 rfl (lv_at hl 6 rfl) ?_
  refine lv_iinc (k := 0) (lv' := [(5, .int (nI (p - 1 - 1 - 1))), (0, .int (-1)), (4, .int (nI (x - 100))), (3, .int (-1)), (6, .int 0), (1, .int (nI p)), (2, .ref b)]) hx hb jd_J6_getChars_ba4f3_73 hl rfl (jm1 (by omega)) (by decide) rfl (fun ls hl => ?_)
  refine lv_iload hx hb jd_J6_getChars_ba4f3_76 (lv_at hl 0 rfl) ?_
  refine va_gets hx hb hF.2.2.1 hS hown (hts _ jf_J6_83) (fun _ h9 => h9) jd_J6_getChars_ba4f3_78 ?_
  refine lv_iload_n hx hb jd_J6_getChars_ba4f3_81 rfl (lv_at hl 1 rfl) ?_
  refine lv_ineg hx hb jd_J6_getChars_ba4f3_82 ?_
  refine j_i (x' := 1) (by decide) ?_
  refine va_tb (v := .int (nI 49)) hx hb hF.2.2.2.1 hS (vp_in_nI (n := 1) (by decide) (by decide)) (by decide) jd_J6_getChars_ba4f3_83 ?_
  refine va_bast (D := E0.1) hx hb hK hP hD hS 0 0 rfl rfl (vp_in_nI (by omega) (by omega)) jd_J6_getChars_ba4f3_84 (fun H locs hP hD hS => ?_)
  have hP : va_P E0.1 vwCl ([(b, .inl (E0.2.2 4, m, .inl (upd (((upd (upd f (p - 1) (nI (48 + (x - 100) % 10))) (p - 1 - 1) (nI (48 + (x - 100) / 10))))) (Int32.toNatClampNeg ((nI (p - 1 - 1 - 1)))) (vp_nar .byte (nI 49)))))] : va_W) H := hP
  have hD : va_D A ([(b, .inl (E0.2.2 4, m, .inl (upd (((upd (upd f (p - 1) (nI (48 + (x - 100) % 10))) (p - 1 - 1) (nI (48 + (x - 100) / 10))))) (Int32.toNatClampNeg ((nI (p - 1 - 1 - 1)))) (vp_nar .byte (nI 49)))))] : va_W) := hD
  have e9 : upd (((upd (upd f (p - 1) (nI (48 + (x - 100) % 10))) (p - 1 - 1) (nI (48 + (x - 100) / 10))))) (Int32.toNatClampNeg ((nI (p - 1 - 1 - 1)))) (vp_nar .byte (nI 49)) = (upd (upd (upd f (p - 1) (nI (48 + (x - 100) % 10))) (p - 1 - 1) (nI (48 + (x - 100) / 10))) (p - 1 - 1 - 1) (nI 49)) := by rw [nI_clamp (by omega), jnar (by omega)]
  rw [e9] at hP hD
  refine lv_iload_n hx hb jd_J6_getChars_ba4f3_85 rfl (lv_at hl 1 rfl) ?_
  refine lv_bipush (v := (-9)) hx hb jd_J6_getChars_ba4f3_86 (by decide) ?_
  refine lv_icmp_ge hx hb jd_J6_getChars_ba4f3_88 (tgt := 104) (by decide) (fun _ => ?_) (fun h9 => absurd (by decide) h9)
  refine lv_iload hx hb jd_J6_getChars_ba4f3_104 (lv_at hl 4 rfl) ?_
  refine lv_if_eq hx hb jd_J6_getChars_ba4f3_106 (tgt := 118) (by decide) (fun _ => ?_) (fun h9 => absurd rfl h9)
  refine lv_iload hx hb jd_J6_getChars_ba4f3_118 (lv_at hl 0 rfl) ?_
  exact j_iret B jd_J6_getChars_ba4f3_120 rfl (by first | rfl | decide) (jg3 hf hd9 h0 h1) (Nat.le_of_ble_eq_true rfl) (Nat.le_of_ble_eq_true rfl) hP hD hS
theorem jt_getC (l : Launch) (E0 : KE) (x p b m : Nat) (f : Nat → Int32) (hf : sb_Fit f) (hm : m ≤ 34) (hp : p ≤ m) (hd : (dgs x).length ≤ p) (h : x < 200) : JC l E0 yJ6_getChars_ba4f3 mzJ6_getChars_ba4f3 [.int (nI x), .int (nI p), .ref b] [(b, .inl (E0.2.2 4, m, .inl f))] (fun v w => ∃ f2 : Nat → Int32, v = some (.int (nI (p - (dgs x).length))) ∧ w = [(b, .inl (E0.2.2 4, m, .inl f2))] ∧ sb_Fit f2 ∧ (∀ i, i < p - (dgs x).length → f2 i = f i) ∧ ∀ i, i < (dgs x).length → f2 (p - (dgs x).length + i) = nI ((dgs x).getD i 0)) := by
  by_cases h1 : x < 10
  · exact jt_getC1 l E0 x p b m f hf hm hp hd h1
  · by_cases h2 : x < 100
    · exact jt_getC2 l E0 x p b m f hf hm hp hd (by omega) h2
    · exact jt_getC3 l E0 x p b m f hf hm hp hd (by omega) h
theorem jd_J5_append_cf1ce_0 : decode cJ5_append_cf1ce 0 = .ok (.aload_n 1, 1) := by decide +kernel
theorem jd_J5_append_cf1ce_1 : decode cJ5_append_cf1ce 1 = .ok (.ifnonnull 8, 3) := by decide +kernel
theorem jd_J5_append_cf1ce_9 : decode cJ5_append_cf1ce 9 = .ok (.aload_n 1, 1) := by decide +kernel
theorem jd_J5_append_cf1ce_10 : decode cJ5_append_cf1ce 10 = .ok (.invokevirtual 32, 3) := by decide +kernel
theorem jse_J0_length_8abf5 : Cond.selects RJ0 yJ0_length_8abf5 yJ0_length_8abf5 ∈ kg := kg_in 374 (by decide +kernel) (by decide +kernel)
theorem yk_J0_length_8abf5 : KMW yJ0_length_8abf5 mzJ0_length_8abf5 0 := ⟨⟨by decide +kernel, by decide +kernel, by decide +kernel⟩, ⟨rfl, rfl⟩, kg_in 63 (by decide +kernel) (by decide +kernel), kg_in 375 (by decide +kernel) (by decide +kernel)⟩
theorem jl_J5_32 : Cond.methodLink RJ5 32 yJ0_length_8abf5 ∈ kg := kg_in 1245 (by decide +kernel) (by decide +kernel)
theorem ji_J0_length_8abf5 : Cond.instanceMethod yJ0_length_8abf5 ∈ kg := kg_in 373 (by decide +kernel) (by decide +kernel)
theorem jd_J5_append_cf1ce_13 : decode cJ5_append_cf1ce 13 = .ok (.istore_n 2, 1) := by decide +kernel
theorem jd_J5_append_cf1ce_14 : decode cJ5_append_cf1ce 14 = .ok (.aload_n 0, 1) := by decide +kernel
theorem jd_J5_append_cf1ce_15 : decode cJ5_append_cf1ce 15 = .ok (.aload_n 0, 1) := by decide +kernel
theorem jd_J5_append_cf1ce_16 : decode cJ5_append_cf1ce 16 = .ok (.getfield 79, 3) := by decide +kernel
theorem jf_J5_79 : Cond.fieldLink RJ5 79 "java/lang/AbstractStringBuilder" "count" "I" ∈ kg := kg_in 1175 (by decide +kernel) (by decide +kernel)
theorem jd_J5_append_cf1ce_19 : decode cJ5_append_cf1ce 19 = .ok (.iload_n 2, 1) := by decide +kernel
theorem jd_J5_append_cf1ce_20 : decode cJ5_append_cf1ce 20 = .ok (.iadd, 1) := by decide +kernel
theorem jd_J5_append_cf1ce_21 : decode cJ5_append_cf1ce 21 = .ok (.invokevirtual 100, 3) := by decide +kernel
theorem yk_J5_ensureCapacityInternal_d00df : KMW yJ5_ensureCapacityInternal_d00df mzJ5_ensureCapacityInternal_d00df 1 := ⟨⟨by decide +kernel, by decide +kernel, by decide +kernel⟩, ⟨rfl, rfl⟩, kg_in 61 (by decide +kernel) (by decide +kernel), kg_in 1199 (by decide +kernel) (by decide +kernel)⟩
theorem jl_J5_100 : Cond.methodLink RJ5 100 yJ5_ensureCapacityInternal_d00df ∈ kg := kg_in 1196 (by decide +kernel) (by decide +kernel)
theorem ji_J5_ensureCapacityInternal_d00df : Cond.instanceMethod yJ5_ensureCapacityInternal_d00df ∈ kg := kg_in 1198 (by decide +kernel) (by decide +kernel)
theorem jd_J5_append_cf1ce_24 : decode cJ5_append_cf1ce 24 = .ok (.aload_n 0, 1) := by decide +kernel
theorem jd_J5_append_cf1ce_25 : decode cJ5_append_cf1ce 25 = .ok (.aload_n 0, 1) := by decide +kernel
theorem jd_J5_append_cf1ce_26 : decode cJ5_append_cf1ce 26 = .ok (.getfield 79, 3) := by decide +kernel
theorem jd_J5_append_cf1ce_29 : decode cJ5_append_cf1ce 29 = .ok (.aload_n 1, 1) := by decide +kernel
theorem jd_J5_append_cf1ce_30 : decode cJ5_append_cf1ce 30 = .ok (.invokevirtual 208, 3) := by decide +kernel
theorem yk_J5_putStringAt_47b60 : KMW yJ5_putStringAt_47b60 mzJ5_putStringAt_47b60 2 := ⟨⟨by decide +kernel, by decide +kernel, by decide +kernel⟩, ⟨rfl, rfl⟩, kg_in 61 (by decide +kernel) (by decide +kernel), kg_in 1249 (by decide +kernel) (by decide +kernel)⟩
theorem jl_J5_208 : Cond.methodLink RJ5 208 yJ5_putStringAt_47b60 ∈ kg := kg_in 1246 (by decide +kernel) (by decide +kernel)
theorem ji_J5_putStringAt_47b60 : Cond.instanceMethod yJ5_putStringAt_47b60 ∈ kg := kg_in 1248 (by decide +kernel) (by decide +kernel)
theorem jd_J5_append_cf1ce_33 : decode cJ5_append_cf1ce 33 = .ok (.aload_n 0, 1) := by decide +kernel
theorem jd_J5_append_cf1ce_34 : decode cJ5_append_cf1ce 34 = .ok (.dup, 1) := by decide +kernel
theorem jd_J5_append_cf1ce_35 : decode cJ5_append_cf1ce 35 = .ok (.getfield 79, 3) := by decide +kernel
theorem jd_J5_append_cf1ce_38 : decode cJ5_append_cf1ce 38 = .ok (.iload_n 2, 1) := by decide +kernel
theorem jd_J5_append_cf1ce_39 : decode cJ5_append_cf1ce 39 = .ok (.iadd, 1) := by decide +kernel
theorem jd_J5_append_cf1ce_40 : decode cJ5_append_cf1ce 40 = .ok (.putfield 79, 3) := by decide +kernel
theorem jd_J5_append_cf1ce_43 : decode cJ5_append_cf1ce 43 = .ok (.aload_n 0, 1) := by decide +kernel
theorem jd_J5_append_cf1ce_44 : decode cJ5_append_cf1ce 44 = .ok (.areturn, 1) := by decide +kernel
abbrev mzJ5_append_cf1ce : KM := (RJ5, cJ5_append_cf1ce, 3, (some (.object "java/lang/AbstractStringBuilder")), { frames := 4, cells := 1, slots := 34, locals := 109 }, 1, 34)
set_option maxHeartbeats 1000000 in
set_option maxRecDepth 100000 in
theorem jt_appS5 (l : Launch) (E0 : KE) (a b m : Nat) (f : Nat → Int32) (t : List Nat) (j : Nat) (hj : j < 4) (hm : m = 16 ∨ m = 34) (ht : t.length ≤ m) (hf : sb_Fit f) (hL : ∀ i, i < t.length → f i = nI (t.getD i 0)) (hn : t.length + (jby j).length ≤ 34) : JC l E0 yJ5_append_cf1ce mzJ5_append_cf1ce [.ref a, .ref (E0.2.1 (2020 + j))] [(a, .inr (8, [.ref b, .int 0, .int 0, .int (nI t.length)])), (b, .inl (E0.2.2 4, m, .inl f))] (fun v w => v = some (.ref a) ∧ JT E0 a (t ++ jby j) w) := by
  refine jc_of [(0, .ref a), (1, .ref (E0.2.1 (2020 + j)))] (by decide +kernel) rfl rfl (Nat.le_of_ble_eq_true rfl) ?_
  intro A pr e s mt args below meth c Q B H locs ls hP hD hS hl
  have C := B.1
  have hnm := B.2.1
  obtain ⟨hx, hb, hml, hown, hts, hA, hK, hF⟩ := id C
  refine lv_aload_n hx hb jd_J5_append_cf1ce_0 rfl (lv_at hl 1 rfl) ?_
  refine lv_ifnonnull hx hb jd_J5_append_cf1ce_1 (tgt := 9) (by decide) ?_
  refine lv_aload_n hx hb jd_J5_append_cf1ce_9 rfl (lv_at hl 1 rfl) ?_
  refine j_V (As := []) (st := []) (C0 := RJ0) (ws := ([(a, .inr (8, [.ref b, .int 0, .int 0, .int (nI t.length)])), (b, .inl (E0.2.2 4, m, .inl f))] : va_W)) (wc := []) (wr := ([(a, .inr (8, [.ref b, .int 0, .int 0, .int (nI t.length)])), (b, .inl (E0.2.2 4, m, .inl f))] : va_W)) [] [0, 1] C rfl rfl rfl rfl (by decide) (jt_slen l E0 j hj) jd_J5_append_cf1ce_10 rfl (j_recS hF hS j hj) yk_J0_length_8abf5 jl_J5_32 ji_J0_length_8abf5 (hts _ jse_J0_length_8abf5) ⟨Nat.le_of_ble_eq_true rfl, Nat.le_of_ble_eq_true rfl⟩ (show _ ≤ 8 from Nat.le_of_ble_eq_true rfl) (show _ ∧ _ from ⟨Nat.le_of_ble_eq_true rfl, Nat.le_of_ble_eq_true rfl⟩) hl.1 hP hD hS (fun v w H locs hq hP hD hS => ?_)
  obtain ⟨rfl, rfl⟩ := hq
  have hP : va_P E0.1 vwCl ([(a, .inr (8, [.ref b, .int 0, .int 0, .int (nI t.length)])), (b, .inl (E0.2.2 4, m, .inl f))] : va_W) H := hP
  have hD : va_D A ([(a, .inr (8, [.ref b, .int 0, .int 0, .int (nI t.length)])), (b, .inl (E0.2.2 4, m, .inl f))] : va_W) := hD
  refine W.eq (g2 := F0 mt 13 ls [.int (nI (jby j).length)]) rfl ?_
  refine lv_istore_n (lv' := [(2, .int (nI (jby j).length)), (0, .ref a), (1, .ref (E0.2.1 (2020 + j)))]) hx hb jd_J5_append_cf1ce_13 rfl hl (by decide) rfl (fun ls hl => ?_)
  refine lv_aload_n hx hb jd_J5_append_cf1ce_14 rfl (lv_at hl 1 rfl) ?_
  refine lv_aload_n hx hb jd_J5_append_cf1ce_15 rfl (lv_at hl 1 rfl) ?_
  refine va_get (D := E0.1) (ci := 8) (v := .int (nI t.length)) (C := RJ4) (T := TJ4) (N := 4) hx hb hts (kcl_ws 8 _ rfl) hown hK hP 0 rfl rfl 3 (by decide) (hts _ jf_J5_79) (fun _ h9 => h9) rfl jd_J5_append_cf1ce_16 ?_
  refine lv_iload_n hx hb jd_J5_append_cf1ce_19 rfl (lv_at hl 0 rfl) ?_
  refine lv_iadd hx hb jd_J5_append_cf1ce_20 ?_
  refine j_i (x' := (nI (t.length + (jby j).length))) (nI_add _ _) ?_
  refine j_V (As := [.int (nI (t.length + (jby j).length))]) (st := []) (C0 := RJ4) (ws := ([(a, .inr (8, [.ref b, .int 0, .int 0, .int (nI t.length)])), (b, .inl (E0.2.2 4, m, .inl f))] : va_W)) (wc := [(a, .inr (8, [.ref b, .int 0, .int 0, .int (nI t.length)])), (b, .inl (E0.2.2 4, m, .inl f))]) (wr := ([] : va_W)) [0, 1] [] C rfl rfl rfl rfl (by decide) (jt_ens l E0 a b (nI t.length) m f (t.length + (jby j).length) hf hm hn) jd_J5_append_cf1ce_21 rfl (va_recv (ci := 8) (q := (RJ4, TJ4, 4)) (q0 := 0) hK hP rfl rfl) yk_J5_ensureCapacityInternal_d00df jl_J5_100 ji_J5_ensureCapacityInternal_d00df (j_selM (List.mem_of_getElem? (i := 0) rfl) hF) ⟨Nat.le_of_ble_eq_true rfl, Nat.le_of_ble_eq_true rfl⟩ (show _ ≤ 8 from Nat.le_of_ble_eq_true rfl) (show _ ∧ _ from ⟨Nat.le_of_ble_eq_true rfl, Nat.le_of_ble_eq_true rfl⟩) hl.1 hP hD hS (fun v w H locs hq hP hD hS => ?_)
  obtain ⟨b2, m2, f2, rfl, rfl, hm2, hq2, hf2, hk2⟩ := hq
  have hP : va_P E0.1 vwCl ([(a, .inr (8, [.ref b2, .int 0, .int 0, .int (nI t.length)])), (b2, .inl (E0.2.2 4, m2, .inl f2))] : va_W) H := hP
  have hD : va_D A ([(a, .inr (8, [.ref b2, .int 0, .int 0, .int (nI t.length)])), (b2, .inl (E0.2.2 4, m2, .inl f2))] : va_W) := hD
  refine W.eq (g2 := F0 mt 24 ls []) rfl ?_
  refine lv_aload_n hx hb jd_J5_append_cf1ce_24 rfl (lv_at hl 1 rfl) ?_
  refine lv_aload_n hx hb jd_J5_append_cf1ce_25 rfl (lv_at hl 1 rfl) ?_
  refine va_get (D := E0.1) (ci := 8) (v := .int (nI t.length)) (C := RJ4) (T := TJ4) (N := 4) hx hb hts (kcl_ws 8 _ rfl) hown hK hP 0 rfl rfl 3 (by decide) (hts _ jf_J5_79) (fun _ h9 => h9) rfl jd_J5_append_cf1ce_26 ?_
  refine lv_aload_n hx hb jd_J5_append_cf1ce_29 rfl (lv_at hl 2 rfl) ?_
  refine j_V (As := [.int (nI t.length), .ref (E0.2.1 (2020 + j))]) (st := []) (C0 := RJ4) (ws := ([(a, .inr (8, [.ref b2, .int 0, .int 0, .int (nI t.length)])), (b2, .inl (E0.2.2 4, m2, .inl f2))] : va_W)) (wc := [(a, .inr (8, [.ref b2, .int 0, .int 0, .int (nI t.length)])), (b2, .inl (E0.2.2 4, m2, .inl f2))]) (wr := ([] : va_W)) [0, 1] [] C rfl rfl rfl rfl (by decide) (jt_putS l E0 a b2 (nI t.length) m2 f2 t.length j hj (by omega) hq2) jd_J5_append_cf1ce_30 rfl (va_recv (ci := 8) (q := (RJ4, TJ4, 4)) (q0 := 0) hK hP rfl rfl) yk_J5_putStringAt_47b60 jl_J5_208 ji_J5_putStringAt_47b60 (j_selM (List.mem_of_getElem? (i := 2) rfl) hF) ⟨Nat.le_of_ble_eq_true rfl, Nat.le_of_ble_eq_true rfl⟩ (show _ ≤ 8 from Nat.le_of_ble_eq_true rfl) (show _ ∧ _ from ⟨Nat.le_of_ble_eq_true rfl, Nat.le_of_ble_eq_true rfl⟩) hl.1 hP hD hS (fun v w H locs hq hP hD hS => ?_)
  obtain ⟨rfl, rfl⟩ := hq
  have hP : va_P E0.1 vwCl ([(a, .inr (8, [.ref b2, .int 0, .int 0, .int (nI t.length)])), (b2, .inl (E0.2.2 4, m2, .inl (va_cpy (fun i => nI ((jby j).getD i 0)) f2 0 t.length (jby j).length)))] : va_W) H := hP
  have hD : va_D A ([(a, .inr (8, [.ref b2, .int 0, .int 0, .int (nI t.length)])), (b2, .inl (E0.2.2 4, m2, .inl (va_cpy (fun i => nI ((jby j).getD i 0)) f2 0 t.length (jby j).length)))] : va_W) := hD
  refine W.eq (g2 := F0 mt 33 ls []) rfl ?_
  refine lv_aload_n hx hb jd_J5_append_cf1ce_33 rfl (lv_at hl 1 rfl) ?_
  refine lv_dup hx hb jd_J5_append_cf1ce_34 rfl ?_
  refine va_get (D := E0.1) (ci := 8) (v := .int (nI t.length)) (C := RJ4) (T := TJ4) (N := 4) hx hb hts (kcl_ws 8 _ rfl) hown hK hP 0 rfl rfl 3 (by decide) (hts _ jf_J5_79) (fun _ h9 => h9) rfl jd_J5_append_cf1ce_35 ?_
  refine lv_iload_n hx hb jd_J5_append_cf1ce_38 rfl (lv_at hl 0 rfl) ?_
  refine lv_iadd hx hb jd_J5_append_cf1ce_39 ?_
  refine j_i (x' := (nI (t.length + (jby j).length))) (nI_add _ _) ?_
  refine va_put (D := E0.1) (ci := 8) (v := .int (nI (t.length + (jby j).length))) (ty := .int) (C := RJ4) (T := TJ4) (N := 4) hx hb hts (kcl_ws 8 _ rfl) tyJ4 tyJ4_ok nmJ4 hown hK hP hD hS 0 rfl rfl 3 (by decide) (hts _ jf_J5_79) (fun _ h9 => h9) rfl rfl rfl rfl (show _ < List.length _ from Nat.le_of_ble_eq_true rfl) jd_J5_append_cf1ce_40 (fun H locs hP hD hS => ?_)
  have hP : va_P E0.1 vwCl ([(a, .inr (8, [.ref b2, .int 0, .int 0, .int (nI (t.length + (jby j).length))])), (b2, .inl (E0.2.2 4, m2, .inl (va_cpy (fun i => nI ((jby j).getD i 0)) f2 0 t.length (jby j).length)))] : va_W) H := hP
  have hD : va_D A ([(a, .inr (8, [.ref b2, .int 0, .int 0, .int (nI (t.length + (jby j).length))])), (b2, .inl (E0.2.2 4, m2, .inl (va_cpy (fun i => nI ((jby j).getD i 0)) f2 0 t.length (jby j).length)))] : va_W) := hD
  refine lv_aload_n hx hb jd_J5_append_cf1ce_43 rfl (lv_at hl 1 rfl) ?_
  exact j_aret B jd_J5_append_cf1ce_44 rfl (.inl ⟨_, rfl⟩) (⟨rfl, b2, m2, (va_cpy (fun i => nI ((jby j).getD i 0)) f2 0 t.length (jby j).length), by rw [List.length_append], hm2, by rw [List.length_append]; exact hq2, sb_fitC (jby_fit j) hf2, j_cat hL ht hk2 (fun i hi => pk_cpy_out (by omega)) (fun i hi => by rw [pk_cpy_in (by omega) (by omega), Nat.zero_add, Nat.add_sub_cancel_left])⟩) (Nat.le_of_ble_eq_true rfl) (Nat.le_of_ble_eq_true rfl) hP hD hS
theorem jd_J4_append_15ec4_0 : decode cJ4_append_15ec4 0 = .ok (.aload_n 0, 1) := by decide +kernel
theorem jd_J4_append_15ec4_1 : decode cJ4_append_15ec4 1 = .ok (.aload_n 1, 1) := by decide +kernel
theorem jd_J4_append_15ec4_2 : decode cJ4_append_15ec4 2 = .ok (.invokespecial 29, 3) := by decide +kernel
theorem jm_J5_append_cf1ce : Cond.sameMethod yJ5_append_cf1ce.cls yJ5_append_cf1ce.cls yJ5_append_cf1ce.name yJ5_append_cf1ce.desc ∈ kg := kg_in 1367 (by decide +kernel) (by decide +kernel)
theorem jsup : Cond.superclass RJ4 RJ5 ∈ kg := kg_in 1184 (by decide +kernel) (by decide +kernel)
theorem nI_J4 : Cond.instantiable RJ4 4 ∈ kg := kg_in 1156 (by decide +kernel) (by decide +kernel)
theorem yk_J5_append_cf1ce : KMW yJ5_append_cf1ce mzJ5_append_cf1ce 1 := ⟨⟨by decide +kernel, by decide +kernel, by decide +kernel⟩, ⟨rfl, rfl⟩, kg_in 61 (by decide +kernel) (by decide +kernel), kg_in 1191 (by decide +kernel) (by decide +kernel)⟩
theorem jl_J4_29 : Cond.methodLink RJ4 29 yJ5_append_cf1ce ∈ kg := kg_in 1189 (by decide +kernel) (by decide +kernel)
theorem ji_J5_append_cf1ce : Cond.instanceMethod yJ5_append_cf1ce ∈ kg := kg_in 1190 (by decide +kernel) (by decide +kernel)
theorem jd_J4_append_15ec4_5 : decode cJ4_append_15ec4 5 = .ok (.pop, 1) := by decide +kernel
theorem jd_J4_append_15ec4_6 : decode cJ4_append_15ec4 6 = .ok (.aload_n 0, 1) := by decide +kernel
theorem jd_J4_append_15ec4_7 : decode cJ4_append_15ec4 7 = .ok (.areturn, 1) := by decide +kernel
abbrev mzJ4_append_15ec4 : KM := (RJ4, cJ4_append_15ec4, 2, (some (.object "java/lang/StringBuilder")), { frames := 5, cells := 1, slots := 34, locals := 131 }, 1, 34)
set_option maxHeartbeats 1000000 in
set_option maxRecDepth 100000 in
theorem jt_appS (l : Launch) (E0 : KE) (a b m : Nat) (f : Nat → Int32) (t : List Nat) (j : Nat) (hj : j < 4) (hm : m = 16 ∨ m = 34) (ht : t.length ≤ m) (hf : sb_Fit f) (hL : ∀ i, i < t.length → f i = nI (t.getD i 0)) (hn : t.length + (jby j).length ≤ 34) : JC l E0 yJ4_append_15ec4 mzJ4_append_15ec4 [.ref a, .ref (E0.2.1 (2020 + j))] [(a, .inr (8, [.ref b, .int 0, .int 0, .int (nI t.length)])), (b, .inl (E0.2.2 4, m, .inl f))] (fun v w => v = some (.ref a) ∧ JT E0 a (t ++ jby j) w) := by
  refine jc_of [(0, .ref a), (1, .ref (E0.2.1 (2020 + j)))] (by decide +kernel) rfl rfl (Nat.le_of_ble_eq_true rfl) ?_
  intro A pr e s mt args below meth c Q B H locs ls hP hD hS hl
  have C := B.1
  have hnm := B.2.1
  obtain ⟨hx, hb, hml, hown, hts, hA, hK, hF⟩ := id C
  refine lv_aload_n hx hb jd_J4_append_15ec4_0 rfl (lv_at hl 0 rfl) ?_
  refine lv_aload_n hx hb jd_J4_append_15ec4_1 rfl (lv_at hl 1 rfl) ?_
  refine j_U (As := [.ref (E0.2.1 (2020 + j))]) (st := []) (C0 := RJ4) (ws := ([(a, .inr (8, [.ref b, .int 0, .int 0, .int (nI t.length)])), (b, .inl (E0.2.2 4, m, .inl f))] : va_W)) (wc := [(a, .inr (8, [.ref b, .int 0, .int 0, .int (nI t.length)])), (b, .inl (E0.2.2 4, m, .inl f))]) (wr := ([] : va_W)) [0, 1] [] C rfl rfl rfl rfl (by decide) (jt_appS5 l E0 a b m f t j hj hm ht hf hL hn) jd_J4_append_15ec4_2 rfl (va_recv (ci := 8) (q := (RJ4, TJ4, 4)) (q0 := 0) hK hP rfl rfl) yk_J5_append_cf1ce jl_J4_29 ji_J5_append_cf1ce (by decide) nI_J4 jm_J5_append_cf1ce jsup ⟨Nat.le_of_ble_eq_true rfl, Nat.le_of_ble_eq_true rfl⟩ (show _ ≤ 8 from Nat.le_of_ble_eq_true rfl) (show _ ∧ _ from ⟨Nat.le_of_ble_eq_true rfl, Nat.le_of_ble_eq_true rfl⟩) hl.1 hP hD hS (fun v w H locs hq hP hD hS => ?_)
  obtain ⟨rfl, b2, m2, f2, rfl, hm2, ht2, hf2, hL2⟩ := hq
  have hP : va_P E0.1 vwCl ([(a, .inr (8, [.ref b2, .int 0, .int 0, .int (nI (t ++ jby j).length)])), (b2, .inl (E0.2.2 4, m2, .inl f2))] : va_W) H := hP
  have hD : va_D A ([(a, .inr (8, [.ref b2, .int 0, .int 0, .int (nI (t ++ jby j).length)])), (b2, .inl (E0.2.2 4, m2, .inl f2))] : va_W) := hD
  refine W.eq (g2 := F0 mt 5 ls [.ref a]) rfl ?_
  refine lv_pop hx hb jd_J4_append_15ec4_5 rfl ?_
  refine lv_aload_n hx hb jd_J4_append_15ec4_6 rfl (lv_at hl 0 rfl) ?_
  exact j_aret B jd_J4_append_15ec4_7 rfl (.inl ⟨_, rfl⟩) (⟨rfl, b2, m2, f2, rfl, hm2, ht2, hf2, hL2⟩) (Nat.le_of_ble_eq_true rfl) (Nat.le_of_ble_eq_true rfl) hP hD hS
theorem jd_J5_append_c97b9_0 : decode cJ5_append_c97b9 0 = .ok (.aload_n 0, 1) := by decide +kernel
theorem jd_J5_append_c97b9_1 : decode cJ5_append_c97b9 1 = .ok (.getfield 79, 3) := by decide +kernel
theorem jd_J5_append_c97b9_4 : decode cJ5_append_c97b9 4 = .ok (.istore_n 2, 1) := by decide +kernel
theorem jd_J5_append_c97b9_5 : decode cJ5_append_c97b9 5 = .ok (.iload_n 2, 1) := by decide +kernel
theorem jd_J5_append_c97b9_6 : decode cJ5_append_c97b9 6 = .ok (.iload_n 1, 1) := by decide +kernel
theorem jd_J5_append_c97b9_7 : decode cJ5_append_c97b9 7 = .ok (.invokestatic 245, 3) := by decide +kernel
theorem yk_J6_stringSize_0f7a4 : KMW yJ6_stringSize_0f7a4 mzJ6_stringSize_0f7a4 1 := ⟨⟨by decide +kernel, by decide +kernel, by decide +kernel⟩, ⟨rfl, rfl⟩, kg_in 69 (by decide +kernel) (by decide +kernel), kg_in 1289 (by decide +kernel) (by decide +kernel)⟩
theorem jl_J5_245 : Cond.methodLink RJ5 245 yJ6_stringSize_0f7a4 ∈ kg := kg_in 1287 (by decide +kernel) (by decide +kernel)
theorem js_J6_stringSize_0f7a4 : Cond.static yJ6_stringSize_0f7a4 ∈ kg := kg_in 1288 (by decide +kernel) (by decide +kernel)
theorem jd_J5_append_c97b9_10 : decode cJ5_append_c97b9 10 = .ok (.iadd, 1) := by decide +kernel
theorem jd_J5_append_c97b9_11 : decode cJ5_append_c97b9 11 = .ok (.istore_n 3, 1) := by decide +kernel
theorem jd_J5_append_c97b9_12 : decode cJ5_append_c97b9 12 = .ok (.aload_n 0, 1) := by decide +kernel
theorem jd_J5_append_c97b9_13 : decode cJ5_append_c97b9 13 = .ok (.iload_n 3, 1) := by decide +kernel
theorem jd_J5_append_c97b9_14 : decode cJ5_append_c97b9 14 = .ok (.invokevirtual 100, 3) := by decide +kernel
theorem jd_J5_append_c97b9_17 : decode cJ5_append_c97b9 17 = .ok (.aload_n 0, 1) := by decide +kernel
theorem jd_J5_append_c97b9_18 : decode cJ5_append_c97b9 18 = .ok (.invokevirtual 83, 3) := by decide +kernel
theorem jse_J5_isLatin1_aae02 : Cond.selects RJ4 yJ5_isLatin1_aae02 yJ5_isLatin1_aae02 ∈ kg := kg_in 1228 (by decide +kernel) (by decide +kernel)
theorem yk_J5_isLatin1_aae02 : KMW yJ5_isLatin1_aae02 mzJ5_isLatin1_aae02 0 := ⟨⟨by decide +kernel, by decide +kernel, by decide +kernel⟩, ⟨rfl, rfl⟩, kg_in 61 (by decide +kernel) (by decide +kernel), kg_in 1229 (by decide +kernel) (by decide +kernel)⟩
theorem jl_J5_83 : Cond.methodLink RJ5 83 yJ5_isLatin1_aae02 ∈ kg := kg_in 1225 (by decide +kernel) (by decide +kernel)
theorem ji_J5_isLatin1_aae02 : Cond.instanceMethod yJ5_isLatin1_aae02 ∈ kg := kg_in 1226 (by decide +kernel) (by decide +kernel)
theorem jd_J5_append_c97b9_21 : decode cJ5_append_c97b9 21 = .ok (.ifCond .eq 16, 3) := by decide +kernel
theorem jd_J5_append_c97b9_24 : decode cJ5_append_c97b9 24 = .ok (.iload_n 1, 1) := by decide +kernel
theorem jd_J5_append_c97b9_25 : decode cJ5_append_c97b9 25 = .ok (.iload_n 3, 1) := by decide +kernel
theorem jd_J5_append_c97b9_26 : decode cJ5_append_c97b9 26 = .ok (.aload_n 0, 1) := by decide +kernel
theorem jd_J5_append_c97b9_27 : decode cJ5_append_c97b9 27 = .ok (.getfield 15, 3) := by decide +kernel
theorem jd_J5_append_c97b9_30 : decode cJ5_append_c97b9 30 = .ok (.invokestatic 248, 3) := by decide +kernel
theorem yk_J6_getChars_ba4f3 : KMW yJ6_getChars_ba4f3 mzJ6_getChars_ba4f3 3 := ⟨⟨by decide +kernel, by decide +kernel, by decide +kernel⟩, ⟨rfl, rfl⟩, kg_in 69 (by decide +kernel) (by decide +kernel), kg_in 1292 (by decide +kernel) (by decide +kernel)⟩
theorem jl_J5_248 : Cond.methodLink RJ5 248 yJ6_getChars_ba4f3 ∈ kg := kg_in 1290 (by decide +kernel) (by decide +kernel)
theorem js_J6_getChars_ba4f3 : Cond.static yJ6_getChars_ba4f3 ∈ kg := kg_in 1291 (by decide +kernel) (by decide +kernel)
theorem jd_J5_append_c97b9_33 : decode cJ5_append_c97b9 33 = .ok (.pop, 1) := by decide +kernel
theorem jd_J5_append_c97b9_34 : decode cJ5_append_c97b9 34 = .ok (.goto 14, 3) := by decide +kernel
theorem jd_J5_append_c97b9_48 : decode cJ5_append_c97b9 48 = .ok (.aload_n 0, 1) := by decide +kernel
theorem jd_J5_append_c97b9_49 : decode cJ5_append_c97b9 49 = .ok (.iload_n 3, 1) := by decide +kernel
theorem jd_J5_append_c97b9_50 : decode cJ5_append_c97b9 50 = .ok (.putfield 79, 3) := by decide +kernel
theorem jd_J5_append_c97b9_53 : decode cJ5_append_c97b9 53 = .ok (.aload_n 0, 1) := by decide +kernel
theorem jd_J5_append_c97b9_54 : decode cJ5_append_c97b9 54 = .ok (.areturn, 1) := by decide +kernel
abbrev mzJ5_append_c97b9 : KM := (RJ5, cJ5_append_c97b9, 4, (some (.object "java/lang/AbstractStringBuilder")), { frames := 4, cells := 1, slots := 34, locals := 108 }, 1, 34)
set_option maxHeartbeats 1000000 in
set_option maxRecDepth 100000 in
theorem jt_appI5 (l : Launch) (E0 : KE) (a b m : Nat) (f : Nat → Int32) (t : List Nat) (x : Nat) (h1 : x < 200) (hm : m = 16 ∨ m = 34) (ht : t.length ≤ m) (hf : sb_Fit f) (hL : ∀ i, i < t.length → f i = nI (t.getD i 0)) (hn : t.length + (dgs x).length ≤ 34) : JC l E0 yJ5_append_c97b9 mzJ5_append_c97b9 [.ref a, .int (nI x)] [(a, .inr (8, [.ref b, .int 0, .int 0, .int (nI t.length)])), (b, .inl (E0.2.2 4, m, .inl f))] (fun v w => v = some (.ref a) ∧ JT E0 a (t ++ dgs x) w) := by
  refine jc_of [(0, .ref a), (1, .int (nI x))] (by decide +kernel) rfl rfl (Nat.le_of_ble_eq_true rfl) ?_
  intro A pr e s mt args below meth c Q B H locs ls hP hD hS hl
  have C := B.1
  have hnm := B.2.1
  obtain ⟨hx, hb, hml, hown, hts, hA, hK, hF⟩ := id C
  refine lv_aload_n hx hb jd_J5_append_c97b9_0 rfl (lv_at hl 0 rfl) ?_
  refine va_get (D := E0.1) (ci := 8) (v := .int (nI t.length)) (C := RJ4) (T := TJ4) (N := 4) hx hb hts (kcl_ws 8 _ rfl) hown hK hP 0 rfl rfl 3 (by decide) (hts _ jf_J5_79) (fun _ h9 => h9) rfl jd_J5_append_c97b9_1 ?_
  refine lv_istore_n (lv' := [(2, .int (nI t.length)), (0, .ref a), (1, .int (nI x))]) hx hb jd_J5_append_c97b9_4 rfl hl (by decide) rfl (fun ls hl => ?_)
  refine lv_iload_n hx hb jd_J5_append_c97b9_5 rfl (lv_at hl 0 rfl) ?_
  refine lv_iload_n hx hb jd_J5_append_c97b9_6 rfl (lv_at hl 2 rfl) ?_
  refine j_S (As := [.int (nI x)]) (st := [.int (nI t.length)]) (ws := ([(a, .inr (8, [.ref b, .int 0, .int 0, .int (nI t.length)])), (b, .inl (E0.2.2 4, m, .inl f))] : va_W)) (wc := []) (wr := ([(a, .inr (8, [.ref b, .int 0, .int 0, .int (nI t.length)])), (b, .inl (E0.2.2 4, m, .inl f))] : va_W)) [] [0, 1] C rfl rfl rfl rfl (by decide) (jt_size l E0 x h1) jd_J5_append_c97b9_7 rfl yk_J6_stringSize_0f7a4 jl_J5_245 js_J6_stringSize_0f7a4 ⟨Nat.le_of_ble_eq_true rfl, Nat.le_of_ble_eq_true rfl⟩ (show _ ≤ 8 from Nat.le_of_ble_eq_true rfl) (show _ ∧ _ from ⟨Nat.le_of_ble_eq_true rfl, Nat.le_of_ble_eq_true rfl⟩) hl.1 hP hD hS (fun v w H locs hq hP hD hS => ?_)
  obtain ⟨rfl, rfl⟩ := hq
  have hP : va_P E0.1 vwCl ([(a, .inr (8, [.ref b, .int 0, .int 0, .int (nI t.length)])), (b, .inl (E0.2.2 4, m, .inl f))] : va_W) H := hP
  have hD : va_D A ([(a, .inr (8, [.ref b, .int 0, .int 0, .int (nI t.length)])), (b, .inl (E0.2.2 4, m, .inl f))] : va_W) := hD
  refine W.eq (g2 := F0 mt 10 ls [.int (nI (dgs x).length), .int (nI t.length)]) rfl ?_
  refine lv_iadd hx hb jd_J5_append_c97b9_10 ?_
  refine j_i (x' := (nI (t.length + (dgs x).length))) (nI_add _ _) ?_
  refine lv_istore_n (lv' := [(3, .int (nI (t.length + (dgs x).length))), (2, .int (nI t.length)), (0, .ref a), (1, .int (nI x))]) hx hb jd_J5_append_c97b9_11 rfl hl (by decide) rfl (fun ls hl => ?_)
  refine lv_aload_n hx hb jd_J5_append_c97b9_12 rfl (lv_at hl 2 rfl) ?_
  refine lv_iload_n hx hb jd_J5_append_c97b9_13 rfl (lv_at hl 0 rfl) ?_
  refine j_V (As := [.int (nI (t.length + (dgs x).length))]) (st := []) (C0 := RJ4) (ws := ([(a, .inr (8, [.ref b, .int 0, .int 0, .int (nI t.length)])), (b, .inl (E0.2.2 4, m, .inl f))] : va_W)) (wc := [(a, .inr (8, [.ref b, .int 0, .int 0, .int (nI t.length)])), (b, .inl (E0.2.2 4, m, .inl f))]) (wr := ([] : va_W)) [0, 1] [] C rfl rfl rfl rfl (by decide) (jt_ens l E0 a b (nI t.length) m f (t.length + (dgs x).length) hf hm hn) jd_J5_append_c97b9_14 rfl (va_recv (ci := 8) (q := (RJ4, TJ4, 4)) (q0 := 0) hK hP rfl rfl) yk_J5_ensureCapacityInternal_d00df jl_J5_100 ji_J5_ensureCapacityInternal_d00df (j_selM (List.mem_of_getElem? (i := 0) rfl) hF) ⟨Nat.le_of_ble_eq_true rfl, Nat.le_of_ble_eq_true rfl⟩ (show _ ≤ 8 from Nat.le_of_ble_eq_true rfl) (show _ ∧ _ from ⟨Nat.le_of_ble_eq_true rfl, Nat.le_of_ble_eq_true rfl⟩) hl.1 hP hD hS (fun v w H locs hq hP hD hS => ?_)
  obtain ⟨b2, m2, f2, rfl, rfl, hm2, hq2, hf2, hk2⟩ := hq
  have hP : va_P E0.1 vwCl ([(a, .inr (8, [.ref b2, .int 0, .int 0, .int (nI t.length)])), (b2, .inl (E0.2.2 4, m2, .inl f2))] : va_W) H := hP
  have hD : va_D A ([(a, .inr (8, [.ref b2, .int 0, .int 0, .int (nI t.length)])), (b2, .inl (E0.2.2 4, m2, .inl f2))] : va_W) := hD
  refine W.eq (g2 := F0 mt 17 ls []) rfl ?_
  refine lv_aload_n hx hb jd_J5_append_c97b9_17 rfl (lv_at hl 2 rfl) ?_
  refine j_V (As := []) (st := []) (C0 := RJ4) (ws := ([(a, .inr (8, [.ref b2, .int 0, .int 0, .int (nI t.length)])), (b2, .inl (E0.2.2 4, m2, .inl f2))] : va_W)) (wc := [(a, .inr (8, [.ref b2, .int 0, .int 0, .int (nI t.length)])), (b2, .inl (E0.2.2 4, m2, .inl f2))]) (wr := ([] : va_W)) [0, 1] [] C rfl rfl rfl rfl (by decide) (jt_lat l E0 a b2 (nI t.length) m2 f2) jd_J5_append_c97b9_18 rfl (va_recv (ci := 8) (q := (RJ4, TJ4, 4)) (q0 := 0) hK hP rfl rfl) yk_J5_isLatin1_aae02 jl_J5_83 ji_J5_isLatin1_aae02 (hts _ jse_J5_isLatin1_aae02) ⟨Nat.le_of_ble_eq_true rfl, Nat.le_of_ble_eq_true rfl⟩ (show _ ≤ 8 from Nat.le_of_ble_eq_true rfl) (show _ ∧ _ from ⟨Nat.le_of_ble_eq_true rfl, Nat.le_of_ble_eq_true rfl⟩) hl.1 hP hD hS (fun v w H locs hq hP hD hS => ?_)
  obtain ⟨rfl, rfl⟩ := hq
  have hP : va_P E0.1 vwCl ([(a, .inr (8, [.ref b2, .int 0, .int 0, .int (nI t.length)])), (b2, .inl (E0.2.2 4, m2, .inl f2))] : va_W) H := hP
  have hD : va_D A ([(a, .inr (8, [.ref b2, .int 0, .int 0, .int (nI t.length)])), (b2, .inl (E0.2.2 4, m2, .inl f2))] : va_W) := hD
  refine W.eq (g2 := F0 mt 21 ls [.int 1]) rfl ?_
  refine lv_if_eq hx hb jd_J5_append_c97b9_21 (tgt := 37) (by decide) (fun h9 => absurd h9 (by decide)) (fun _ => ?_)
  refine lv_iload_n hx hb jd_J5_append_c97b9_24 rfl (lv_at hl 3 rfl) ?_
  refine lv_iload_n hx hb jd_J5_append_c97b9_25 rfl (lv_at hl 0 rfl) ?_
  refine lv_aload_n hx hb jd_J5_append_c97b9_26 rfl (lv_at hl 2 rfl) ?_
  refine va_get (D := E0.1) (ci := 8) (v := .ref b2) (C := RJ4) (T := TJ4) (N := 4) hx hb hts (kcl_ws 8 _ rfl) hown hK hP 0 rfl rfl 0 (by decide) (hts _ jf_J5_15) (fun _ h9 => h9) rfl jd_J5_append_c97b9_27 ?_
  refine j_S (As := [.int (nI x), .int (nI (t.length + (dgs x).length)), .ref b2]) (st := []) (ws := ([(a, .inr (8, [.ref b2, .int 0, .int 0, .int (nI t.length)])), (b2, .inl (E0.2.2 4, m2, .inl f2))] : va_W)) (wc := [(b2, .inl (E0.2.2 4, m2, .inl f2))]) (wr := ([(a, .inr (8, [.ref b2, .int 0, .int 0, .int (nI t.length)]))] : va_W)) [1] [0] C rfl rfl rfl rfl (by decide) (jt_getC l E0 x (t.length + (dgs x).length) b2 m2 f2 hf2 (by omega) hq2 (by omega) h1) jd_J5_append_c97b9_30 rfl yk_J6_getChars_ba4f3 jl_J5_248 js_J6_getChars_ba4f3 ⟨Nat.le_of_ble_eq_true rfl, Nat.le_of_ble_eq_true rfl⟩ (show _ ≤ 8 from Nat.le_of_ble_eq_true rfl) (show _ ∧ _ from ⟨Nat.le_of_ble_eq_true rfl, Nat.le_of_ble_eq_true rfl⟩) hl.1 hP hD hS (fun v w H locs hq hP hD hS => ?_)
  obtain ⟨f3, rfl, rfl, hf3, hk3, hd3⟩ := hq
  rw [Nat.add_sub_cancel] at hk3 hd3
  have hP : va_P E0.1 vwCl ([(a, .inr (8, [.ref b2, .int 0, .int 0, .int (nI t.length)])), (b2, .inl (E0.2.2 4, m2, .inl f3))] : va_W) H := hP
  have hD : va_D A ([(a, .inr (8, [.ref b2, .int 0, .int 0, .int (nI t.length)])), (b2, .inl (E0.2.2 4, m2, .inl f3))] : va_W) := hD
  refine W.eq (g2 := F0 mt 33 ls [.int (nI (t.length + (dgs x).length - (dgs x).length))]) rfl ?_
  refine lv_pop hx hb jd_J5_append_c97b9_33 rfl ?_
  refine lv_goto hx hb jd_J5_append_c97b9_34 (tgt := 48) (by decide) ?_
  refine lv_aload_n hx hb jd_J5_append_c97b9_48 rfl (lv_at hl 2 rfl) ?_
  refine lv_iload_n hx hb jd_J5_append_c97b9_49 rfl (lv_at hl 0 rfl) ?_
  refine va_put (D := E0.1) (ci := 8) (v := .int (nI (t.length + (dgs x).length))) (ty := .int) (C := RJ4) (T := TJ4) (N := 4) hx hb hts (kcl_ws 8 _ rfl) tyJ4 tyJ4_ok nmJ4 hown hK hP hD hS 0 rfl rfl 3 (by decide) (hts _ jf_J5_79) (fun _ h9 => h9) rfl rfl rfl rfl (show _ < List.length _ from Nat.le_of_ble_eq_true rfl) jd_J5_append_c97b9_50 (fun H locs hP hD hS => ?_)
  have hP : va_P E0.1 vwCl ([(a, .inr (8, [.ref b2, .int 0, .int 0, .int (nI (t.length + (dgs x).length))])), (b2, .inl (E0.2.2 4, m2, .inl f3))] : va_W) H := hP
  have hD : va_D A ([(a, .inr (8, [.ref b2, .int 0, .int 0, .int (nI (t.length + (dgs x).length))])), (b2, .inl (E0.2.2 4, m2, .inl f3))] : va_W) := hD
  refine lv_aload_n hx hb jd_J5_append_c97b9_53 rfl (lv_at hl 2 rfl) ?_
  exact j_aret B jd_J5_append_c97b9_54 rfl (.inl ⟨_, rfl⟩) (⟨rfl, b2, m2, f3, by rw [List.length_append], hm2, by rw [List.length_append]; exact hq2, hf3, j_cat hL ht hk2 hk3 hd3⟩) (Nat.le_of_ble_eq_true rfl) (Nat.le_of_ble_eq_true rfl) hP hD hS
theorem jd_J4_append_bf812_0 : decode cJ4_append_bf812 0 = .ok (.aload_n 0, 1) := by decide +kernel
theorem jd_J4_append_bf812_1 : decode cJ4_append_bf812 1 = .ok (.iload_n 1, 1) := by decide +kernel
theorem jd_J4_append_bf812_2 : decode cJ4_append_bf812 2 = .ok (.invokespecial 53, 3) := by decide +kernel
theorem jm_J5_append_c97b9 : Cond.sameMethod yJ5_append_c97b9.cls yJ5_append_c97b9.cls yJ5_append_c97b9.name yJ5_append_c97b9.desc ∈ kg := kg_in 1374 (by decide +kernel) (by decide +kernel)
theorem yk_J5_append_c97b9 : KMW yJ5_append_c97b9 mzJ5_append_c97b9 1 := ⟨⟨by decide +kernel, by decide +kernel, by decide +kernel⟩, ⟨rfl, rfl⟩, kg_in 61 (by decide +kernel) (by decide +kernel), kg_in 1286 (by decide +kernel) (by decide +kernel)⟩
theorem jl_J4_53 : Cond.methodLink RJ4 53 yJ5_append_c97b9 ∈ kg := kg_in 1284 (by decide +kernel) (by decide +kernel)
theorem ji_J5_append_c97b9 : Cond.instanceMethod yJ5_append_c97b9 ∈ kg := kg_in 1285 (by decide +kernel) (by decide +kernel)
theorem jd_J4_append_bf812_5 : decode cJ4_append_bf812 5 = .ok (.pop, 1) := by decide +kernel
theorem jd_J4_append_bf812_6 : decode cJ4_append_bf812 6 = .ok (.aload_n 0, 1) := by decide +kernel
theorem jd_J4_append_bf812_7 : decode cJ4_append_bf812 7 = .ok (.areturn, 1) := by decide +kernel
abbrev mzJ4_append_bf812 : KM := (RJ4, cJ4_append_bf812, 2, (some (.object "java/lang/StringBuilder")), { frames := 5, cells := 1, slots := 34, locals := 131 }, 1, 34)
set_option maxHeartbeats 1000000 in
set_option maxRecDepth 100000 in
theorem jt_appI (l : Launch) (E0 : KE) (a b m : Nat) (f : Nat → Int32) (t : List Nat) (x : Nat) (h1 : x < 200) (hm : m = 16 ∨ m = 34) (ht : t.length ≤ m) (hf : sb_Fit f) (hL : ∀ i, i < t.length → f i = nI (t.getD i 0)) (hn : t.length + (dgs x).length ≤ 34) : JC l E0 yJ4_append_bf812 mzJ4_append_bf812 [.ref a, .int (nI x)] [(a, .inr (8, [.ref b, .int 0, .int 0, .int (nI t.length)])), (b, .inl (E0.2.2 4, m, .inl f))] (fun v w => v = some (.ref a) ∧ JT E0 a (t ++ dgs x) w) := by
  refine jc_of [(0, .ref a), (1, .int (nI x))] (by decide +kernel) rfl rfl (Nat.le_of_ble_eq_true rfl) ?_
  intro A pr e s mt args below meth c Q B H locs ls hP hD hS hl
  have C := B.1
  have hnm := B.2.1
  obtain ⟨hx, hb, hml, hown, hts, hA, hK, hF⟩ := id C
  refine lv_aload_n hx hb jd_J4_append_bf812_0 rfl (lv_at hl 0 rfl) ?_
  refine lv_iload_n hx hb jd_J4_append_bf812_1 rfl (lv_at hl 1 rfl) ?_
  refine j_U (As := [.int (nI x)]) (st := []) (C0 := RJ4) (ws := ([(a, .inr (8, [.ref b, .int 0, .int 0, .int (nI t.length)])), (b, .inl (E0.2.2 4, m, .inl f))] : va_W)) (wc := [(a, .inr (8, [.ref b, .int 0, .int 0, .int (nI t.length)])), (b, .inl (E0.2.2 4, m, .inl f))]) (wr := ([] : va_W)) [0, 1] [] C rfl rfl rfl rfl (by decide) (jt_appI5 l E0 a b m f t x h1 hm ht hf hL hn) jd_J4_append_bf812_2 rfl (va_recv (ci := 8) (q := (RJ4, TJ4, 4)) (q0 := 0) hK hP rfl rfl) yk_J5_append_c97b9 jl_J4_53 ji_J5_append_c97b9 (by decide) nI_J4 jm_J5_append_c97b9 jsup ⟨Nat.le_of_ble_eq_true rfl, Nat.le_of_ble_eq_true rfl⟩ (show _ ≤ 8 from Nat.le_of_ble_eq_true rfl) (show _ ∧ _ from ⟨Nat.le_of_ble_eq_true rfl, Nat.le_of_ble_eq_true rfl⟩) hl.1 hP hD hS (fun v w H locs hq hP hD hS => ?_)
  obtain ⟨rfl, b2, m2, f2, rfl, hm2, ht2, hf2, hL2⟩ := hq
  have hP : va_P E0.1 vwCl ([(a, .inr (8, [.ref b2, .int 0, .int 0, .int (nI (t ++ dgs x).length)])), (b2, .inl (E0.2.2 4, m2, .inl f2))] : va_W) H := hP
  have hD : va_D A ([(a, .inr (8, [.ref b2, .int 0, .int 0, .int (nI (t ++ dgs x).length)])), (b2, .inl (E0.2.2 4, m2, .inl f2))] : va_W) := hD
  refine W.eq (g2 := F0 mt 5 ls [.ref a]) rfl ?_
  refine lv_pop hx hb jd_J4_append_bf812_5 rfl ?_
  refine lv_aload_n hx hb jd_J4_append_bf812_6 rfl (lv_at hl 0 rfl) ?_
  exact j_aret B jd_J4_append_bf812_7 rfl (.inl ⟨_, rfl⟩) (⟨rfl, b2, m2, f2, rfl, hm2, ht2, hf2, hL2⟩) (Nat.le_of_ble_eq_true rfl) (Nat.le_of_ble_eq_true rfl) hP hD hS
theorem jd_J5_init_d00df_0 : decode cJ5_init_d00df 0 = .ok (.aload_n 0, 1) := by decide +kernel
theorem jd_J5_init_d00df_1 : decode cJ5_init_d00df 1 = .ok (.invokespecial 3, 3) := by decide +kernel
theorem jl_J5_3 : Cond.methodLink RJ5 3 Lib.objectInit ∈ kg := kg_in 1163 (by decide +kernel) (by decide +kernel)
theorem jd_J5_init_d00df_4 : decode cJ5_init_d00df 4 = .ok (.getstatic 18, 3) := by decide +kernel
theorem jd_J5_init_d00df_7 : decode cJ5_init_d00df 7 = .ok (.ifCond .eq 18, 3) := by decide +kernel
theorem jd_J5_init_d00df_10 : decode cJ5_init_d00df 10 = .ok (.aload_n 0, 1) := by decide +kernel
theorem jd_J5_init_d00df_11 : decode cJ5_init_d00df 11 = .ok (.iload_n 1, 1) := by decide +kernel
theorem jd_J5_init_d00df_12 : decode cJ5_init_d00df 12 = .ok (.newarray .byte, 2) := by decide +kernel
theorem jd_J5_init_d00df_14 : decode cJ5_init_d00df 14 = .ok (.putfield 15, 3) := by decide +kernel
theorem jd_J5_init_d00df_17 : decode cJ5_init_d00df 17 = .ok (.aload_n 0, 1) := by decide +kernel
theorem jd_J5_init_d00df_18 : decode cJ5_init_d00df 18 = .ok (.iconst 0, 1) := by decide +kernel
theorem jd_J5_init_d00df_19 : decode cJ5_init_d00df 19 = .ok (.putfield 22, 3) := by decide +kernel
theorem jd_J5_init_d00df_22 : decode cJ5_init_d00df 22 = .ok (.goto 16, 3) := by decide +kernel
theorem jd_J5_init_d00df_38 : decode cJ5_init_d00df 38 = .ok (.return_, 1) := by decide +kernel
abbrev mzJ5_init_d00df : KM := (RJ5, cJ5_init_d00df, 2, none, { frames := 1, cells := 1, slots := 34, locals := 12 }, 1, 34)
set_option maxHeartbeats 1000000 in
set_option maxRecDepth 100000 in
theorem jt_init5 (l : Launch) (E0 : KE) (a : Nat) : JC l E0 yJ5_init_d00df mzJ5_init_d00df [.ref a, .int 16] [(a, .inr (8, [.null, .int 0, .int 0, .int 0]))] (fun v w => ∃ b : Nat, v = none ∧ w = [(a, .inr (8, [.ref b, .int 0, .int 0, .int 0])), (b, .inl (E0.2.2 4, 16, .inl (fun _ => 0)))]) := by
  refine jc_of [(0, .ref a), (1, .int 16)] (by decide +kernel) rfl rfl (Nat.le_of_ble_eq_true rfl) ?_
  intro A pr e s mt args below meth c Q B H locs ls hP hD hS hl
  have C := B.1
  have hnm := B.2.1
  obtain ⟨hx, hb, hml, hown, hts, hA, hK, hF⟩ := id C
  refine lv_aload_n hx hb jd_J5_init_d00df_0 rfl (lv_at hl 0 rfl) ?_
  refine W.objInit hx hb hown (hts _ jl_J5_3) (hts _ io_1) (hts _ io_2) rfl (by rw [hml]; exact hl.1) rfl jd_J5_init_d00df_1 (Nat.le_of_ble_eq_true rfl) (Nat.le_of_ble_eq_true rfl) ?_
  refine W.eq (g2 := F0 mt 4 ls []) rfl ?_
  refine va_gets hx hb hF.1 hS hown (hts _ jf_J5_18) (fun _ h9 => h9) jd_J5_init_d00df_4 ?_
  refine lv_if_eq hx hb jd_J5_init_d00df_7 (tgt := 25) (by decide) (fun h9 => absurd h9 (by decide)) (fun _ => ?_)
  refine lv_aload_n hx hb jd_J5_init_d00df_10 rfl (lv_at hl 0 rfl) ?_
  refine lv_iload_n hx hb jd_J5_init_d00df_11 rfl (lv_at hl 1 rfl) ?_
  refine j_newB (N := 16) C jd_J5_init_d00df_12 io_b (by decide) (by decide) (by omega) ⟨Nat.le_of_ble_eq_true rfl, Nat.le_of_ble_eq_true rfl⟩ hP hD hS (fun q12 H hP hD hS => ?_)
  have hP : va_P E0.1 vwCl ([(a, .inr (8, [.null, .int 0, .int 0, .int 0])), (q12, .inl (E0.2.2 4, 16, .inl (fun _ => 0)))] : va_W) H := hP
  have hD : va_D A ([(a, .inr (8, [.null, .int 0, .int 0, .int 0])), (q12, .inl (E0.2.2 4, 16, .inl (fun _ => 0)))] : va_W) := hD
  refine va_put (D := E0.1) (ci := 8) (v := .ref q12) (ty := (.array .byte)) (C := RJ4) (T := TJ4) (N := 4) hx hb hts (kcl_ws 8 _ rfl) tyJ4 tyJ4_ok nmJ4 hown hK hP hD hS 0 rfl rfl 0 (by decide) (hts _ jf_J5_15) (fun _ h9 => h9) rfl rfl rfl rfl (show _ < List.length _ from Nat.le_of_ble_eq_true rfl) jd_J5_init_d00df_14 (fun H locs hP hD hS => ?_)
  have hP : va_P E0.1 vwCl ([(a, .inr (8, [.ref q12, .int 0, .int 0, .int 0])), (q12, .inl (E0.2.2 4, 16, .inl (fun _ => 0)))] : va_W) H := hP
  have hD : va_D A ([(a, .inr (8, [.ref q12, .int 0, .int 0, .int 0])), (q12, .inl (E0.2.2 4, 16, .inl (fun _ => 0)))] : va_W) := hD
  refine lv_aload_n hx hb jd_J5_init_d00df_17 rfl (lv_at hl 0 rfl) ?_
  refine lv_iconst (v := 0) hx hb jd_J5_init_d00df_18 (by decide) ?_
  refine va_put (D := E0.1) (ci := 8) (v := .int 0) (ty := .byte) (C := RJ4) (T := TJ4) (N := 4) hx hb hts (kcl_ws 8 _ rfl) tyJ4 tyJ4_ok nmJ4 hown hK hP hD hS 0 rfl rfl 1 (by decide) (hts _ jf_J5_22) (fun _ h9 => h9) rfl rfl rfl rfl (show _ < List.length _ from Nat.le_of_ble_eq_true rfl) jd_J5_init_d00df_19 (fun H locs hP hD hS => ?_)
  have hP : va_P E0.1 vwCl ([(a, .inr (8, [.ref q12, .int 0, .int 0, .int 0])), (q12, .inl (E0.2.2 4, 16, .inl (fun _ => 0)))] : va_W) H := hP
  have hD : va_D A ([(a, .inr (8, [.ref q12, .int 0, .int 0, .int 0])), (q12, .inl (E0.2.2 4, 16, .inl (fun _ => 0)))] : va_W) := hD
  refine lv_goto hx hb jd_J5_init_d00df_22 (tgt := 38) (by decide) ?_
  exact j_vret B jd_J5_init_d00df_38 rfl (⟨_, rfl, rfl⟩) (Nat.le_of_ble_eq_true rfl) (Nat.le_of_ble_eq_true rfl) hP hD hS
theorem jd_J4_init_da8c8_0 : decode cJ4_init_da8c8 0 = .ok (.aload_n 0, 1) := by decide +kernel
theorem jd_J4_init_da8c8_1 : decode cJ4_init_da8c8 1 = .ok (.bipush 16, 2) := by decide +kernel
theorem jd_J4_init_da8c8_3 : decode cJ4_init_da8c8 3 = .ok (.invokespecial 1, 3) := by decide +kernel
theorem yk_J5_init_d00df : KMW yJ5_init_d00df mzJ5_init_d00df 1 := ⟨⟨by decide +kernel, by decide +kernel, by decide +kernel⟩, ⟨rfl, rfl⟩, kg_in 61 (by decide +kernel) (by decide +kernel), kg_in 1162 (by decide +kernel) (by decide +kernel)⟩
theorem jl_J4_1 : Cond.methodLink RJ4 1 yJ5_init_d00df ∈ kg := kg_in 1160 (by decide +kernel) (by decide +kernel)
theorem ji_J5_init_d00df : Cond.instanceMethod yJ5_init_d00df ∈ kg := kg_in 1161 (by decide +kernel) (by decide +kernel)
theorem jd_J4_init_da8c8_6 : decode cJ4_init_da8c8 6 = .ok (.return_, 1) := by decide +kernel
abbrev mzJ4_init_da8c8 : KM := (RJ4, cJ4_init_da8c8, 1, none, { frames := 2, cells := 1, slots := 34, locals := 33 }, 1, 34)
set_option maxHeartbeats 1000000 in
set_option maxRecDepth 100000 in
theorem jt_init (l : Launch) (E0 : KE) (a : Nat) : JC l E0 yJ4_init_da8c8 mzJ4_init_da8c8 [.ref a] [(a, .inr (8, [.null, .int 0, .int 0, .int 0]))] (fun v w => v = none ∧ JT E0 a [] w) := by
  refine jc_of [(0, .ref a)] (by decide +kernel) rfl rfl (Nat.le_of_ble_eq_true rfl) ?_
  intro A pr e s mt args below meth c Q B H locs ls hP hD hS hl
  have C := B.1
  have hnm := B.2.1
  obtain ⟨hx, hb, hml, hown, hts, hA, hK, hF⟩ := id C
  refine lv_aload_n hx hb jd_J4_init_da8c8_0 rfl (lv_at hl 0 rfl) ?_
  refine lv_bipush (v := 16) hx hb jd_J4_init_da8c8_1 (by decide) ?_
  refine j_I (As := [.int 16]) (st := []) (ws := ([(a, .inr (8, [.null, .int 0, .int 0, .int 0]))] : va_W)) (wc := [(a, .inr (8, [.null, .int 0, .int 0, .int 0]))]) (wr := ([] : va_W)) [0] [] C rfl rfl rfl rfl (by decide) (jt_init5 l E0 a) jd_J4_init_da8c8_3 rfl yk_J5_init_d00df jl_J4_1 ji_J5_init_d00df rfl rfl ⟨Nat.le_of_ble_eq_true rfl, Nat.le_of_ble_eq_true rfl⟩ (show _ ≤ 8 from Nat.le_of_ble_eq_true rfl) (show _ ∧ _ from ⟨Nat.le_of_ble_eq_true rfl, Nat.le_of_ble_eq_true rfl⟩) hl.1 hP hD hS (fun v w H locs hq hP hD hS => ?_)
  obtain ⟨b2, rfl, rfl⟩ := hq
  have hP : va_P E0.1 vwCl ([(a, .inr (8, [.ref b2, .int 0, .int 0, .int 0])), (b2, .inl (E0.2.2 4, 16, .inl (fun _ => 0)))] : va_W) H := hP
  have hD : va_D A ([(a, .inr (8, [.ref b2, .int 0, .int 0, .int 0])), (b2, .inl (E0.2.2 4, 16, .inl (fun _ => 0)))] : va_W) := hD
  refine W.eq (g2 := F0 mt 6 ls []) rfl ?_
  exact j_vret B jd_J4_init_da8c8_6 rfl (⟨rfl, b2, 16, _, rfl, .inl rfl, by decide, sb_fit0, fun i hi => absurd hi (Nat.not_lt_zero i)⟩) (Nat.le_of_ble_eq_true rfl) (Nat.le_of_ble_eq_true rfl) hP hD hS
theorem jd_J7_checkLength_df160_0 : decode cJ7_checkLength_df160 0 = .ok (.iload_n 1, 1) := by decide +kernel
theorem jd_J7_checkLength_df160_1 : decode cJ7_checkLength_df160 1 = .ok (.iload_n 0, 1) := by decide +kernel
theorem jd_J7_checkLength_df160_2 : decode cJ7_checkLength_df160 2 = .ok (.if_icmp .ge 35, 3) := by decide +kernel
theorem jd_J7_checkLength_df160_37 : decode cJ7_checkLength_df160 37 = .ok (.return_, 1) := by decide +kernel
abbrev mzJ7_checkLength_df160 : KM := (RJ7, cJ7_checkLength_df160, 2, none, { frames := 0, cells := 0, slots := 0, locals := 12 }, 0, 0)
set_option maxHeartbeats 1000000 in
set_option maxRecDepth 100000 in
theorem jt_chk (l : Launch) (E0 : KE) (n : Nat) (hn : n ≤ 34) : JC l E0 yJ7_checkLength_df160 mzJ7_checkLength_df160 [.int 0, .int (nI n)] [] (fun v w => v = none ∧ w = []) := by
  refine jc_of [(0, .int 0), (1, .int (nI n))] (by decide +kernel) rfl rfl (Nat.le_of_ble_eq_true rfl) ?_
  intro A pr e s mt args below meth c Q B H locs ls hP hD hS hl
  have C := B.1
  have hnm := B.2.1
  obtain ⟨hx, hb, hml, hown, hts, hA, hK, hF⟩ := id C
  refine lv_iload_n hx hb jd_J7_checkLength_df160_0 rfl (lv_at hl 1 rfl) ?_
  refine lv_iload_n hx hb jd_J7_checkLength_df160_1 rfl (lv_at hl 0 rfl) ?_
  refine lv_icmp_ge hx hb jd_J7_checkLength_df160_2 (tgt := 37) (by decide) (fun _ => ?_) (fun h9 => absurd (nI_pos' (by omega)) h9)
  exact j_vret B jd_J7_checkLength_df160_37 rfl (⟨rfl, rfl⟩) (Nat.le_of_ble_eq_true rfl) (Nat.le_of_ble_eq_true rfl) hP hD hS
theorem jd_J7_copyOfRangeByte_39247_0 : decode cJ7_copyOfRangeByte_39247 0 = .ok (.iload_n 1, 1) := by decide +kernel
theorem jd_J7_copyOfRangeByte_39247_1 : decode cJ7_copyOfRangeByte_39247 1 = .ok (.iload_n 2, 1) := by decide +kernel
theorem jd_J7_copyOfRangeByte_39247_2 : decode cJ7_copyOfRangeByte_39247 2 = .ok (.invokestatic 343, 3) := by decide +kernel
theorem yk_J7_checkLength_df160 : KMW yJ7_checkLength_df160 mzJ7_checkLength_df160 2 := ⟨⟨by decide +kernel, by decide +kernel, by decide +kernel⟩, ⟨rfl, rfl⟩, kg_in 51 (by decide +kernel) (by decide +kernel), kg_in 1340 (by decide +kernel) (by decide +kernel)⟩
theorem jl_J7_343 : Cond.methodLink RJ7 343 yJ7_checkLength_df160 ∈ kg := kg_in 1338 (by decide +kernel) (by decide +kernel)
theorem js_J7_checkLength_df160 : Cond.static yJ7_checkLength_df160 ∈ kg := kg_in 1339 (by decide +kernel) (by decide +kernel)
theorem jd_J7_copyOfRangeByte_39247_5 : decode cJ7_copyOfRangeByte_39247 5 = .ok (.iload_n 2, 1) := by decide +kernel
theorem jd_J7_copyOfRangeByte_39247_6 : decode cJ7_copyOfRangeByte_39247 6 = .ok (.iload_n 1, 1) := by decide +kernel
theorem jd_J7_copyOfRangeByte_39247_7 : decode cJ7_copyOfRangeByte_39247 7 = .ok (.isub, 1) := by decide +kernel
theorem jd_J7_copyOfRangeByte_39247_8 : decode cJ7_copyOfRangeByte_39247 8 = .ok (.istore_n 3, 1) := by decide +kernel
theorem jd_J7_copyOfRangeByte_39247_9 : decode cJ7_copyOfRangeByte_39247 9 = .ok (.iload_n 3, 1) := by decide +kernel
theorem jd_J7_copyOfRangeByte_39247_10 : decode cJ7_copyOfRangeByte_39247 10 = .ok (.newarray .byte, 2) := by decide +kernel
theorem jd_J7_copyOfRangeByte_39247_12 : decode cJ7_copyOfRangeByte_39247 12 = .ok (.astore 4, 2) := by decide +kernel
theorem jd_J7_copyOfRangeByte_39247_14 : decode cJ7_copyOfRangeByte_39247 14 = .ok (.aload_n 0, 1) := by decide +kernel
theorem jd_J7_copyOfRangeByte_39247_15 : decode cJ7_copyOfRangeByte_39247 15 = .ok (.iload_n 1, 1) := by decide +kernel
theorem jd_J7_copyOfRangeByte_39247_16 : decode cJ7_copyOfRangeByte_39247 16 = .ok (.aload 4, 2) := by decide +kernel
theorem jd_J7_copyOfRangeByte_39247_18 : decode cJ7_copyOfRangeByte_39247 18 = .ok (.iconst 0, 1) := by decide +kernel
theorem jd_J7_copyOfRangeByte_39247_19 : decode cJ7_copyOfRangeByte_39247 19 = .ok (.aload_n 0, 1) := by decide +kernel
theorem jd_J7_copyOfRangeByte_39247_20 : decode cJ7_copyOfRangeByte_39247 20 = .ok (.arraylength, 1) := by decide +kernel
theorem jd_J7_copyOfRangeByte_39247_21 : decode cJ7_copyOfRangeByte_39247 21 = .ok (.iload_n 1, 1) := by decide +kernel
theorem jd_J7_copyOfRangeByte_39247_22 : decode cJ7_copyOfRangeByte_39247 22 = .ok (.isub, 1) := by decide +kernel
theorem jd_J7_copyOfRangeByte_39247_23 : decode cJ7_copyOfRangeByte_39247 23 = .ok (.iload_n 3, 1) := by decide +kernel
theorem jd_J7_copyOfRangeByte_39247_24 : decode cJ7_copyOfRangeByte_39247 24 = .ok (.invokestatic 304, 3) := by decide +kernel
theorem jd_J7_copyOfRangeByte_39247_27 : decode cJ7_copyOfRangeByte_39247 27 = .ok (.invokestatic 150, 3) := by decide +kernel
theorem jd_J7_copyOfRangeByte_39247_30 : decode cJ7_copyOfRangeByte_39247 30 = .ok (.aload 4, 2) := by decide +kernel
theorem jd_J7_copyOfRangeByte_39247_32 : decode cJ7_copyOfRangeByte_39247 32 = .ok (.areturn, 1) := by decide +kernel
abbrev mzJ7_copyOfRangeByte_39247 : KM := (RJ7, cJ7_copyOfRangeByte_39247, 5, (some (.array .byte)), { frames := 1, cells := 1, slots := 34, locals := 64 }, 1, 34)
set_option maxHeartbeats 1000000 in
set_option maxRecDepth 100000 in
theorem jt_corb (l : Launch) (E0 : KE) (b n m : Nat) (f : Nat → Int32) (hf : sb_Fit f) (hn : n < m) (hm : m ≤ 34) : JC l E0 yJ7_copyOfRangeByte_39247 mzJ7_copyOfRangeByte_39247 [.ref b, .int 0, .int (nI n)] [(b, .inl (E0.2.2 4, m, .inl f))] (fun v w => ∃ b2 : Nat, v = some (.ref b2) ∧ w = [(b, .inl (E0.2.2 4, m, .inl f)), (b2, .inl (E0.2.2 4, n, .inl (va_cpy f (fun _ => 0) 0 0 n)))]) := by
  refine jc_of [(0, .ref b), (1, .int 0), (2, .int (nI n))] (by decide +kernel) rfl rfl (Nat.le_of_ble_eq_true rfl) ?_
  intro A pr e s mt args below meth c Q B H locs ls hP hD hS hl
  have C := B.1
  have hnm := B.2.1
  obtain ⟨hx, hb, hml, hown, hts, hA, hK, hF⟩ := id C
  refine lv_iload_n hx hb jd_J7_copyOfRangeByte_39247_0 rfl (lv_at hl 1 rfl) ?_
  refine lv_iload_n hx hb jd_J7_copyOfRangeByte_39247_1 rfl (lv_at hl 2 rfl) ?_
  refine j_S (As := [.int 0, .int (nI n)]) (st := []) (ws := ([(b, .inl (E0.2.2 4, m, .inl f))] : va_W)) (wc := []) (wr := ([(b, .inl (E0.2.2 4, m, .inl f))] : va_W)) [] [0] C rfl rfl rfl rfl (by decide) (jt_chk l E0 n (by omega)) jd_J7_copyOfRangeByte_39247_2 rfl yk_J7_checkLength_df160 jl_J7_343 js_J7_checkLength_df160 ⟨Nat.le_of_ble_eq_true rfl, Nat.le_of_ble_eq_true rfl⟩ (show _ ≤ 8 from Nat.le_of_ble_eq_true rfl) (show _ ∧ _ from ⟨Nat.le_of_ble_eq_true rfl, Nat.le_of_ble_eq_true rfl⟩) hl.1 hP hD hS (fun v w H locs hq hP hD hS => ?_)
  obtain ⟨rfl, rfl⟩ := hq
  have hP : va_P E0.1 vwCl ([(b, .inl (E0.2.2 4, m, .inl f))] : va_W) H := hP
  have hD : va_D A ([(b, .inl (E0.2.2 4, m, .inl f))] : va_W) := hD
  refine W.eq (g2 := F0 mt 5 ls []) rfl ?_
  refine lv_iload_n hx hb jd_J7_copyOfRangeByte_39247_5 rfl (lv_at hl 2 rfl) ?_
  refine lv_iload_n hx hb jd_J7_copyOfRangeByte_39247_6 rfl (lv_at hl 1 rfl) ?_
  refine lv_isub hx hb jd_J7_copyOfRangeByte_39247_7 ?_
  refine j_i (x' := (nI n)) (jsub0 _) ?_
  refine lv_istore_n (lv' := [(3, .int (nI n)), (0, .ref b), (1, .int 0), (2, .int (nI n))]) hx hb jd_J7_copyOfRangeByte_39247_8 rfl hl (by decide) rfl (fun ls hl => ?_)
  refine lv_iload_n hx hb jd_J7_copyOfRangeByte_39247_9 rfl (lv_at hl 0 rfl) ?_
  refine j_newB (N := n) C jd_J7_copyOfRangeByte_39247_10 io_b (nI_pos (by omega)) (nI_clamp (by omega)) (by omega) ⟨Nat.le_of_ble_eq_true rfl, Nat.le_of_ble_eq_true rfl⟩ hP hD hS (fun q10 H hP hD hS => ?_)
  have hP : va_P E0.1 vwCl ([(b, .inl (E0.2.2 4, m, .inl f)), (q10, .inl (E0.2.2 4, n, .inl (fun _ => 0)))] : va_W) H := hP
  have hD : va_D A ([(b, .inl (E0.2.2 4, m, .inl f)), (q10, .inl (E0.2.2 4, n, .inl (fun _ => 0)))] : va_W) := hD
  refine lv_astore (lv' := [(4, .ref q10), (3, .int (nI n)), (0, .ref b), (1, .int 0), (2, .int (nI n))]) hx hb jd_J7_copyOfRangeByte_39247_12 hl (by decide) rfl (fun ls hl => ?_)
  refine lv_aload_n hx hb jd_J7_copyOfRangeByte_39247_14 rfl (lv_at hl 2 rfl) ?_
  refine lv_iload_n hx hb jd_J7_copyOfRangeByte_39247_15 rfl (lv_at hl 3 rfl) ?_
  refine lv_aload hx hb jd_J7_copyOfRangeByte_39247_16 (lv_at hl 0 rfl) ?_
  refine lv_iconst (v := 0) hx hb jd_J7_copyOfRangeByte_39247_18 (by decide) ?_
  refine lv_aload_n hx hb jd_J7_copyOfRangeByte_39247_19 rfl (lv_at hl 2 rfl) ?_
  refine va_alen (D := E0.1) (v := (nI m)) hx hb hK hP 0 0 rfl rfl rfl jd_J7_copyOfRangeByte_39247_20 ?_
  refine lv_iload_n hx hb jd_J7_copyOfRangeByte_39247_21 rfl (lv_at hl 3 rfl) ?_
  refine lv_isub hx hb jd_J7_copyOfRangeByte_39247_22 ?_
  refine j_i (x' := (nI m)) (jsub0 _) ?_
  refine lv_iload_n hx hb jd_J7_copyOfRangeByte_39247_23 rfl (lv_at hl 1 rfl) ?_
  refine va_mmin hx hb (by rw [hml]; exact hl.1.symm) hown (hts _ jl_J7_304) (hts _ kw_min.1) (hts _ kw_min.2.1) (hts _ kw_min.2.2) (Nat.le_of_ble_eq_true rfl) (Nat.le_of_ble_eq_true rfl) (Nat.le_of_ble_eq_true rfl) (Nat.le_of_ble_eq_true rfl) jd_J7_copyOfRangeByte_39247_24 ?_
  refine j_i (x' := (nI n)) (if_pos (nI_lt hn (by omega))) ?_
  refine va_copyi hx hb (by rw [hml]; exact hl.1.symm) hown (hts _ jl_J7_150) (hts _ kw_copy.1) (hts _ kw_copy.2.1) (hts _ kw_copy.2.2) hK hP hD hS 0 1 0 0 rfl rfl rfl rfl rfl (by decide) (by decide) (nI_pos (by omega)) (by rw [sb_cl0, nI_clamp (by omega)]; omega) (by rw [sb_cl0, nI_clamp (by omega)]; omega) (fun i _ => hf _) (Nat.le_of_ble_eq_true rfl) (Nat.le_of_ble_eq_true rfl) jd_J7_copyOfRangeByte_39247_27 (fun H locs hP hD hS => ?_)
  have hP : va_P E0.1 vwCl ([(b, .inl (E0.2.2 4, m, .inl f)), (q10, .inl (E0.2.2 4, n, .inl (va_cpy f (fun _ => 0) (Int32.toNatClampNeg (0)) (Int32.toNatClampNeg (0)) (Int32.toNatClampNeg ((nI n))))))] : va_W) H := hP
  have hD : va_D A ([(b, .inl (E0.2.2 4, m, .inl f)), (q10, .inl (E0.2.2 4, n, .inl (va_cpy f (fun _ => 0) (Int32.toNatClampNeg (0)) (Int32.toNatClampNeg (0)) (Int32.toNatClampNeg ((nI n))))))] : va_W) := hD
  have e9 : va_cpy f (fun _ => 0) (Int32.toNatClampNeg (0)) (Int32.toNatClampNeg (0)) (Int32.toNatClampNeg ((nI n))) = (va_cpy f (fun _ => 0) 0 0 n) := by rw [sb_cl0, nI_clamp (by omega)]
  rw [e9] at hP hD
  refine lv_aload hx hb jd_J7_copyOfRangeByte_39247_30 (lv_at hl 0 rfl) ?_
  exact j_aret B jd_J7_copyOfRangeByte_39247_32 rfl (.inr ⟨_, rfl⟩) (⟨_, rfl, rfl⟩) (Nat.le_of_ble_eq_true rfl) (Nat.le_of_ble_eq_true rfl) hP hD hS
theorem jd_J7_copyOfRange_39247_0 : decode cJ7_copyOfRange_39247 0 = .ok (.iload_n 1, 1) := by decide +kernel
theorem jd_J7_copyOfRange_39247_1 : decode cJ7_copyOfRange_39247 1 = .ok (.ifCond .ne 9, 3) := by decide +kernel
theorem jd_J7_copyOfRange_39247_4 : decode cJ7_copyOfRange_39247 4 = .ok (.iload_n 2, 1) := by decide +kernel
theorem jd_J7_copyOfRange_39247_5 : decode cJ7_copyOfRange_39247 5 = .ok (.aload_n 0, 1) := by decide +kernel
theorem jd_J7_copyOfRange_39247_6 : decode cJ7_copyOfRange_39247 6 = .ok (.arraylength, 1) := by decide +kernel
theorem jd_J7_copyOfRange_39247_7 : decode cJ7_copyOfRange_39247 7 = .ok (.if_icmp .eq 10, 3) := by decide +kernel
theorem jd_J7_copyOfRange_39247_10 : decode cJ7_copyOfRange_39247 10 = .ok (.aload_n 0, 1) := by decide +kernel
theorem jd_J7_copyOfRange_39247_11 : decode cJ7_copyOfRange_39247 11 = .ok (.iload_n 1, 1) := by decide +kernel
theorem jd_J7_copyOfRange_39247_12 : decode cJ7_copyOfRange_39247 12 = .ok (.iload_n 2, 1) := by decide +kernel
theorem jd_J7_copyOfRange_39247_13 : decode cJ7_copyOfRange_39247 13 = .ok (.invokestatic 339, 3) := by decide +kernel
theorem yk_J7_copyOfRangeByte_39247 : KMW yJ7_copyOfRangeByte_39247 mzJ7_copyOfRangeByte_39247 3 := ⟨⟨by decide +kernel, by decide +kernel, by decide +kernel⟩, ⟨rfl, rfl⟩, kg_in 51 (by decide +kernel) (by decide +kernel), kg_in 1337 (by decide +kernel) (by decide +kernel)⟩
theorem jl_J7_339 : Cond.methodLink RJ7 339 yJ7_copyOfRangeByte_39247 ∈ kg := kg_in 1335 (by decide +kernel) (by decide +kernel)
theorem js_J7_copyOfRangeByte_39247 : Cond.static yJ7_copyOfRangeByte_39247 ∈ kg := kg_in 1336 (by decide +kernel) (by decide +kernel)
theorem jd_J7_copyOfRange_39247_16 : decode cJ7_copyOfRange_39247 16 = .ok (.areturn, 1) := by decide +kernel
abbrev mzJ7_copyOfRange_39247 : KM := (RJ7, cJ7_copyOfRange_39247, 3, (some (.array .byte)), { frames := 2, cells := 1, slots := 34, locals := 88 }, 1, 34)
set_option maxHeartbeats 1000000 in
set_option maxRecDepth 100000 in
theorem jt_cor (l : Launch) (E0 : KE) (b n m : Nat) (f : Nat → Int32) (hf : sb_Fit f) (hn : n < m) (hm : m ≤ 34) : JC l E0 yJ7_copyOfRange_39247 mzJ7_copyOfRange_39247 [.ref b, .int 0, .int (nI n)] [(b, .inl (E0.2.2 4, m, .inl f))] (fun v w => ∃ b2 : Nat, v = some (.ref b2) ∧ w = [(b, .inl (E0.2.2 4, m, .inl f)), (b2, .inl (E0.2.2 4, n, .inl (va_cpy f (fun _ => 0) 0 0 n)))]) := by
  refine jc_of [(0, .ref b), (1, .int 0), (2, .int (nI n))] (by decide +kernel) rfl rfl (Nat.le_of_ble_eq_true rfl) ?_
  intro A pr e s mt args below meth c Q B H locs ls hP hD hS hl
  have C := B.1
  have hnm := B.2.1
  obtain ⟨hx, hb, hml, hown, hts, hA, hK, hF⟩ := id C
  refine lv_iload_n hx hb jd_J7_copyOfRange_39247_0 rfl (lv_at hl 1 rfl) ?_
  refine lv_if_ne hx hb jd_J7_copyOfRange_39247_1 (tgt := 10) (by decide) (fun h9 => absurd rfl h9) (fun _ => ?_)
  refine lv_iload_n hx hb jd_J7_copyOfRange_39247_4 rfl (lv_at hl 2 rfl) ?_
  refine lv_aload_n hx hb jd_J7_copyOfRange_39247_5 rfl (lv_at hl 0 rfl) ?_
  refine va_alen (D := E0.1) (v := (nI m)) hx hb hK hP 0 0 rfl rfl rfl jd_J7_copyOfRange_39247_6 ?_
  refine lv_icmp_eq hx hb jd_J7_copyOfRange_39247_7 (tgt := 17) (by decide) (fun h9 => absurd h9 (fun c => by have := (nI_eq (by omega) (by omega)).mp c; omega)) (fun _ => ?_)
  refine lv_aload_n hx hb jd_J7_copyOfRange_39247_10 rfl (lv_at hl 0 rfl) ?_
  refine lv_iload_n hx hb jd_J7_copyOfRange_39247_11 rfl (lv_at hl 1 rfl) ?_
  refine lv_iload_n hx hb jd_J7_copyOfRange_39247_12 rfl (lv_at hl 2 rfl) ?_
  refine j_S (As := [.ref b, .int 0, .int (nI n)]) (st := []) (ws := ([(b, .inl (E0.2.2 4, m, .inl f))] : va_W)) (wc := [(b, .inl (E0.2.2 4, m, .inl f))]) (wr := ([] : va_W)) [0] [] C rfl rfl rfl rfl (by decide) (jt_corb l E0 b n m f hf hn hm) jd_J7_copyOfRange_39247_13 rfl yk_J7_copyOfRangeByte_39247 jl_J7_339 js_J7_copyOfRangeByte_39247 ⟨Nat.le_of_ble_eq_true rfl, Nat.le_of_ble_eq_true rfl⟩ (show _ ≤ 8 from Nat.le_of_ble_eq_true rfl) (show _ ∧ _ from ⟨Nat.le_of_ble_eq_true rfl, Nat.le_of_ble_eq_true rfl⟩) hl.1 hP hD hS (fun v w H locs hq hP hD hS => ?_)
  obtain ⟨b2, rfl, rfl⟩ := hq
  have hP : va_P E0.1 vwCl ([(b, .inl (E0.2.2 4, m, .inl f)), (b2, .inl (E0.2.2 4, n, .inl (va_cpy f (fun _ => 0) 0 0 n)))] : va_W) H := hP
  have hD : va_D A ([(b, .inl (E0.2.2 4, m, .inl f)), (b2, .inl (E0.2.2 4, n, .inl (va_cpy f (fun _ => 0) 0 0 n)))] : va_W) := hD
  refine W.eq (g2 := F0 mt 16 ls [.ref b2]) rfl ?_
  exact j_aret B jd_J7_copyOfRange_39247_16 rfl (.inr ⟨_, rfl⟩) (⟨_, rfl, rfl⟩) (Nat.le_of_ble_eq_true rfl) (Nat.le_of_ble_eq_true rfl) hP hD hS
theorem jd_J5_getValue_6d5f1_0 : decode cJ5_getValue_6d5f1 0 = .ok (.aload_n 0, 1) := by decide +kernel
theorem jd_J5_getValue_6d5f1_1 : decode cJ5_getValue_6d5f1 1 = .ok (.getfield 15, 3) := by decide +kernel
theorem jd_J5_getValue_6d5f1_4 : decode cJ5_getValue_6d5f1 4 = .ok (.areturn, 1) := by decide +kernel
abbrev mzJ5_getValue_6d5f1 : KM := (RJ5, cJ5_getValue_6d5f1, 1, (some (.array .byte)), { frames := 0, cells := 0, slots := 0, locals := 12 }, 0, 0)
set_option maxHeartbeats 1000000 in
set_option maxRecDepth 100000 in
theorem jt_val (l : Launch) (E0 : KE) (a b : Nat) (n : Int32) (m : Nat) (f : Nat → Int32) : JC l E0 yJ5_getValue_6d5f1 mzJ5_getValue_6d5f1 [.ref a] [(a, .inr (8, [.ref b, .int 0, .int 0, .int n])), (b, .inl (E0.2.2 4, m, .inl f))] (fun v w => v = some (.ref b) ∧ w = [(a, .inr (8, [.ref b, .int 0, .int 0, .int n])), (b, .inl (E0.2.2 4, m, .inl f))]) := by
  refine jc_of [(0, .ref a)] (by decide +kernel) rfl rfl (Nat.le_of_ble_eq_true rfl) ?_
  intro A pr e s mt args below meth c Q B H locs ls hP hD hS hl
  have C := B.1
  have hnm := B.2.1
  obtain ⟨hx, hb, hml, hown, hts, hA, hK, hF⟩ := id C
  refine lv_aload_n hx hb jd_J5_getValue_6d5f1_0 rfl (lv_at hl 0 rfl) ?_
  refine va_get (D := E0.1) (ci := 8) (v := .ref b) (C := RJ4) (T := TJ4) (N := 4) hx hb hts (kcl_ws 8 _ rfl) hown hK hP 0 rfl rfl 0 (by decide) (hts _ jf_J5_15) (fun _ h9 => h9) rfl jd_J5_getValue_6d5f1_1 ?_
  exact j_aret B jd_J5_getValue_6d5f1_4 rfl (.inr ⟨_, rfl⟩) (⟨rfl, rfl⟩) (Nat.le_of_ble_eq_true rfl) (Nat.le_of_ble_eq_true rfl) hP hD hS
theorem jd_J5_length_8abf5_0 : decode cJ5_length_8abf5 0 = .ok (.aload_n 0, 1) := by decide +kernel
theorem jd_J5_length_8abf5_1 : decode cJ5_length_8abf5 1 = .ok (.getfield 79, 3) := by decide +kernel
theorem jd_J5_length_8abf5_4 : decode cJ5_length_8abf5 4 = .ok (.ireturn, 1) := by decide +kernel
abbrev mzJ5_length_8abf5 : KM := (RJ5, cJ5_length_8abf5, 1, (some .int), { frames := 0, cells := 0, slots := 0, locals := 12 }, 0, 0)
set_option maxHeartbeats 1000000 in
set_option maxRecDepth 100000 in
theorem jt_len5 (l : Launch) (E0 : KE) (a b : Nat) (n : Int32) (m : Nat) (f : Nat → Int32) : JC l E0 yJ5_length_8abf5 mzJ5_length_8abf5 [.ref a] [(a, .inr (8, [.ref b, .int 0, .int 0, .int n])), (b, .inl (E0.2.2 4, m, .inl f))] (fun v w => v = some (.int n) ∧ w = [(a, .inr (8, [.ref b, .int 0, .int 0, .int n])), (b, .inl (E0.2.2 4, m, .inl f))]) := by
  refine jc_of [(0, .ref a)] (by decide +kernel) rfl rfl (Nat.le_of_ble_eq_true rfl) ?_
  intro A pr e s mt args below meth c Q B H locs ls hP hD hS hl
  have C := B.1
  have hnm := B.2.1
  obtain ⟨hx, hb, hml, hown, hts, hA, hK, hF⟩ := id C
  refine lv_aload_n hx hb jd_J5_length_8abf5_0 rfl (lv_at hl 0 rfl) ?_
  refine va_get (D := E0.1) (ci := 8) (v := .int n) (C := RJ4) (T := TJ4) (N := 4) hx hb hts (kcl_ws 8 _ rfl) hown hK hP 0 rfl rfl 3 (by decide) (hts _ jf_J5_79) (fun _ h9 => h9) rfl jd_J5_length_8abf5_1 ?_
  exact j_iret B jd_J5_length_8abf5_4 rfl (by first | rfl | decide) (⟨rfl, rfl⟩) (Nat.le_of_ble_eq_true rfl) (Nat.le_of_ble_eq_true rfl) hP hD hS
theorem jd_J4_length_8abf5_0 : decode cJ4_length_8abf5 0 = .ok (.aload_n 0, 1) := by decide +kernel
theorem jd_J4_length_8abf5_1 : decode cJ4_length_8abf5 1 = .ok (.invokespecial 343, 3) := by decide +kernel
theorem jm_J5_length_8abf5 : Cond.sameMethod yJ5_length_8abf5.cls yJ5_length_8abf5.cls yJ5_length_8abf5.name yJ5_length_8abf5.desc ∈ kg := kg_in 1325 (by decide +kernel) (by decide +kernel)
theorem yk_J5_length_8abf5 : KMW yJ5_length_8abf5 mzJ5_length_8abf5 0 := ⟨⟨by decide +kernel, by decide +kernel, by decide +kernel⟩, ⟨rfl, rfl⟩, kg_in 61 (by decide +kernel) (by decide +kernel), kg_in 1330 (by decide +kernel) (by decide +kernel)⟩
theorem jl_J4_343 : Cond.methodLink RJ4 343 yJ5_length_8abf5 ∈ kg := kg_in 1329 (by decide +kernel) (by decide +kernel)
theorem ji_J5_length_8abf5 : Cond.instanceMethod yJ5_length_8abf5 ∈ kg := kg_in 1324 (by decide +kernel) (by decide +kernel)
theorem jd_J4_length_8abf5_4 : decode cJ4_length_8abf5 4 = .ok (.ireturn, 1) := by decide +kernel
abbrev mzJ4_length_8abf5 : KM := (RJ4, cJ4_length_8abf5, 1, (some .int), { frames := 1, cells := 0, slots := 0, locals := 32 }, 0, 0)
set_option maxHeartbeats 1000000 in
set_option maxRecDepth 100000 in
theorem jt_len (l : Launch) (E0 : KE) (a b : Nat) (n : Int32) (m : Nat) (f : Nat → Int32) : JC l E0 yJ4_length_8abf5 mzJ4_length_8abf5 [.ref a] [(a, .inr (8, [.ref b, .int 0, .int 0, .int n])), (b, .inl (E0.2.2 4, m, .inl f))] (fun v w => v = some (.int n) ∧ w = [(a, .inr (8, [.ref b, .int 0, .int 0, .int n])), (b, .inl (E0.2.2 4, m, .inl f))]) := by
  refine jc_of [(0, .ref a)] (by decide +kernel) rfl rfl (Nat.le_of_ble_eq_true rfl) ?_
  intro A pr e s mt args below meth c Q B H locs ls hP hD hS hl
  have C := B.1
  have hnm := B.2.1
  obtain ⟨hx, hb, hml, hown, hts, hA, hK, hF⟩ := id C
  refine lv_aload_n hx hb jd_J4_length_8abf5_0 rfl (lv_at hl 0 rfl) ?_
  refine j_U (As := []) (st := []) (C0 := RJ4) (ws := ([(a, .inr (8, [.ref b, .int 0, .int 0, .int n])), (b, .inl (E0.2.2 4, m, .inl f))] : va_W)) (wc := [(a, .inr (8, [.ref b, .int 0, .int 0, .int n])), (b, .inl (E0.2.2 4, m, .inl f))]) (wr := ([] : va_W)) [0, 1] [] C rfl rfl rfl rfl (by decide) (jt_len5 l E0 a b n m f) jd_J4_length_8abf5_1 rfl (va_recv (ci := 8) (q := (RJ4, TJ4, 4)) (q0 := 0) hK hP rfl rfl) yk_J5_length_8abf5 jl_J4_343 ji_J5_length_8abf5 (by decide) nI_J4 jm_J5_length_8abf5 jsup ⟨Nat.le_of_ble_eq_true rfl, Nat.le_of_ble_eq_true rfl⟩ (show _ ≤ 8 from Nat.le_of_ble_eq_true rfl) (show _ ∧ _ from ⟨Nat.le_of_ble_eq_true rfl, Nat.le_of_ble_eq_true rfl⟩) hl.1 hP hD hS (fun v w H locs hq hP hD hS => ?_)
  obtain ⟨rfl, rfl⟩ := hq
  have hP : va_P E0.1 vwCl ([(a, .inr (8, [.ref b, .int 0, .int 0, .int n])), (b, .inl (E0.2.2 4, m, .inl f))] : va_W) H := hP
  have hD : va_D A ([(a, .inr (8, [.ref b, .int 0, .int 0, .int n])), (b, .inl (E0.2.2 4, m, .inl f))] : va_W) := hD
  refine W.eq (g2 := F0 mt 4 ls [.int n]) rfl ?_
  exact j_iret B jd_J4_length_8abf5_4 rfl (by first | rfl | decide) (⟨rfl, rfl⟩) (Nat.le_of_ble_eq_true rfl) (Nat.le_of_ble_eq_true rfl) hP hD hS
theorem jd_J0_init_db425_0 : decode cJ0_init_db425 0 = .ok (.aload_n 0, 1) := by decide +kernel
theorem jd_J0_init_db425_1 : decode cJ0_init_db425 1 = .ok (.invokespecial 1, 3) := by decide +kernel
theorem jl_J0_1 : Cond.methodLink RJ0 1 Lib.objectInit ∈ kg := kg_in 1317 (by decide +kernel) (by decide +kernel)
theorem jd_J0_init_db425_4 : decode cJ0_init_db425 4 = .ok (.aload_n 1, 1) := by decide +kernel
theorem jd_J0_init_db425_5 : decode cJ0_init_db425 5 = .ok (.invokevirtual 552, 3) := by decide +kernel
theorem jse_J5_getValue_6d5f1 : Cond.selects RJ4 yJ5_getValue_6d5f1 yJ5_getValue_6d5f1 ∈ kg := kg_in 1321 (by decide +kernel) (by decide +kernel)
theorem yk_J5_getValue_6d5f1 : KMW yJ5_getValue_6d5f1 mzJ5_getValue_6d5f1 0 := ⟨⟨by decide +kernel, by decide +kernel, by decide +kernel⟩, ⟨rfl, rfl⟩, kg_in 61 (by decide +kernel) (by decide +kernel), kg_in 1322 (by decide +kernel) (by decide +kernel)⟩
theorem jl_J0_552 : Cond.methodLink RJ0 552 yJ5_getValue_6d5f1 ∈ kg := kg_in 1318 (by decide +kernel) (by decide +kernel)
theorem ji_J5_getValue_6d5f1 : Cond.instanceMethod yJ5_getValue_6d5f1 ∈ kg := kg_in 1319 (by decide +kernel) (by decide +kernel)
theorem jd_J0_init_db425_8 : decode cJ0_init_db425 8 = .ok (.astore_n 3, 1) := by decide +kernel
theorem jd_J0_init_db425_9 : decode cJ0_init_db425 9 = .ok (.aload_n 1, 1) := by decide +kernel
theorem jd_J0_init_db425_10 : decode cJ0_init_db425 10 = .ok (.invokevirtual 549, 3) := by decide +kernel
theorem jo_J5_length_8abf5 : Cond.selects RJ4 yJ5_length_8abf5 yJ4_length_8abf5 ∈ kg := kg_in 1326 (by decide +kernel) (by decide +kernel)
theorem jk_J5_length_8abf5 : Cond.code yJ5_length_8abf5 mzJ5_length_8abf5.2.1 mzJ5_length_8abf5.2.2.1 mzJ5_length_8abf5.2.2.2.1 ∈ kg := kg_in 1330 (by decide +kernel) (by decide +kernel)
theorem yk_J4_length_8abf5 : KMW yJ4_length_8abf5 mzJ4_length_8abf5 0 := ⟨⟨by decide +kernel, by decide +kernel, by decide +kernel⟩, ⟨rfl, rfl⟩, kg_in 62 (by decide +kernel) (by decide +kernel), kg_in 1328 (by decide +kernel) (by decide +kernel)⟩
theorem jl_J0_549 : Cond.methodLink RJ0 549 yJ5_length_8abf5 ∈ kg := kg_in 1323 (by decide +kernel) (by decide +kernel)
theorem ji_J4_length_8abf5 : Cond.instanceMethod yJ4_length_8abf5 ∈ kg := kg_in 1327 (by decide +kernel) (by decide +kernel)
theorem jd_J0_init_db425_13 : decode cJ0_init_db425 13 = .ok (.istore 4, 2) := by decide +kernel
theorem jd_J0_init_db425_15 : decode cJ0_init_db425 15 = .ok (.aload_n 1, 1) := by decide +kernel
theorem jd_J0_init_db425_16 : decode cJ0_init_db425 16 = .ok (.invokevirtual 1047, 3) := by decide +kernel
theorem jl_J0_1047 : Cond.methodLink RJ0 1047 yJ5_isLatin1_aae02 ∈ kg := kg_in 1331 (by decide +kernel) (by decide +kernel)
theorem jd_J0_init_db425_19 : decode cJ0_init_db425 19 = .ok (.ifCond .eq 22, 3) := by decide +kernel
theorem jd_J0_init_db425_22 : decode cJ0_init_db425 22 = .ok (.aload_n 0, 1) := by decide +kernel
theorem jd_J0_init_db425_23 : decode cJ0_init_db425 23 = .ok (.iconst 0, 1) := by decide +kernel
theorem jd_J0_init_db425_24 : decode cJ0_init_db425 24 = .ok (.putfield 15, 3) := by decide +kernel
theorem jd_J0_init_db425_27 : decode cJ0_init_db425 27 = .ok (.aload_n 0, 1) := by decide +kernel
theorem jd_J0_init_db425_28 : decode cJ0_init_db425 28 = .ok (.aload_n 3, 1) := by decide +kernel
theorem jd_J0_init_db425_29 : decode cJ0_init_db425 29 = .ok (.iconst 0, 1) := by decide +kernel
theorem jd_J0_init_db425_30 : decode cJ0_init_db425 30 = .ok (.iload 4, 2) := by decide +kernel
theorem jd_J0_init_db425_32 : decode cJ0_init_db425 32 = .ok (.invokestatic 54, 3) := by decide +kernel
theorem yk_J7_copyOfRange_39247 : KMW yJ7_copyOfRange_39247 mzJ7_copyOfRange_39247 3 := ⟨⟨by decide +kernel, by decide +kernel, by decide +kernel⟩, ⟨rfl, rfl⟩, kg_in 51 (by decide +kernel) (by decide +kernel), kg_in 1334 (by decide +kernel) (by decide +kernel)⟩
theorem jl_J0_54 : Cond.methodLink RJ0 54 yJ7_copyOfRange_39247 ∈ kg := kg_in 1332 (by decide +kernel) (by decide +kernel)
theorem js_J7_copyOfRange_39247 : Cond.static yJ7_copyOfRange_39247 ∈ kg := kg_in 1333 (by decide +kernel) (by decide +kernel)
theorem jd_J0_init_db425_35 : decode cJ0_init_db425 35 = .ok (.putfield 9, 3) := by decide +kernel
theorem jd_J0_init_db425_38 : decode cJ0_init_db425 38 = .ok (.goto 59, 3) := by decide +kernel
theorem jd_J0_init_db425_97 : decode cJ0_init_db425 97 = .ok (.return_, 1) := by decide +kernel
abbrev mzJ0_init_db425 : KM := (RJ0, cJ0_init_db425, 5, none, { frames := 3, cells := 1, slots := 34, locals := 110 }, 1, 34)
set_option maxHeartbeats 1000000 in
set_option maxRecDepth 100000 in
theorem jt_sinit2 (l : Launch) (E0 : KE) (q a b n m : Nat) (f : Nat → Int32) (hf : sb_Fit f) (hn : n < m) (hm : m ≤ 34) : JC l E0 yJ0_init_db425 mzJ0_init_db425 [.ref q, .ref a, .null] [(q, .inr (9, [.null, .int 0, .int 0, .int 0])), (a, .inr (8, [.ref b, .int 0, .int 0, .int (nI n)])), (b, .inl (E0.2.2 4, m, .inl f))] (fun v w => ∃ b2 : Nat, v = none ∧ w = [(q, .inr (9, [.ref b2, .int 0, .int 0, .int 0])), (a, .inr (8, [.ref b, .int 0, .int 0, .int (nI n)])), (b, .inl (E0.2.2 4, m, .inl f)), (b2, .inl (E0.2.2 4, n, .inl (va_cpy f (fun _ => 0) 0 0 n)))]) := by
  refine jc_of [(0, .ref q), (1, .ref a), (2, .null)] (by decide +kernel) rfl rfl (Nat.le_of_ble_eq_true rfl) ?_
  intro A pr e s mt args below meth c Q B H locs ls hP hD hS hl
  have C := B.1
  have hnm := B.2.1
  obtain ⟨hx, hb, hml, hown, hts, hA, hK, hF⟩ := id C
  refine lv_aload_n hx hb jd_J0_init_db425_0 rfl (lv_at hl 0 rfl) ?_
  refine W.objInit hx hb hown (hts _ jl_J0_1) (hts _ io_1) (hts _ io_2) rfl (by rw [hml]; exact hl.1) rfl jd_J0_init_db425_1 (Nat.le_of_ble_eq_true rfl) (Nat.le_of_ble_eq_true rfl) ?_
  refine W.eq (g2 := F0 mt 4 ls []) rfl ?_
  refine lv_aload_n hx hb jd_J0_init_db425_4 rfl (lv_at hl 1 rfl) ?_
  refine j_V (As := []) (st := []) (C0 := RJ4) (ws := ([(q, .inr (9, [.null, .int 0, .int 0, .int 0])), (a, .inr (8, [.ref b, .int 0, .int 0, .int (nI n)])), (b, .inl (E0.2.2 4, m, .inl f))] : va_W)) (wc := [(a, .inr (8, [.ref b, .int 0, .int 0, .int (nI n)])), (b, .inl (E0.2.2 4, m, .inl f))]) (wr := ([(q, .inr (9, [.null, .int 0, .int 0, .int 0]))] : va_W)) [1, 2] [0] C rfl rfl rfl rfl (by decide) (jt_val l E0 a b (nI n) m f) jd_J0_init_db425_5 rfl (va_recv (ci := 8) (q := (RJ4, TJ4, 4)) (q0 := 1) hK hP rfl rfl) yk_J5_getValue_6d5f1 jl_J0_552 ji_J5_getValue_6d5f1 (hts _ jse_J5_getValue_6d5f1) ⟨Nat.le_of_ble_eq_true rfl, Nat.le_of_ble_eq_true rfl⟩ (show _ ≤ 8 from Nat.le_of_ble_eq_true rfl) (show _ ∧ _ from ⟨Nat.le_of_ble_eq_true rfl, Nat.le_of_ble_eq_true rfl⟩) hl.1 hP hD hS (fun v w H locs hq hP hD hS => ?_)
  obtain ⟨rfl, rfl⟩ := hq
  have hP : va_P E0.1 vwCl ([(q, .inr (9, [.null, .int 0, .int 0, .int 0])), (a, .inr (8, [.ref b, .int 0, .int 0, .int (nI n)])), (b, .inl (E0.2.2 4, m, .inl f))] : va_W) H := hP
  have hD : va_D A ([(q, .inr (9, [.null, .int 0, .int 0, .int 0])), (a, .inr (8, [.ref b, .int 0, .int 0, .int (nI n)])), (b, .inl (E0.2.2 4, m, .inl f))] : va_W) := hD
  refine W.eq (g2 := F0 mt 8 ls [.ref b]) rfl ?_
  refine lv_astore_n (lv' := [(3, .ref b), (0, .ref q), (1, .ref a), (2, .null)]) hx hb jd_J0_init_db425_8 rfl hl (by decide) rfl (fun ls hl => ?_)
  refine lv_aload_n hx hb jd_J0_init_db425_9 rfl (lv_at hl 2 rfl) ?_
  refine j_O (As := []) (st := []) (C0 := RJ4) (owner := RJ5) (x := yJ5_length_8abf5) (ws := ([(q, .inr (9, [.null, .int 0, .int 0, .int 0])), (a, .inr (8, [.ref b, .int 0, .int 0, .int (nI n)])), (b, .inl (E0.2.2 4, m, .inl f))] : va_W)) (wc := [(a, .inr (8, [.ref b, .int 0, .int 0, .int (nI n)])), (b, .inl (E0.2.2 4, m, .inl f))]) (wr := ([(q, .inr (9, [.null, .int 0, .int 0, .int 0]))] : va_W)) [1, 2] [0] C rfl rfl rfl rfl (by decide) (jt_len l E0 a b (nI n) m f) jd_J0_init_db425_10 rfl (va_recv (ci := 8) (q := (RJ4, TJ4, 4)) (q0 := 1) hK hP rfl rfl) yk_J4_length_8abf5 jl_J0_549 ji_J4_length_8abf5 jo_J5_length_8abf5 jm_J5_length_8abf5 ji_J5_length_8abf5 jk_J5_length_8abf5 (by decide) rfl ⟨Nat.le_of_ble_eq_true rfl, Nat.le_of_ble_eq_true rfl⟩ (show _ ≤ 8 from Nat.le_of_ble_eq_true rfl) (show _ ∧ _ from ⟨Nat.le_of_ble_eq_true rfl, Nat.le_of_ble_eq_true rfl⟩) hl.1 hP hD hS (fun v w H locs hq hP hD hS => ?_)
  obtain ⟨rfl, rfl⟩ := hq
  have hP : va_P E0.1 vwCl ([(q, .inr (9, [.null, .int 0, .int 0, .int 0])), (a, .inr (8, [.ref b, .int 0, .int 0, .int (nI n)])), (b, .inl (E0.2.2 4, m, .inl f))] : va_W) H := hP
  have hD : va_D A ([(q, .inr (9, [.null, .int 0, .int 0, .int 0])), (a, .inr (8, [.ref b, .int 0, .int 0, .int (nI n)])), (b, .inl (E0.2.2 4, m, .inl f))] : va_W) := hD
  refine W.eq (g2 := F0 mt 13 ls [.int (nI n)]) rfl ?_
  refine lv_istore (lv' := [(4, .int (nI n)), (3, .ref b), (0, .ref q), (1, .ref a), (2, .null)]) hx hb jd_J0_init_db425_13 hl (by decide) rfl (fun ls hl => ?_)
  refine lv_aload_n hx hb jd_J0_init_db425_15 rfl (lv_at hl 3 rfl) ?_
  refine j_V (As := []) (st := []) (C0 := RJ4) (ws := ([(q, .inr (9, [.null, .int 0, .int 0, .int 0])), (a, .inr (8, [.ref b, .int 0, .int 0, .int (nI n)])), (b, .inl (E0.2.2 4, m, .inl f))] : va_W)) (wc := [(a, .inr (8, [.ref b, .int 0, .int 0, .int (nI n)])), (b, .inl (E0.2.2 4, m, .inl f))]) (wr := ([(q, .inr (9, [.null, .int 0, .int 0, .int 0]))] : va_W)) [1, 2] [0] C rfl rfl rfl rfl (by decide) (jt_lat l E0 a b (nI n) m f) jd_J0_init_db425_16 rfl (va_recv (ci := 8) (q := (RJ4, TJ4, 4)) (q0 := 1) hK hP rfl rfl) yk_J5_isLatin1_aae02 jl_J0_1047 ji_J5_isLatin1_aae02 (hts _ jse_J5_isLatin1_aae02) ⟨Nat.le_of_ble_eq_true rfl, Nat.le_of_ble_eq_true rfl⟩ (show _ ≤ 8 from Nat.le_of_ble_eq_true rfl) (show _ ∧ _ from ⟨Nat.le_of_ble_eq_true rfl, Nat.le_of_ble_eq_true rfl⟩) hl.1 hP hD hS (fun v w H locs hq hP hD hS => ?_)
  obtain ⟨rfl, rfl⟩ := hq
  have hP : va_P E0.1 vwCl ([(q, .inr (9, [.null, .int 0, .int 0, .int 0])), (a, .inr (8, [.ref b, .int 0, .int 0, .int (nI n)])), (b, .inl (E0.2.2 4, m, .inl f))] : va_W) H := hP
  have hD : va_D A ([(q, .inr (9, [.null, .int 0, .int 0, .int 0])), (a, .inr (8, [.ref b, .int 0, .int 0, .int (nI n)])), (b, .inl (E0.2.2 4, m, .inl f))] : va_W) := hD
  refine W.eq (g2 := F0 mt 19 ls [.int 1]) rfl ?_
  refine lv_if_eq hx hb jd_J0_init_db425_19 (tgt := 41) (by decide) (fun h9 => absurd h9 (by decide)) (fun _ => ?_)
  refine lv_aload_n hx hb jd_J0_init_db425_22 rfl (lv_at hl 2 rfl) ?_
  refine lv_iconst (v := 0) hx hb jd_J0_init_db425_23 (by decide) ?_
  refine va_putF (D := E0.1) (ci := 9) (v := .int 0) (ty := .byte) (C := RJ0) (T := TJ0) (N := 4) hx hb hts (kcl_ws 9 _ rfl) tyJ0 tyJ0_ok nmJ0 hown hK hP hD hS 0 rfl rfl 1 (by decide) (hts _ jf_J0_15) (fun _ h9 => h9) rfl hnm rfl rfl rfl rfl (show _ < List.length _ from Nat.le_of_ble_eq_true rfl) jd_J0_init_db425_24 (fun H locs hP hD hS => ?_)
  have hP : va_P E0.1 vwCl ([(q, .inr (9, [.null, .int 0, .int 0, .int 0])), (a, .inr (8, [.ref b, .int 0, .int 0, .int (nI n)])), (b, .inl (E0.2.2 4, m, .inl f))] : va_W) H := hP
  have hD : va_D A ([(q, .inr (9, [.null, .int 0, .int 0, .int 0])), (a, .inr (8, [.ref b, .int 0, .int 0, .int (nI n)])), (b, .inl (E0.2.2 4, m, .inl f))] : va_W) := hD
  refine lv_aload_n hx hb jd_J0_init_db425_27 rfl (lv_at hl 2 rfl) ?_
  refine lv_aload_n hx hb jd_J0_init_db425_28 rfl (lv_at hl 1 rfl) ?_
  refine lv_iconst (v := 0) hx hb jd_J0_init_db425_29 (by decide) ?_
  refine lv_iload hx hb jd_J0_init_db425_30 (lv_at hl 0 rfl) ?_
  refine j_S (As := [.ref b, .int 0, .int (nI n)]) (st := [.ref q]) (ws := ([(q, .inr (9, [.null, .int 0, .int 0, .int 0])), (a, .inr (8, [.ref b, .int 0, .int 0, .int (nI n)])), (b, .inl (E0.2.2 4, m, .inl f))] : va_W)) (wc := [(b, .inl (E0.2.2 4, m, .inl f))]) (wr := ([(q, .inr (9, [.null, .int 0, .int 0, .int 0])), (a, .inr (8, [.ref b, .int 0, .int 0, .int (nI n)]))] : va_W)) [2] [0, 1] C rfl rfl rfl rfl (by decide) (jt_cor l E0 b n m f hf hn hm) jd_J0_init_db425_32 rfl yk_J7_copyOfRange_39247 jl_J0_54 js_J7_copyOfRange_39247 ⟨Nat.le_of_ble_eq_true rfl, Nat.le_of_ble_eq_true rfl⟩ (show _ ≤ 8 from Nat.le_of_ble_eq_true rfl) (show _ ∧ _ from ⟨Nat.le_of_ble_eq_true rfl, Nat.le_of_ble_eq_true rfl⟩) hl.1 hP hD hS (fun v w H locs hq hP hD hS => ?_)
  obtain ⟨b2, rfl, rfl⟩ := hq
  have hP : va_P E0.1 vwCl ([(q, .inr (9, [.null, .int 0, .int 0, .int 0])), (a, .inr (8, [.ref b, .int 0, .int 0, .int (nI n)])), (b, .inl (E0.2.2 4, m, .inl f)), (b2, .inl (E0.2.2 4, n, .inl (va_cpy f (fun _ => 0) 0 0 n)))] : va_W) H := hP
  have hD : va_D A ([(q, .inr (9, [.null, .int 0, .int 0, .int 0])), (a, .inr (8, [.ref b, .int 0, .int 0, .int (nI n)])), (b, .inl (E0.2.2 4, m, .inl f)), (b2, .inl (E0.2.2 4, n, .inl (va_cpy f (fun _ => 0) 0 0 n)))] : va_W) := hD
  refine W.eq (g2 := F0 mt 35 ls [.ref b2, .ref q]) rfl ?_
  refine va_putF (D := E0.1) (ci := 9) (v := .ref b2) (ty := (.array .byte)) (C := RJ0) (T := TJ0) (N := 4) hx hb hts (kcl_ws 9 _ rfl) tyJ0 tyJ0_ok nmJ0 hown hK hP hD hS 0 rfl rfl 0 (by decide) (hts _ jf_J0_9) (fun _ h9 => h9) rfl hnm rfl rfl rfl rfl (show _ < List.length _ from Nat.le_of_ble_eq_true rfl) jd_J0_init_db425_35 (fun H locs hP hD hS => ?_)
  have hP : va_P E0.1 vwCl ([(q, .inr (9, [.ref b2, .int 0, .int 0, .int 0])), (a, .inr (8, [.ref b, .int 0, .int 0, .int (nI n)])), (b, .inl (E0.2.2 4, m, .inl f)), (b2, .inl (E0.2.2 4, n, .inl (va_cpy f (fun _ => 0) 0 0 n)))] : va_W) H := hP
  have hD : va_D A ([(q, .inr (9, [.ref b2, .int 0, .int 0, .int 0])), (a, .inr (8, [.ref b, .int 0, .int 0, .int (nI n)])), (b, .inl (E0.2.2 4, m, .inl f)), (b2, .inl (E0.2.2 4, n, .inl (va_cpy f (fun _ => 0) 0 0 n)))] : va_W) := hD
  refine lv_goto hx hb jd_J0_init_db425_38 (tgt := 97) (by decide) ?_
  exact j_vret B jd_J0_init_db425_97 rfl (⟨_, rfl, rfl⟩) (Nat.le_of_ble_eq_true rfl) (Nat.le_of_ble_eq_true rfl) hP hD hS
theorem jd_J0_init_81219_0 : decode cJ0_init_81219 0 = .ok (.aload_n 0, 1) := by decide +kernel
theorem jd_J0_init_81219_1 : decode cJ0_init_81219 1 = .ok (.aload_n 1, 1) := by decide +kernel
theorem jd_J0_init_81219_2 : decode cJ0_init_81219 2 = .ok (.aconst_null, 1) := by decide +kernel
theorem jd_J0_init_81219_3 : decode cJ0_init_81219 3 = .ok (.invokespecial 489, 3) := by decide +kernel
theorem yk_J0_init_db425 : KMW yJ0_init_db425 mzJ0_init_db425 2 := ⟨⟨by decide +kernel, by decide +kernel, by decide +kernel⟩, ⟨rfl, rfl⟩, kg_in 63 (by decide +kernel) (by decide +kernel), kg_in 1316 (by decide +kernel) (by decide +kernel)⟩
theorem jl_J0_489 : Cond.methodLink RJ0 489 yJ0_init_db425 ∈ kg := kg_in 1314 (by decide +kernel) (by decide +kernel)
theorem ji_J0_init_db425 : Cond.instanceMethod yJ0_init_db425 ∈ kg := kg_in 1315 (by decide +kernel) (by decide +kernel)
theorem jd_J0_init_81219_6 : decode cJ0_init_81219 6 = .ok (.return_, 1) := by decide +kernel
abbrev mzJ0_init_81219 : KM := (RJ0, cJ0_init_81219, 2, none, { frames := 4, cells := 1, slots := 34, locals := 134 }, 1, 34)
set_option maxHeartbeats 1000000 in
set_option maxRecDepth 100000 in
theorem jt_sinit (l : Launch) (E0 : KE) (q a b n m : Nat) (f : Nat → Int32) (hf : sb_Fit f) (hn : n < m) (hm : m ≤ 34) : JC l E0 yJ0_init_81219 mzJ0_init_81219 [.ref q, .ref a] [(q, .inr (9, [.null, .int 0, .int 0, .int 0])), (a, .inr (8, [.ref b, .int 0, .int 0, .int (nI n)])), (b, .inl (E0.2.2 4, m, .inl f))] (fun v w => ∃ b2 : Nat, v = none ∧ w = [(q, .inr (9, [.ref b2, .int 0, .int 0, .int 0])), (a, .inr (8, [.ref b, .int 0, .int 0, .int (nI n)])), (b, .inl (E0.2.2 4, m, .inl f)), (b2, .inl (E0.2.2 4, n, .inl (va_cpy f (fun _ => 0) 0 0 n)))]) := by
  refine jc_of [(0, .ref q), (1, .ref a)] (by decide +kernel) rfl rfl (Nat.le_of_ble_eq_true rfl) ?_
  intro A pr e s mt args below meth c Q B H locs ls hP hD hS hl
  have C := B.1
  have hnm := B.2.1
  obtain ⟨hx, hb, hml, hown, hts, hA, hK, hF⟩ := id C
  refine lv_aload_n hx hb jd_J0_init_81219_0 rfl (lv_at hl 0 rfl) ?_
  refine lv_aload_n hx hb jd_J0_init_81219_1 rfl (lv_at hl 1 rfl) ?_
  refine lv_null hx hb jd_J0_init_81219_2 ?_
  refine j_I (As := [.ref a, .null]) (st := []) (ws := ([(q, .inr (9, [.null, .int 0, .int 0, .int 0])), (a, .inr (8, [.ref b, .int 0, .int 0, .int (nI n)])), (b, .inl (E0.2.2 4, m, .inl f))] : va_W)) (wc := [(q, .inr (9, [.null, .int 0, .int 0, .int 0])), (a, .inr (8, [.ref b, .int 0, .int 0, .int (nI n)])), (b, .inl (E0.2.2 4, m, .inl f))]) (wr := ([] : va_W)) [0, 1, 2] [] C rfl rfl rfl rfl (by decide) (jt_sinit2 l E0 q a b n m f hf hn hm) jd_J0_init_81219_3 rfl yk_J0_init_db425 jl_J0_489 ji_J0_init_db425 rfl rfl ⟨Nat.le_of_ble_eq_true rfl, Nat.le_of_ble_eq_true rfl⟩ (show _ ≤ 8 from Nat.le_of_ble_eq_true rfl) (show _ ∧ _ from ⟨Nat.le_of_ble_eq_true rfl, Nat.le_of_ble_eq_true rfl⟩) hl.1 hP hD hS (fun v w H locs hq hP hD hS => ?_)
  obtain ⟨b2, rfl, rfl⟩ := hq
  have hP : va_P E0.1 vwCl ([(q, .inr (9, [.ref b2, .int 0, .int 0, .int 0])), (a, .inr (8, [.ref b, .int 0, .int 0, .int (nI n)])), (b, .inl (E0.2.2 4, m, .inl f)), (b2, .inl (E0.2.2 4, n, .inl (va_cpy f (fun _ => 0) 0 0 n)))] : va_W) H := hP
  have hD : va_D A ([(q, .inr (9, [.ref b2, .int 0, .int 0, .int 0])), (a, .inr (8, [.ref b, .int 0, .int 0, .int (nI n)])), (b, .inl (E0.2.2 4, m, .inl f)), (b2, .inl (E0.2.2 4, n, .inl (va_cpy f (fun _ => 0) 0 0 n)))] : va_W) := hD
  refine W.eq (g2 := F0 mt 6 ls []) rfl ?_
  exact j_vret B jd_J0_init_81219_6 rfl (⟨_, rfl, rfl⟩) (Nat.le_of_ble_eq_true rfl) (Nat.le_of_ble_eq_true rfl) hP hD hS
theorem jd_J4_toString_0e30d_0 : decode cJ4_toString_0e30d 0 = .ok (.new 18, 3) := by decide +kernel
theorem jn_18 : Cond.classLink RJ4 18 RJ0 ∈ kg := kg_in 1309 (by decide +kernel) (by decide +kernel)
theorem nI_J0 : Cond.instantiable RJ0 4 ∈ kg := kg_in 1310 (by decide +kernel) (by decide +kernel)
theorem tI_J0 : Cond.initialized RJ0 ∈ kg := kg_in 63 (by decide +kernel) (by decide +kernel)
theorem jd_J4_toString_0e30d_3 : decode cJ4_toString_0e30d 3 = .ok (.dup, 1) := by decide +kernel
theorem jd_J4_toString_0e30d_4 : decode cJ4_toString_0e30d 4 = .ok (.aload_n 0, 1) := by decide +kernel
theorem jd_J4_toString_0e30d_5 : decode cJ4_toString_0e30d 5 = .ok (.invokespecial 137, 3) := by decide +kernel
theorem yk_J0_init_81219 : KMW yJ0_init_81219 mzJ0_init_81219 1 := ⟨⟨by decide +kernel, by decide +kernel, by decide +kernel⟩, ⟨rfl, rfl⟩, kg_in 63 (by decide +kernel) (by decide +kernel), kg_in 1313 (by decide +kernel) (by decide +kernel)⟩
theorem jl_J4_137 : Cond.methodLink RJ4 137 yJ0_init_81219 ∈ kg := kg_in 1311 (by decide +kernel) (by decide +kernel)
theorem ji_J0_init_81219 : Cond.instanceMethod yJ0_init_81219 ∈ kg := kg_in 1312 (by decide +kernel) (by decide +kernel)
theorem jd_J4_toString_0e30d_8 : decode cJ4_toString_0e30d 8 = .ok (.areturn, 1) := by decide +kernel
abbrev mzJ4_toString_0e30d : KM := (RJ4, cJ4_toString_0e30d, 1, (some (.object "java/lang/String")), { frames := 5, cells := 2, slots := 38, locals := 155 }, 2, 38)
set_option maxHeartbeats 1000000 in
set_option maxRecDepth 100000 in
theorem jt_str (l : Launch) (E0 : KE) (a b n m : Nat) (f : Nat → Int32) (hf : sb_Fit f) (hn : n < m) (hm : m ≤ 34) : JC l E0 yJ4_toString_0e30d mzJ4_toString_0e30d [.ref a] [(a, .inr (8, [.ref b, .int 0, .int 0, .int (nI n)])), (b, .inl (E0.2.2 4, m, .inl f))] (fun v w => ∃ q b2 : Nat, v = some (.ref q) ∧ w = [(q, .inr (9, [.ref b2, .int 0, .int 0, .int 0])), (a, .inr (8, [.ref b, .int 0, .int 0, .int (nI n)])), (b, .inl (E0.2.2 4, m, .inl f)), (b2, .inl (E0.2.2 4, n, .inl (va_cpy f (fun _ => 0) 0 0 n)))]) := by
  refine jc_of [(0, .ref a)] (by decide +kernel) rfl rfl (Nat.le_of_ble_eq_true rfl) ?_
  intro A pr e s mt args below meth c Q B H locs ls hP hD hS hl
  have C := B.1
  have hnm := B.2.1
  obtain ⟨hx, hb, hml, hown, hts, hA, hK, hF⟩ := id C
  refine va_new (D := E0.1) (ci := 9) (C := RJ0) (T := TJ0) (N := 4) (fs := [.null, .int 0, .int 0, .int 0]) hx hb hts (kcl_ws 9 _ rfl) tyJ0 tyJ0_ok hown (hts _ jn_18) (hts _ nI_J0) (hts _ tI_J0) hK hP hD hS hA rfl (by decide) (Nat.le_of_ble_eq_true rfl) (Nat.le_of_ble_eq_true rfl) jd_J4_toString_0e30d_0 (fun q9 H hP hD hS => ?_)
  have hP : va_P E0.1 vwCl ([(a, .inr (8, [.ref b, .int 0, .int 0, .int (nI n)])), (b, .inl (E0.2.2 4, m, .inl f)), (q9, .inr (9, [.null, .int 0, .int 0, .int 0]))] : va_W) H := hP
  have hD : va_D A ([(a, .inr (8, [.ref b, .int 0, .int 0, .int (nI n)])), (b, .inl (E0.2.2 4, m, .inl f)), (q9, .inr (9, [.null, .int 0, .int 0, .int 0]))] : va_W) := hD
  refine lv_dup hx hb jd_J4_toString_0e30d_3 rfl ?_
  refine lv_aload_n hx hb jd_J4_toString_0e30d_4 rfl (lv_at hl 0 rfl) ?_
  refine j_I (As := [.ref a]) (st := [.ref q9]) (ws := ([(a, .inr (8, [.ref b, .int 0, .int 0, .int (nI n)])), (b, .inl (E0.2.2 4, m, .inl f)), (q9, .inr (9, [.null, .int 0, .int 0, .int 0]))] : va_W)) (wc := [(q9, .inr (9, [.null, .int 0, .int 0, .int 0])), (a, .inr (8, [.ref b, .int 0, .int 0, .int (nI n)])), (b, .inl (E0.2.2 4, m, .inl f))]) (wr := ([] : va_W)) [2, 0, 1] [] C rfl rfl rfl rfl (by decide) (jt_sinit l E0 q9 a b n m f hf hn hm) jd_J4_toString_0e30d_5 rfl yk_J0_init_81219 jl_J4_137 ji_J0_init_81219 rfl rfl ⟨Nat.le_of_ble_eq_true rfl, Nat.le_of_ble_eq_true rfl⟩ (show _ ≤ 8 from Nat.le_of_ble_eq_true rfl) (show _ ∧ _ from ⟨Nat.le_of_ble_eq_true rfl, Nat.le_of_ble_eq_true rfl⟩) hl.1 hP hD hS (fun v w H locs hq hP hD hS => ?_)
  obtain ⟨b2, rfl, rfl⟩ := hq
  have hP : va_P E0.1 vwCl ([(q9, .inr (9, [.ref b2, .int 0, .int 0, .int 0])), (a, .inr (8, [.ref b, .int 0, .int 0, .int (nI n)])), (b, .inl (E0.2.2 4, m, .inl f)), (b2, .inl (E0.2.2 4, n, .inl (va_cpy f (fun _ => 0) 0 0 n)))] : va_W) H := hP
  have hD : va_D A ([(q9, .inr (9, [.ref b2, .int 0, .int 0, .int 0])), (a, .inr (8, [.ref b, .int 0, .int 0, .int (nI n)])), (b, .inl (E0.2.2 4, m, .inl f)), (b2, .inl (E0.2.2 4, n, .inl (va_cpy f (fun _ => 0) 0 0 n)))] : va_W) := hD
  refine W.eq (g2 := F0 mt 8 ls [.ref q9]) rfl ?_
  exact j_aret B jd_J4_toString_0e30d_8 rfl (.inl ⟨_, rfl⟩) (⟨_, _, rfl, rfl⟩) (Nat.le_of_ble_eq_true rfl) (Nat.le_of_ble_eq_true rfl) hP hD hS
