/-! the law's own body: what it asks first, the text, the load -/
theorem dgs_ge (v : Nat) : 1 ≤ (dgs v).length := by
  unfold dgs
  split
  · exact Nat.le_of_ble_eq_true rfl
  · split <;> exact Nat.le_of_ble_eq_true rfl
theorem la_out {E : KE} {A : Nat → Prop} {D : va_G} {raws : va_W} {σ : Sto} {H : Heap} {q b : Nat} {sh1 : KSh} {x : Nat × va_E} (hP : va_P D vwCl (raws ++ kwl E ksh σ) H) (hD : va_D A (raws ++ kwl E ksh σ)) (hx : x ∈ raws) : ¬ kwa (tE E q b) (kxt sh1 ksh) H.size x.1 := by
  obtain ⟨d1, -⟩ := va_D_iff.mp hD
  rw [List.map_append, List.nodup_append] at d1
  intro h
  rcases h with ⟨j, hj, hxj⟩ | h
  · rw [kpl_xt] at hj
    have hj1 : j < 135 := List.mem_range.mp (List.mem_filter.mp hj).1
    rw [tE_ne (by omega) (by omega)] at hxj
    exact d1.2.2 x.1 (List.mem_map.mpr ⟨x, hx, rfl⟩) (E.2.1 j) (List.mem_map.mpr ⟨(E.2.1 j, kce E ksh σ j), List.mem_map.mpr ⟨j, hj, rfl⟩, rfl⟩) hxj
  · obtain ⟨i, hi⟩ := List.getElem?_of_mem (List.mem_append.mpr (.inl hx) : x ∈ raws ++ kwl E ksh σ)
    exact absurd (hP i x hi).lt (Nat.not_lt.mpr h)
theorem la_in {E : KE} {A : Nat → Prop} {raws : va_W} {σ : Sto} {H : Heap} {q b sz : Nat} {sh1 : KSh} (hD : va_D A (raws ++ kwl E ksh σ)) (hA : ∀ q, sz ≤ q → A q) (hz : sz ≤ H.size) : ∀ x, kwa (tE E q b) (kxt sh1 ksh) H.size x → A x := by
  intro x h
  rcases h with ⟨j, hj, rfl⟩ | h
  · rw [kpl_xt] at hj
    have hj1 : j < 135 := List.mem_range.mp (List.mem_filter.mp hj).1
    rw [tE_ne (by omega) (by omega)]
    exact (va_D_iff.mp hD).2 (E.2.1 j, kce E ksh σ j) (List.mem_append.mpr (.inr (List.mem_map.mpr ⟨j, hj, rfl⟩)))
  · exact hA x (Nat.le_trans hz h)
theorem u_str {args : Array Value} {s U : State} (hts : ∀ w ∈ kg, w.before args s = true) (hW : s.WarmedH U.vm) : ∀ w ∈ u_ws RJ0 TJ0 4, w.before #[] U = true :=
  fun w hw => pay_in hts (fun w hw => kgood (kcl_ws 9 _ rfl w hw)) w hw #[] U hW
theorem txt_eq (a r k : Nat) : (((((([] ++ jby 0) ++ dgs (angN a)) ++ jby 1) ++ dgs (1 + r)) ++ jby 2) ++ dgs (1 + k)) ++ jby 3 = txt a r k := by
  show (((((([] ++ tx0) ++ dgs (angN a)) ++ tx1) ++ dgs (1 + r)) ++ tx2) ++ dgs (1 + k)) ++ [59] = _
  unfold txt
  simp only [List.append_assoc, List.nil_append]
theorem txt_len (a r k : Nat) : 24 ≤ (txt a r k).length ∧ (txt a r k).length ≤ 30 := by
  have h1 := dgs_le (angN a); have h2 := dgs_le (1 + r); have h3 := dgs_le (1 + k)
  have g1 := dgs_ge (angN a); have g2 := dgs_ge (1 + r); have g3 := dgs_ge (1 + k)
  unfold txt
  rw [List.length_append, List.length_append, List.length_append, List.length_append, List.length_append, List.length_append]
  have e0 : tx0.length = 6 := rfl
  have e1 : tx1.length = 8 := rfl
  have e2 : tx2.length = 6 := rfl
  have e3 : ([59] : List Nat).length = 1 := rfl
  omega
set_option maxHeartbeats 4000000 in
set_option maxRecDepth 100000 in
theorem law_text {l : Launch} {E0 : KE} {sh0 : KSh} {A : Nat → Prop} {p : Program} {e : Env} {s : State} {m : MethodId} {below : List Frame} {meth : Method} {c : Code} {b : Nat} {Q : State → Prop} (hst : l.stackTraces = false) (hz0 : ∀ q, 1000 ≤ q → ∃ n, sh0 q = .inr (2, n)) (C : LWX l E0 sh0 A p s m #[Value.ref b] c) {E : KE} {σ : Sto} (hE : EQ E0 E) (h : INV (mNew 60 3) [] σ) (ht : TD 0 σ) (h5 : σ 5 1 = 0) (hend : ∀ (k n : Nat) (lo : List (Nat × Value)) (ws : va_W), k ≤ 600086 → n ≤ 7301442 → IW l E0 A p e room_1 s m #[Value.ref b] below meth c 4 Q k n 212 lo [.int 1] ws) :
    IW l E0 A p e room_1 s m #[Value.ref b] below meth c 4 Q 134 10610 72 [(2, .ref (E.2.1 0)), (1, .ref (E.2.1 133)), (0, .ref b)] [] ([] ++ kwl E ksh σ) := by
  have C1 := C.1
  refine ii_aload_n (pc := 72) C1 0 dl_72 rfl rfl ?_
  refine ii_new (pc := 73) (ci := 8) tyJ4 tyJ4_ok C1 dl_73 rfl cI_L_154 nI_J4 tI_J4 (show _ ∧ _ from ⟨Nat.le_of_ble_eq_true rfl, Nat.le_of_ble_eq_true rfl⟩) (fun a => ?_)
  refine ii_dup (pc := 76) C1 dl_76 ?_
  refine ii_perm (ws' := ([(a, .inr (8, [.null, .int 0, .int 0, .int 0]))] : va_W) ++ kwl E ksh σ) List.perm_append_comm ?_
  refine la_JI (pc := 77) (wc := [(a, .inr (8, [.null, .int 0, .int 0, .int 0]))]) (wr := kwl E ksh σ) (st := [.ref a, .ref (E.2.1 0)]) (As := []) C (jt_init l E0 a) dl_77 rfl yk_J4_init_da8c8 lI_L_156 ji_J4_init_da8c8 rfl rfl ⟨Nat.le_of_ble_eq_true rfl, Nat.le_of_ble_eq_true rfl⟩ (show _ ≤ 8 from Nat.le_of_ble_eq_true rfl) (show _ ∧ _ from ⟨Nat.le_of_ble_eq_true rfl, Nat.le_of_ble_eq_true rfl⟩) (fun v w hq => ?_)
  obtain ⟨rfl, b1, m1, f1, rfl, hm1, hl1, hf1, hL1⟩ := hq
  refine ii_ldcS (pc := 80) 0 (by decide) C dl_80 ?_
  refine la_JV (pc := 82) (q0 := 0) (ci := 8) (wc := [(a, .inr (8, [.ref b1, .int 0, .int 0, .int (nI (([] : List Nat)).length)])), (b1, .inl (E0.2.2 4, m1, .inl f1))]) (wr := kwl E ksh σ) (st := [.ref (E.2.1 0)]) (As := [.ref (E0.2.1 (2020 + 0))]) C (jt_appS l E0 a b1 m1 f1 ([] : List Nat) 0 (by decide) hm1 hl1 hf1 hL1 (by decide)) dl_82 rfl rfl rfl yk_J4_append_15ec4 lI_L_159 ji_J4_append_15ec4 jse_J4_append_15ec4 ⟨Nat.le_of_ble_eq_true rfl, Nat.le_of_ble_eq_true rfl⟩ (show _ ≤ 8 from Nat.le_of_ble_eq_true rfl) (show _ ∧ _ from ⟨Nat.le_of_ble_eq_true rfl, Nat.le_of_ble_eq_true rfl⟩) (fun v w hq => ?_)
  obtain ⟨rfl, b2, m2, f2, rfl, hm2, hl2, hf2, hL2⟩ := hq
  have z1 : (([] : List Nat) ++ jby 0).length = 6 := rfl
  refine ii_aload_n (pc := 85) C1 1 dl_85 rfl rfl ?_
  refine ii_iconst (pc := 86) (v := 5) C1 dl_86 (by decide) ?_
  obtain ⟨a0, ha, ea0, ht1⟩ := k_draw (sh := (kxt sh0 ksh)) (σ := σ) ht (d := 5) (by omega) (by omega) (by omega) (D := 5) rfl
  have hi1 : INV (mNew 60 3) [] (su σ 133 1 (nI (0 + 1))) := inv_draw h
  refine la_V (pc := 87) (q := 133) (ci := 7) (M' := mX7_next) (st := [.ref a, .ref (E.2.1 0)]) ([(a, .inr (8, [.ref b2, .int 0, .int 0, .int (nI ((([] : List Nat) ++ jby 0)).length)])), (b2, .inl (E0.2.2 4, m2, .inl f2))] : va_W) [.int 5] C hE hz0 ko_all (tX7_next (kxt sh0 ksh) (kag_xt hz0) l hst 5 σ _ ea0) rfl dl_87 rfl ksh_133 rfl yw_X7_next lk_L_116 ⟨Nat.le_of_ble_eq_true rfl, Nat.le_of_ble_eq_true rfl⟩ (show _ ≤ 8 from Nat.le_of_ble_eq_true rfl) (show _ ∧ _ from ⟨Nat.le_of_ble_eq_true rfl, Nat.le_of_ble_eq_true rfl⟩) ?_
  refine la_S (pc := 90) (M' := mL_angle) (st := [.ref a, .ref (E.2.1 0)]) ([(a, .inr (8, [.ref b2, .int 0, .int 0, .int (nI ((([] : List Nat) ++ jby 0)).length)])), (b2, .inl (E0.2.2 4, m2, .inl f2))] : va_W) [.int (nI a0)] C hE hz0 ko_all (tL_angle (kxt sh0 ksh) (kag_xt hz0) l hst (nI a0) (su σ 133 1 (nI (0 + 1))) _ (ang_law a0 ha)) rfl dl_90 rfl yw_L_angle lI_L_163 ⟨Nat.le_of_ble_eq_true rfl, Nat.le_of_ble_eq_true rfl⟩ (show _ ≤ 8 from Nat.le_of_ble_eq_true rfl) (show _ ∧ _ from ⟨Nat.le_of_ble_eq_true rfl, Nat.le_of_ble_eq_true rfl⟩) ?_
  have y1 := dgs_le (angN a0)
  refine la_JV (pc := 93) (q0 := 0) (ci := 8) (wc := [(a, .inr (8, [.ref b2, .int 0, .int 0, .int (nI ((([] : List Nat) ++ jby 0)).length)])), (b2, .inl (E0.2.2 4, m2, .inl f2))]) (wr := kwl E ksh (su σ 133 1 (nI (0 + 1)))) (st := [.ref (E.2.1 0)]) (As := [.int (nI (angN a0))]) C (jt_appI l E0 a b2 m2 f2 (([] : List Nat) ++ jby 0) (angN a0) (ang_lt a0 ha) hm2 hl2 hf2 hL2 (by omega)) dl_93 rfl rfl rfl yk_J4_append_bf812 lI_L_166 ji_J4_append_bf812 jse_J4_append_bf812 ⟨Nat.le_of_ble_eq_true rfl, Nat.le_of_ble_eq_true rfl⟩ (show _ ≤ 8 from Nat.le_of_ble_eq_true rfl) (show _ ∧ _ from ⟨Nat.le_of_ble_eq_true rfl, Nat.le_of_ble_eq_true rfl⟩) (fun v w hq => ?_)
  obtain ⟨rfl, b3, m3, f3, rfl, hm3, hl3, hf3, hL3⟩ := hq
  have z2 : ((([] : List Nat) ++ jby 0) ++ dgs (angN a0)).length ≤ 9 := by rw [List.length_append]; omega
  have q1 : (jby 1).length = 8 := rfl
  have q2 : (jby 2).length = 6 := rfl
  have q3 : (jby 3).length = 1 := rfl
  refine ii_ldcS (pc := 96) 1 (by decide) C dl_96 ?_
  refine la_JV (pc := 98) (q0 := 0) (ci := 8) (wc := [(a, .inr (8, [.ref b3, .int 0, .int 0, .int (nI (((([] : List Nat) ++ jby 0) ++ dgs (angN a0))).length)])), (b3, .inl (E0.2.2 4, m3, .inl f3))]) (wr := kwl E ksh (su σ 133 1 (nI (0 + 1)))) (st := [.ref (E.2.1 0)]) (As := [.ref (E0.2.1 (2020 + 1))]) C (jt_appS l E0 a b3 m3 f3 ((([] : List Nat) ++ jby 0) ++ dgs (angN a0)) 1 (by decide) hm3 hl3 hf3 hL3 (by omega)) dl_98 rfl rfl rfl yk_J4_append_15ec4 lI_L_159 ji_J4_append_15ec4 jse_J4_append_15ec4 ⟨Nat.le_of_ble_eq_true rfl, Nat.le_of_ble_eq_true rfl⟩ (show _ ≤ 8 from Nat.le_of_ble_eq_true rfl) (show _ ∧ _ from ⟨Nat.le_of_ble_eq_true rfl, Nat.le_of_ble_eq_true rfl⟩) (fun v w hq => ?_)
  obtain ⟨rfl, b4, m4, f4, rfl, hm4, hl4, hf4, hL4⟩ := hq
  have z3 : (((([] : List Nat) ++ jby 0) ++ dgs (angN a0)) ++ jby 1).length ≤ 17 := by rw [List.length_append]; omega
  refine ii_iconst (pc := 101) (v := 1) C1 dl_101 (by decide) ?_
  refine ii_aload_n (pc := 102) C1 1 dl_102 rfl rfl ?_
  refine ii_iconst (pc := 103) (v := 4) C1 dl_103 (by decide) ?_
  obtain ⟨r0, hr, er0, ht2⟩ := k_draw (sh := (kxt sh0 ksh)) (σ := (su σ 133 1 (nI (0 + 1)))) ht1 (d := 4) (by omega) (by omega) (by omega) (D := 4) rfl
  have hi2 : INV (mNew 60 3) [] (su (su σ 133 1 (nI (0 + 1))) 133 1 (nI (0 + 1 + 1))) := inv_draw hi1
  refine la_V (pc := 104) (q := 133) (ci := 7) (M' := mX7_next) (st := [.int 1, .ref a, .ref (E.2.1 0)]) ([(a, .inr (8, [.ref b4, .int 0, .int 0, .int (nI ((((([] : List Nat) ++ jby 0) ++ dgs (angN a0)) ++ jby 1)).length)])), (b4, .inl (E0.2.2 4, m4, .inl f4))] : va_W) [.int 4] C hE hz0 ko_all (tX7_next (kxt sh0 ksh) (kag_xt hz0) l hst 4 (su σ 133 1 (nI (0 + 1))) _ er0) rfl dl_104 rfl ksh_133 rfl yw_X7_next lk_L_116 ⟨Nat.le_of_ble_eq_true rfl, Nat.le_of_ble_eq_true rfl⟩ (show _ ≤ 8 from Nat.le_of_ble_eq_true rfl) (show _ ∧ _ from ⟨Nat.le_of_ble_eq_true rfl, Nat.le_of_ble_eq_true rfl⟩) ?_
  refine ii_iadd (pc := 107) C1 dl_107 ?_
  refine ii_i (x' := nI (1 + r0)) (nI_add 1 r0) ?_
  have y2 := dgs_le (1 + r0)
  refine la_JV (pc := 108) (q0 := 0) (ci := 8) (wc := [(a, .inr (8, [.ref b4, .int 0, .int 0, .int (nI ((((([] : List Nat) ++ jby 0) ++ dgs (angN a0)) ++ jby 1)).length)])), (b4, .inl (E0.2.2 4, m4, .inl f4))]) (wr := kwl E ksh (su (su σ 133 1 (nI (0 + 1))) 133 1 (nI (0 + 1 + 1)))) (st := [.ref (E.2.1 0)]) (As := [.int (nI (1 + r0))]) C (jt_appI l E0 a b4 m4 f4 (((([] : List Nat) ++ jby 0) ++ dgs (angN a0)) ++ jby 1) (1 + r0) (by omega) hm4 hl4 hf4 hL4 (by omega)) dl_108 rfl rfl rfl yk_J4_append_bf812 lI_L_166 ji_J4_append_bf812 jse_J4_append_bf812 ⟨Nat.le_of_ble_eq_true rfl, Nat.le_of_ble_eq_true rfl⟩ (show _ ≤ 8 from Nat.le_of_ble_eq_true rfl) (show _ ∧ _ from ⟨Nat.le_of_ble_eq_true rfl, Nat.le_of_ble_eq_true rfl⟩) (fun v w hq => ?_)
  obtain ⟨rfl, b5, m5, f5, rfl, hm5, hl5, hf5, hL5⟩ := hq
  have z4 : ((((([] : List Nat) ++ jby 0) ++ dgs (angN a0)) ++ jby 1) ++ dgs (1 + r0)).length ≤ 20 := by rw [List.length_append]; omega
  refine ii_ldcS (pc := 111) 2 (by decide) C dl_111 ?_
  refine la_JV (pc := 113) (q0 := 0) (ci := 8) (wc := [(a, .inr (8, [.ref b5, .int 0, .int 0, .int (nI (((((([] : List Nat) ++ jby 0) ++ dgs (angN a0)) ++ jby 1) ++ dgs (1 + r0))).length)])), (b5, .inl (E0.2.2 4, m5, .inl f5))]) (wr := kwl E ksh (su (su σ 133 1 (nI (0 + 1))) 133 1 (nI (0 + 1 + 1)))) (st := [.ref (E.2.1 0)]) (As := [.ref (E0.2.1 (2020 + 2))]) C (jt_appS l E0 a b5 m5 f5 ((((([] : List Nat) ++ jby 0) ++ dgs (angN a0)) ++ jby 1) ++ dgs (1 + r0)) 2 (by decide) hm5 hl5 hf5 hL5 (by omega)) dl_113 rfl rfl rfl yk_J4_append_15ec4 lI_L_159 ji_J4_append_15ec4 jse_J4_append_15ec4 ⟨Nat.le_of_ble_eq_true rfl, Nat.le_of_ble_eq_true rfl⟩ (show _ ≤ 8 from Nat.le_of_ble_eq_true rfl) (show _ ∧ _ from ⟨Nat.le_of_ble_eq_true rfl, Nat.le_of_ble_eq_true rfl⟩) (fun v w hq => ?_)
  obtain ⟨rfl, b6, m6, f6, rfl, hm6, hl6, hf6, hL6⟩ := hq
  have z5 : (((((([] : List Nat) ++ jby 0) ++ dgs (angN a0)) ++ jby 1) ++ dgs (1 + r0)) ++ jby 2).length ≤ 26 := by rw [List.length_append]; omega
  refine ii_iconst (pc := 116) (v := 1) C1 dl_116 (by decide) ?_
  refine ii_aload_n (pc := 117) C1 1 dl_117 rfl rfl ?_
  refine ii_bipush (pc := 118) (v := 100) C1 dl_118 (by decide) ?_
  obtain ⟨k0, hk, ek0, ht3⟩ := k_draw (sh := (kxt sh0 ksh)) (σ := (su (su σ 133 1 (nI (0 + 1))) 133 1 (nI (0 + 1 + 1)))) ht2 (d := 100) (by omega) (by omega) (by omega) (D := 100) rfl
  have hi3 : INV (mNew 60 3) [] (su (su (su σ 133 1 (nI (0 + 1))) 133 1 (nI (0 + 1 + 1))) 133 1 (nI (0 + 1 + 1 + 1))) := inv_draw hi2
  refine la_V (pc := 120) (q := 133) (ci := 7) (M' := mX7_next) (st := [.int 1, .ref a, .ref (E.2.1 0)]) ([(a, .inr (8, [.ref b6, .int 0, .int 0, .int (nI ((((((([] : List Nat) ++ jby 0) ++ dgs (angN a0)) ++ jby 1) ++ dgs (1 + r0)) ++ jby 2)).length)])), (b6, .inl (E0.2.2 4, m6, .inl f6))] : va_W) [.int 100] C hE hz0 ko_all (tX7_next (kxt sh0 ksh) (kag_xt hz0) l hst 100 (su (su σ 133 1 (nI (0 + 1))) 133 1 (nI (0 + 1 + 1))) _ ek0) rfl dl_120 rfl ksh_133 rfl yw_X7_next lk_L_116 ⟨Nat.le_of_ble_eq_true rfl, Nat.le_of_ble_eq_true rfl⟩ (show _ ≤ 8 from Nat.le_of_ble_eq_true rfl) (show _ ∧ _ from ⟨Nat.le_of_ble_eq_true rfl, Nat.le_of_ble_eq_true rfl⟩) ?_
  refine ii_iadd (pc := 123) C1 dl_123 ?_
  refine ii_i (x' := nI (1 + k0)) (nI_add 1 k0) ?_
  have y3 := dgs_le (1 + k0)
  refine la_JV (pc := 124) (q0 := 0) (ci := 8) (wc := [(a, .inr (8, [.ref b6, .int 0, .int 0, .int (nI ((((((([] : List Nat) ++ jby 0) ++ dgs (angN a0)) ++ jby 1) ++ dgs (1 + r0)) ++ jby 2)).length)])), (b6, .inl (E0.2.2 4, m6, .inl f6))]) (wr := kwl E ksh (su (su (su σ 133 1 (nI (0 + 1))) 133 1 (nI (0 + 1 + 1))) 133 1 (nI (0 + 1 + 1 + 1)))) (st := [.ref (E.2.1 0)]) (As := [.int (nI (1 + k0))]) C (jt_appI l E0 a b6 m6 f6 (((((([] : List Nat) ++ jby 0) ++ dgs (angN a0)) ++ jby 1) ++ dgs (1 + r0)) ++ jby 2) (1 + k0) (by omega) hm6 hl6 hf6 hL6 (by omega)) dl_124 rfl rfl rfl yk_J4_append_bf812 lI_L_166 ji_J4_append_bf812 jse_J4_append_bf812 ⟨Nat.le_of_ble_eq_true rfl, Nat.le_of_ble_eq_true rfl⟩ (show _ ≤ 8 from Nat.le_of_ble_eq_true rfl) (show _ ∧ _ from ⟨Nat.le_of_ble_eq_true rfl, Nat.le_of_ble_eq_true rfl⟩) (fun v w hq => ?_)
  obtain ⟨rfl, b7, m7, f7, rfl, hm7, hl7, hf7, hL7⟩ := hq
  have z6 : ((((((([] : List Nat) ++ jby 0) ++ dgs (angN a0)) ++ jby 1) ++ dgs (1 + r0)) ++ jby 2) ++ dgs (1 + k0)).length ≤ 29 := by rw [List.length_append]; omega
  refine ii_ldcS (pc := 127) 3 (by decide) C dl_127 ?_
  refine la_JV (pc := 129) (q0 := 0) (ci := 8) (wc := [(a, .inr (8, [.ref b7, .int 0, .int 0, .int (nI (((((((([] : List Nat) ++ jby 0) ++ dgs (angN a0)) ++ jby 1) ++ dgs (1 + r0)) ++ jby 2) ++ dgs (1 + k0))).length)])), (b7, .inl (E0.2.2 4, m7, .inl f7))]) (wr := kwl E ksh (su (su (su σ 133 1 (nI (0 + 1))) 133 1 (nI (0 + 1 + 1))) 133 1 (nI (0 + 1 + 1 + 1)))) (st := [.ref (E.2.1 0)]) (As := [.ref (E0.2.1 (2020 + 3))]) C (jt_appS l E0 a b7 m7 f7 ((((((([] : List Nat) ++ jby 0) ++ dgs (angN a0)) ++ jby 1) ++ dgs (1 + r0)) ++ jby 2) ++ dgs (1 + k0)) 3 (by decide) hm7 hl7 hf7 hL7 (by omega)) dl_129 rfl rfl rfl yk_J4_append_15ec4 lI_L_159 ji_J4_append_15ec4 jse_J4_append_15ec4 ⟨Nat.le_of_ble_eq_true rfl, Nat.le_of_ble_eq_true rfl⟩ (show _ ≤ 8 from Nat.le_of_ble_eq_true rfl) (show _ ∧ _ from ⟨Nat.le_of_ble_eq_true rfl, Nat.le_of_ble_eq_true rfl⟩) (fun v w hq => ?_)
  rw [txt_eq a0 r0 k0] at hq
  obtain ⟨rfl, b8, m8, f8, rfl, hm8, hl8, hf8, hL8⟩ := hq
  obtain ⟨n1, n2⟩ := txt_len a0 r0 k0
  refine la_JV (pc := 132) (q0 := 0) (ci := 8) (wc := [(a, .inr (8, [.ref b8, .int 0, .int 0, .int (nI (txt a0 r0 k0).length)])), (b8, .inl (E0.2.2 4, m8, .inl f8))]) (wr := kwl E ksh (su (su (su σ 133 1 (nI (0 + 1))) 133 1 (nI (0 + 1 + 1))) 133 1 (nI (0 + 1 + 1 + 1)))) (st := [.ref (E.2.1 0)]) (As := []) C (jt_str l E0 a b8 (txt a0 r0 k0).length m8 f8 hf8 (by omega) (by omega)) dl_132 rfl rfl rfl yk_J4_toString_0e30d lI_L_175 ji_J4_toString_0e30d jse_J4_toString_0e30d ⟨Nat.le_of_ble_eq_true rfl, Nat.le_of_ble_eq_true rfl⟩ (show _ ≤ 8 from Nat.le_of_ble_eq_true rfl) (show _ ∧ _ from ⟨Nat.le_of_ble_eq_true rfl, Nat.le_of_ble_eq_true rfl⟩) (fun v w hq => ?_)
  obtain ⟨q, b9, rfl, rfl⟩ := hq
  have h51 : (su (su (su σ 133 1 (nI (0 + 1))) 133 1 (nI (0 + 1 + 1))) 133 1 (nI (0 + 1 + 1 + 1))) 5 1 = nI 0 := by rw [su_k (by decide), su_k (by decide), su_k (by decide)]; exact h5
  have hT99 : (txt a0 r0 k0).length ≤ 99 := by omega
  have hlt := txt_lt ha hr hk
  have htx : TXT (kxt (shT sh0 (txt a0 r0 k0)) ksh) (txt a0 r0 k0) := shT_txt hT99
  have hdl : (dyb (kxt (shT sh0 (txt a0 r0 k0)) ksh)).length = (txt a0 r0 k0).length := by rw [htx, List.length_map]
  obtain ⟨ρ, ef, hF, hbx⟩ := k_feed (sh := (kxt (shT sh0 (txt a0 r0 k0)) ksh)) (σ := (su (su (su σ 133 1 (nI (0 + 1))) 133 1 (nI (0 + 1 + 1))) 133 1 (nI (0 + 1 + 1 + 1)))) (by omega) (tb_isB htx (by omega) hlt) (by omega) h51
  rw [hdl] at hF
  refine la_T (pc := 135) (E := E) (E' := tE E q b9) (sh := ksh) (sh1 := shT sh0 (txt a0 r0 k0)) (σ := (su (su (su σ 133 1 (nI (0 + 1))) 133 1 (nI (0 + 1 + 1))) 133 1 (nI (0 + 1 + 1 + 1)))) (M' := mL_feed) (st := []) ([(q, .inr (9, [.ref b9, .int 0, .int 0, .int 0])), (a, .inr (8, [.ref b8, .int 0, .int 0, .int (nI (txt a0 r0 k0).length)])), (b8, .inl (E0.2.2 4, m8, .inl f8)), (b9, .inl (E0.2.2 4, (txt a0 r0 k0).length, .inl (va_cpy f8 (fun _ => 0) 0 0 (txt a0 r0 k0).length)))] : va_W) [.ref 0, .ref 2009] C ⟨hE.1, hE.2.1⟩ (shT_z hz0 _) ko_all tE_kwl (fun H locs hP hD hS U hU hWU => ?_) (tL_feed (kxt (shT sh0 (txt a0 r0 k0)) ksh) (kag_xt (shT_z hz0 _)) l hst (shT_ktx hT99) (su (su (su σ 133 1 (nI (0 + 1))) 133 1 (nI (0 + 1 + 1))) 133 1 (nI (0 + 1 + 1 + 1))) ρ ef) rfl dl_135 ?_ yw_L_feed lI_L_179 ⟨Nat.le_of_ble_eq_true rfl, Nat.le_of_ble_eq_true rfl⟩ (show _ ≤ 8 from Nat.le_of_ble_eq_true rfl) (show _ ∧ _ from ⟨Nat.le_of_ble_eq_true rfl, Nat.le_of_ble_eq_true rfl⟩) ?_
  · rw [hU]
    refine kst_text hE C.1.2.2.2.2.2.2.2.1 hS hWU (la_in hD C.1.2.2.2.2.2.1 hS.1) (kss_9 (tys := tyb E0) (va_K.moved hWU.alike C.2.1) rfl hP (q := q) (b := b9) (N := (txt a0 r0 k0).length) (f := va_cpy f8 (fun _ => 0) 0 0 (txt a0 r0 k0).length) (by simp) (by simp) rfl hT99 (fun i hi => ?_) (la_out (x := (q, .inr (9, [.ref b9, .int 0, .int 0, .int 0]))) hP hD (by simp)) (la_out (x := (b9, .inl (E0.2.2 4, (txt a0 r0 k0).length, .inl (va_cpy f8 (fun _ => 0) 0 0 (txt a0 r0 k0).length)))) hP hD (by simp)) tE_9 tE_109 htx (u_str C.1.2.2.2.2.1 hWU))
    rw [pk_cpy_in (by omega) (by omega), Nat.sub_zero, Nat.zero_add]
    exact hL8 i hi
  · show [Value.ref q, Value.ref (E.2.1 0)] = [Value.ref ((tE E q b9).2.1 2009), Value.ref ((tE E q b9).2.1 0)]
    rw [tE_9, tE_ne (by omega) (by omega)]
  refine ii_aload_n (pc := 138) C1 0 dl_138 rfl rfl ?_
  obtain ⟨τ9, el, hI9, hx9⟩ := k_load (sh := (kxt (shT sh0 (txt a0 r0 k0)) ksh)) htx (by omega) hlt hF (rg_bx5 hi3.2 hbx) (txt_all ha hr hk)
  refine la_V (pc := 139) (q := 0) (ci := 6) (M' := mX6_load) (st := []) ([(q, .inr (9, [.ref b9, .int 0, .int 0, .int 0])), (a, .inr (8, [.ref b8, .int 0, .int 0, .int (nI (txt a0 r0 k0).length)])), (b8, .inl (E0.2.2 4, m8, .inl f8)), (b9, .inl (E0.2.2 4, (txt a0 r0 k0).length, .inl (va_cpy f8 (fun _ => 0) 0 0 (txt a0 r0 k0).length)))] : va_W) [] C hE hz0 ko_all (tX6_load (kxt sh0 ksh) (kag_xt hz0) l hst ρ _ el) rfl dl_139 rfl ksh_0 rfl yw_X6_load lI_L_183 ⟨Nat.le_of_ble_eq_true rfl, Nat.le_of_ble_eq_true rfl⟩ (show _ ≤ 8 from Nat.le_of_ble_eq_true rfl) (show _ ∧ _ from ⟨Nat.le_of_ble_eq_true rfl, Nat.le_of_ble_eq_true rfl⟩) ?_
  refine ii_eqt (pc := 142) (tgt := 147) C1 dl_142 (by decide) ?_ ?_
  · show nI (mN (vset (mNew (nI (angN a0)) (nI (1 + r0))) 3 (nI (1 + k0)))) = 0
    rfl
  refine ii_iconst (pc := 147) (v := nI 0) C1 dl_147 (by decide) ?_
  refine ii_istore_n (pc := 148) C1 [(3, .int (nI 0)), (2, .ref (E.2.1 0)), (1, .ref (E.2.1 133)), (0, .ref b)] dl_148 rfl (by decide) rfl ?_
  refine ii_forget (w1 := ([(q, .inr (9, [.ref b9, .int 0, .int 0, .int 0])), (a, .inr (8, [.ref b8, .int 0, .int 0, .int (nI (txt a0 r0 k0).length)])), (b8, .inl (E0.2.2 4, m8, .inl f8)), (b9, .inl (E0.2.2 4, (txt a0 r0 k0).length, .inl (va_cpy f8 (fun _ => 0) 0 0 (txt a0 r0 k0).length)))] : va_W)) ?_
  refine ii_re (ws' := [] ++ kwl E ksh τ9) rfl ?_
  have ht9 : TD 3 τ9 := td_ax (show TD 3 ρ by unfold TD; rw [hbx 133 (by decide) (by decide)]; exact ht3) hx9
  exact law_adds hst hz0 C hE hend 12 0 _ _ 3 _ [] τ9 (by omega) (Nat.le_of_ble_eq_true rfl) (Nat.le_of_ble_eq_true rfl) hI9 ht9 (by omega)
set_option maxHeartbeats 4000000 in
set_option maxRecDepth 100000 in
theorem law_first {l : Launch} {E0 : KE} {sh0 : KSh} {A : Nat → Prop} {p : Program} {e : Env} {s : State} {m : MethodId} {below : List Frame} {meth : Method} {c : Code} {b : Nat} {Q : State → Prop} (hst : l.stackTraces = false) (hz0 : ∀ q, 1000 ≤ q → ∃ n, sh0 q = .inr (2, n)) (C : LWX l E0 sh0 A p s m #[Value.ref b] c) {E : KE} {σ : Sto} (hE : EQ E0 E) (h : INV (mNew 60 3) [] σ) (ht : TD 0 σ) (h5 : σ 5 1 = 0) (hend : ∀ (k n : Nat) (lo : List (Nat × Value)) (ws : va_W), k ≤ 600086 → n ≤ 7301442 → IW l E0 A p e room_1 s m #[Value.ref b] below meth c 4 Q k n 212 lo [.int 1] ws) :
    IW l E0 A p e room_1 s m #[Value.ref b] below meth c 4 Q 134 10610 17 [(2, .ref (E.2.1 0)), (1, .ref (E.2.1 133)), (0, .ref b)] [] ([] ++ kwl E ksh σ) := by
  have C1 := C.1
  refine ii_aload_n (pc := 17) C1 0 dl_17 rfl rfl ?_
  refine ii_iconst (pc := 18) (v := 0) C1 dl_18 (by decide) ?_
  refine la_V (pc := 19) (q := 0) (ci := 6) (M' := mX6_count) (st := []) ([] : va_W) [.int 0] C hE hz0 ko_all (tX6_count (kxt sh0 ksh) (kag_xt hz0) l hst 0 σ _ (k_count_0 h.1) rfl) rfl dl_19 rfl ksh_0 rfl yw_X6_count lk_L_27 ⟨Nat.le_of_ble_eq_true rfl, Nat.le_of_ble_eq_true rfl⟩ (show _ ≤ 8 from Nat.le_of_ble_eq_true rfl) (show _ ∧ _ from ⟨Nat.le_of_ble_eq_true rfl, Nat.le_of_ble_eq_true rfl⟩) ?_
  refine ii_bipush (pc := 22) (v := 60) C1 dl_22 (by decide) ?_
  refine ii_nef (pc := 24) (tgt := 70) C1 dl_24 (by decide) (rfl) ?_
  refine ii_aload_n (pc := 27) C1 0 dl_27 rfl rfl ?_
  refine ii_iconst (pc := 28) (v := 1) C1 dl_28 (by decide) ?_
  refine la_V (pc := 29) (q := 0) (ci := 6) (M' := mX6_count) (st := []) ([] : va_W) [.int 1] C hE hz0 ko_all (tX6_count (kxt sh0 ksh) (kag_xt hz0) l hst 1 σ _ (k_count_1 h.1) rfl) rfl dl_29 rfl ksh_0 rfl yw_X6_count lk_L_27 ⟨Nat.le_of_ble_eq_true rfl, Nat.le_of_ble_eq_true rfl⟩ (show _ ≤ 8 from Nat.le_of_ble_eq_true rfl) (show _ ∧ _ from ⟨Nat.le_of_ble_eq_true rfl, Nat.le_of_ble_eq_true rfl⟩) ?_
  refine ii_iconst (pc := 32) (v := 3) C1 dl_32 (by decide) ?_
  refine ii_nef (pc := 33) (tgt := 70) C1 dl_33 (by decide) (rfl) ?_
  refine ii_aload_n (pc := 36) C1 0 dl_36 rfl rfl ?_
  refine ii_bipush (pc := 37) (v := 8) C1 dl_37 (by decide) ?_
  refine la_V (pc := 39) (q := 0) (ci := 6) (M' := mX6_count) (st := []) ([] : va_W) [.int 8] C hE hz0 ko_all (tX6_count (kxt sh0 ksh) (kag_xt hz0) l hst 8 σ _ (k_count_8 h.1) rfl) rfl dl_39 rfl ksh_0 rfl yw_X6_count lk_L_27 ⟨Nat.le_of_ble_eq_true rfl, Nat.le_of_ble_eq_true rfl⟩ (show _ ≤ 8 from Nat.le_of_ble_eq_true rfl) (show _ ∧ _ from ⟨Nat.le_of_ble_eq_true rfl, Nat.le_of_ble_eq_true rfl⟩) ?_
  refine ii_bipush (pc := 42) (v := 37) C1 dl_42 (by decide) ?_
  refine ii_nef (pc := 44) (tgt := 70) C1 dl_44 (by decide) (new_pic) ?_
  refine ii_aload_n (pc := 47) C1 0 dl_47 rfl rfl ?_
  obtain ⟨τ1, e1, x1⟩ := k_moves h.1
  refine la_V (pc := 48) (q := 0) (ci := 6) (M' := mX6_moves) (st := []) ([] : va_W) [] C hE hz0 ko_all (tX6_moves (kxt sh0 ksh) (kag_xt hz0) l hst σ _ e1) rfl dl_48 rfl ksh_0 rfl yw_X6_moves lk_L_94 ⟨Nat.le_of_ble_eq_true rfl, Nat.le_of_ble_eq_true rfl⟩ (show _ ≤ 8 from Nat.le_of_ble_eq_true rfl) (show _ ∧ _ from ⟨Nat.le_of_ble_eq_true rfl, Nat.le_of_ble_eq_true rfl⟩) ?_
  refine ii_ne0 (pc := 51) (tgt := 70) C1 dl_51 (by decide) (show nI (mTkN (mNew 60 3)) = 0 by rw [new_tk]; rfl) ?_
  have h1 := inv_cx h x1
  refine ii_aload_n (pc := 54) C1 0 dl_54 rfl rfl ?_
  refine ii_iconst (pc := 55) (v := 0) C1 dl_55 (by decide) ?_
  obtain ⟨τ2, e2, x2⟩ := k_commonest h1.1
  refine la_V (pc := 56) (q := 0) (ci := 6) (M' := mX6_commonest) (st := []) ([] : va_W) [.int 0] C hE hz0 ko_all (tX6_commonest (kxt sh0 ksh) (kag_xt hz0) l hst 0 τ1 _ e2 rfl) rfl dl_56 rfl ksh_0 rfl yw_X6_commonest lk_L_78 ⟨Nat.le_of_ble_eq_true rfl, Nat.le_of_ble_eq_true rfl⟩ (show _ ≤ 8 from Nat.le_of_ble_eq_true rfl) (show _ ∧ _ from ⟨Nat.le_of_ble_eq_true rfl, Nat.le_of_ble_eq_true rfl⟩) ?_
  refine ii_iconst (pc := 59) (v := (-1)) C1 dl_59 (by decide) ?_
  refine ii_nef (pc := 60) (tgt := 70) C1 dl_60 (by decide) new_com ?_
  have h2 := inv_cx h1 x2
  refine ii_aload_n (pc := 63) C1 0 dl_63 rfl rfl ?_
  obtain ⟨τ3, e3, x3⟩ := k_edges h2.1
  refine la_V (pc := 64) (q := 0) (ci := 6) (M' := mX6_edges) (st := []) ([] : va_W) [] C hE hz0 ko_all (tX6_edges (kxt sh0 ksh) (kag_xt hz0) l hst τ2 _ e3) rfl dl_64 rfl ksh_0 rfl yw_X6_edges lk_L_113 ⟨Nat.le_of_ble_eq_true rfl, Nat.le_of_ble_eq_true rfl⟩ (show _ ≤ 8 from Nat.le_of_ble_eq_true rfl) (show _ ∧ _ from ⟨Nat.le_of_ble_eq_true rfl, Nat.le_of_ble_eq_true rfl⟩) ?_
  refine ii_eqt (pc := 67) (tgt := 72) C1 dl_67 (by decide) new_ed ?_
  exact law_text hst hz0 C hE (inv_cx h2 x3) (td_cx (td_cx (td_cx ht x1) x2) x3) (by show τ3 5 1 = 0; rw [x3 5 (by unfold KP2; omega), x2 5 (by unfold KP2; omega), x1 5 (by unfold KP2; omega)]; exact h5) hend
set_option maxHeartbeats 4000000 in
set_option maxRecDepth 100000 in
theorem law_walk {l : Launch} {E0 : KE} {sh0 : KSh} {A : Nat → Prop} {p : Program} {e : Env} {s : State} {m : MethodId} {below : List Frame} {meth : Method} {c : Code} {b : Nat} {Q : State → Prop} (hst : l.stackTraces = false) (hz0 : ∀ q, 1000 ≤ q → ∃ n, sh0 q = .inr (2, n)) (C : LWX l E0 sh0 A p s m #[Value.ref b] c) (hb : E0.2.1 3100 = b) (hend : ∀ (k n : Nat) (lo : List (Nat × Value)) (ws : va_W), k ≤ 600086 → n ≤ 7301442 → IW l E0 A p e room_1 s m #[Value.ref b] below meth c 4 Q k n 212 lo [.int 1] ws) :
    IW l E0 A p e room_1 s m #[Value.ref b] below meth c 4 Q 0 0 0 [(0, .ref b)] [] [] := by
  have C1 := C.1
  refine ii_new (pc := 0) (ci := 7) tyX7 tyX7_ok C1 dl_0 rfl cI_L_117 nI_X7 tI_X7 (show _ ∧ _ from ⟨Nat.le_of_ble_eq_true rfl, Nat.le_of_ble_eq_true rfl⟩) (fun a1 => ?_)
  refine ii_dup (pc := 3) C1 dl_3 ?_
  refine ii_aload_n (pc := 4) C1 0 dl_4 rfl rfl ?_
  refine ii_re (ws' := ([(a1, .inr (7, [.null, .int 0]))] : va_W) ++ []) rfl ?_
  refine la_JI (pc := 5) (wc := [(a1, .inr (7, [.null, .int 0]))]) (wr := []) (st := [.ref a1]) (As := [.ref b]) C (jt_told l E0 a1 b) dl_5 rfl yk_X7_init lI_L_150 ji_X7_init rfl rfl ⟨Nat.le_of_ble_eq_true rfl, Nat.le_of_ble_eq_true rfl⟩ (show _ ≤ 8 from Nat.le_of_ble_eq_true rfl) (show _ ∧ _ from ⟨Nat.le_of_ble_eq_true rfl, Nat.le_of_ble_eq_true rfl⟩) (fun v w hq => ?_)
  obtain ⟨rfl, rfl⟩ := hq
  refine ii_astore_n (pc := 8) C1 [(1, .ref a1), (0, .ref b)] dl_8 rfl (by decide) rfl ?_
  refine ii_new (pc := 9) (ci := 6) tyX6 tyX6_ok C1 dl_9 rfl cI_L_9 nI_X6 tI_X6 (show _ ∧ _ from ⟨Nat.le_of_ble_eq_true rfl, Nat.le_of_ble_eq_true rfl⟩) (fun a2 => ?_)
  refine ii_dup (pc := 12) C1 dl_12 ?_
  refine ii_re (ws' := ([(a1, .inr (7, [.ref b, .int 0]))] : va_W) ++ [(a2, .inr (6, ifs tyX6 13))]) rfl ?_
  refine ii_init (pc := 13) (M := mI_X6) C1 (iC_X6 l hst sh0 hz0) dl_13 kI_X6 lI_L_153 (by decide) (show _ ≤ 8 from Nat.le_of_ble_eq_true rfl) (show _ ∧ _ from ⟨Nat.le_of_ble_eq_true rfl, Nat.le_of_ble_eq_true rfl⟩) (fun E1 σ1 hE1 hz1 hF1 => ?_)
  subst hz1
  refine ii_astore_n (pc := 16) C1 [(2, .ref (E1.2.1 0)), (1, .ref a1), (0, .ref b)] dl_16 rfl (by decide) rfl ?_
  refine ii_perm (ws' := kwl E1 shBo σ1 ++ ([(a1, .inr (7, [.ref b, .int 0]))] : va_W)) List.perm_append_comm ?_
  obtain ⟨E, σ, hE, e0, e133, h, ht, h5, w1, w2⟩ := @law_world E0 E1 σ1 a1 b hE1 hb hF1
  refine ii_same (ws' := kwl E ksh σ) w1 w2 ?_
  rw [← e0, ← e133]
  exact law_first hst hz0 C hE h ht h5 hend
