/-! what holds at the law's entry, as the contracts ask it -/
abbrev nar : List Cond := flatC (Jvm.Cond.and given_1 narrow_1)
def estr : List (String × Nat × String) := kstr ++ [(RL, 157, "angle "), (RL, 169, " radius "), (RL, 171, ";keep "), (RL, 173, ";")]
def ebys (j : Nat) : List Int32 := if j < 9 then ksby j else (jby (j - 9)).map nI
theorem na_1 : ∀ j, j < 4 → Cond.arrayOf (.static RX1 (kstn j) "[I") .int ∈ nar := by decide +kernel
theorem na_2 : ∀ j, j < 4 → Cond.eq (.length (.static RX1 (kstn j) "[I")) (.int (Int32.ofNat (kstl j))) ∈ nar := by decide +kernel
theorem na_3 : ∀ j, j < 4 → ∀ i, i < kstl j → Cond.eq (.elem (.static RX1 (kstn j) "[I") (.int (Int32.ofNat i))) (.int ((kstv.getD j []).getD i 0)) ∈ nar := by decide +kernel
def kso (j : Nat) : Term := .string (estr.getD j ("", 0, "")).1 (estr.getD j ("", 0, "")).2.1
theorem na_4 : ∀ j, j < 13 → Cond.exactly (kso j) "java/lang/String" ∈ nar := by decide +kernel
theorem na_5 : ∀ j, j < 13 → Cond.eq (.field (kso j) "java/lang/String" "coder" "B") (.int 0) ∈ nar := by decide +kernel
theorem na_6 : ∀ j, j < 13 → Cond.arrayOf (.field (kso j) "java/lang/String" "value" "[B") .byte ∈ nar := by decide +kernel
theorem na_7 : ∀ j, j < 13 → Cond.eq (.length (.field (kso j) "java/lang/String" "value" "[B")) (.int (Int32.ofNat (ebys j).length)) ∈ nar := by decide +kernel
theorem na_8_0 : (List.range 5).map (fun i => Cond.eq (.elem (.field (kso 0) "java/lang/String" "value" "[B") (.int (Int32.ofNat i))) (.int ((ebys 0).getD i 0))) = (nar.drop 261).take 5 := by decide +kernel
theorem na_8_1 : (List.range 6).map (fun i => Cond.eq (.elem (.field (kso 1) "java/lang/String" "value" "[B") (.int (Int32.ofNat i))) (.int ((ebys 1).getD i 0))) = (nar.drop 270).take 6 := by decide +kernel
theorem na_8_2 : (List.range 5).map (fun i => Cond.eq (.elem (.field (kso 2) "java/lang/String" "value" "[B") (.int (Int32.ofNat i))) (.int ((ebys 2).getD i 0))) = (nar.drop 281).take 5 := by decide +kernel
theorem na_8_3 : (List.range 4).map (fun i => Cond.eq (.elem (.field (kso 3) "java/lang/String" "value" "[B") (.int (Int32.ofNat i))) (.int ((ebys 3).getD i 0))) = (nar.drop 292).take 4 := by decide +kernel
theorem na_8_4 : (List.range 6).map (fun i => Cond.eq (.elem (.field (kso 4) "java/lang/String" "value" "[B") (.int (Int32.ofNat i))) (.int ((ebys 4).getD i 0))) = (nar.drop 303).take 6 := by decide +kernel
theorem na_8_5 : (List.range 3).map (fun i => Cond.eq (.elem (.field (kso 5) "java/lang/String" "value" "[B") (.int (Int32.ofNat i))) (.int ((ebys 5).getD i 0))) = (nar.drop 317).take 3 := by decide +kernel
theorem na_8_6 : (List.range 4).map (fun i => Cond.eq (.elem (.field (kso 6) "java/lang/String" "value" "[B") (.int (Int32.ofNat i))) (.int ((ebys 6).getD i 0))) = (nar.drop 329).take 4 := by decide +kernel
theorem na_8_7 : (List.range 4).map (fun i => Cond.eq (.elem (.field (kso 7) "java/lang/String" "value" "[B") (.int (Int32.ofNat i))) (.int ((ebys 7).getD i 0))) = (nar.drop 343).take 4 := by decide +kernel
theorem na_8_8 : (List.range 5).map (fun i => Cond.eq (.elem (.field (kso 8) "java/lang/String" "value" "[B") (.int (Int32.ofNat i))) (.int ((ebys 8).getD i 0))) = (nar.drop 358).take 5 := by decide +kernel
theorem na_8_9 : (List.range 6).map (fun i => Cond.eq (.elem (.field (kso 9) "java/lang/String" "value" "[B") (.int (Int32.ofNat i))) (.int ((ebys 9).getD i 0))) = (nar.drop 375).take 6 := by decide +kernel
theorem na_8_10 : (List.range 8).map (fun i => Cond.eq (.elem (.field (kso 10) "java/lang/String" "value" "[B") (.int (Int32.ofNat i))) (.int ((ebys 10).getD i 0))) = (nar.drop 394).take 8 := by decide +kernel
theorem na_8_11 : (List.range 6).map (fun i => Cond.eq (.elem (.field (kso 11) "java/lang/String" "value" "[B") (.int (Int32.ofNat i))) (.int ((ebys 11).getD i 0))) = (nar.drop 416).take 6 := by decide +kernel
theorem na_8_12 : (List.range 1).map (fun i => Cond.eq (.elem (.field (kso 12) "java/lang/String" "value" "[B") (.int (Int32.ofNat i))) (.int ((ebys 12).getD i 0))) = (nar.drop 437).take 1 := by decide +kernel
theorem na_8 : ∀ j, j < 13 → ∀ i, i < (ebys j).length → Cond.eq (.elem (.field (kso j) "java/lang/String" "value" "[B") (.int (Int32.ofNat i))) (.int ((ebys j).getD i 0)) ∈ nar
  | 0, _, i, hi => va_run (f := fun i => Cond.eq (.elem (.field (kso 0) "java/lang/String" "value" "[B") (.int (Int32.ofNat i))) (.int ((ebys 0).getD i 0))) na_8_0 i hi
  | 1, _, i, hi => va_run (f := fun i => Cond.eq (.elem (.field (kso 1) "java/lang/String" "value" "[B") (.int (Int32.ofNat i))) (.int ((ebys 1).getD i 0))) na_8_1 i hi
  | 2, _, i, hi => va_run (f := fun i => Cond.eq (.elem (.field (kso 2) "java/lang/String" "value" "[B") (.int (Int32.ofNat i))) (.int ((ebys 2).getD i 0))) na_8_2 i hi
  | 3, _, i, hi => va_run (f := fun i => Cond.eq (.elem (.field (kso 3) "java/lang/String" "value" "[B") (.int (Int32.ofNat i))) (.int ((ebys 3).getD i 0))) na_8_3 i hi
  | 4, _, i, hi => va_run (f := fun i => Cond.eq (.elem (.field (kso 4) "java/lang/String" "value" "[B") (.int (Int32.ofNat i))) (.int ((ebys 4).getD i 0))) na_8_4 i hi
  | 5, _, i, hi => va_run (f := fun i => Cond.eq (.elem (.field (kso 5) "java/lang/String" "value" "[B") (.int (Int32.ofNat i))) (.int ((ebys 5).getD i 0))) na_8_5 i hi
  | 6, _, i, hi => va_run (f := fun i => Cond.eq (.elem (.field (kso 6) "java/lang/String" "value" "[B") (.int (Int32.ofNat i))) (.int ((ebys 6).getD i 0))) na_8_6 i hi
  | 7, _, i, hi => va_run (f := fun i => Cond.eq (.elem (.field (kso 7) "java/lang/String" "value" "[B") (.int (Int32.ofNat i))) (.int ((ebys 7).getD i 0))) na_8_7 i hi
  | 8, _, i, hi => va_run (f := fun i => Cond.eq (.elem (.field (kso 8) "java/lang/String" "value" "[B") (.int (Int32.ofNat i))) (.int ((ebys 8).getD i 0))) na_8_8 i hi
  | 9, _, i, hi => va_run (f := fun i => Cond.eq (.elem (.field (kso 9) "java/lang/String" "value" "[B") (.int (Int32.ofNat i))) (.int ((ebys 9).getD i 0))) na_8_9 i hi
  | 10, _, i, hi => va_run (f := fun i => Cond.eq (.elem (.field (kso 10) "java/lang/String" "value" "[B") (.int (Int32.ofNat i))) (.int ((ebys 10).getD i 0))) na_8_10 i hi
  | 11, _, i, hi => va_run (f := fun i => Cond.eq (.elem (.field (kso 11) "java/lang/String" "value" "[B") (.int (Int32.ofNat i))) (.int ((ebys 11).getD i 0))) na_8_11 i hi
  | 12, _, i, hi => va_run (f := fun i => Cond.eq (.elem (.field (kso 12) "java/lang/String" "value" "[B") (.int (Int32.ofNat i))) (.int ((ebys 12).getD i 0))) na_8_12 i hi
  | j + 13, h, _, _ => absurd h (by omega)
theorem na_a : Cond.isRef (.static Bundle.tN "UNASSIGNED_STACK" Bundle.steD) ∈ nar := by decide +kernel
theorem na_b : Cond.isRef (.static Bundle.tN "SUPPRESSED_SENTINEL" Bundle.listD) ∈ nar := by decide +kernel
theorem na_c : Cond.eq (.static "java/lang/String" "COMPACT_STRINGS" "Z") (.int 1) ∈ nar := by decide +kernel
theorem na_d : Cond.isRef (.static "jdk/internal/util/Preconditions" "SIOOBE_FORMATTER" "Ljava/util/function/BiFunction;") ∈ nar := by decide +kernel
theorem na_e : Cond.arrayOf (.static "java/lang/Integer" "DigitOnes" "[B") .byte ∈ nar ∧ Cond.arrayOf (.static "java/lang/Integer" "DigitTens" "[B") .byte ∈ nar := by decide +kernel
theorem na_f : Cond.eq (.length (.static "java/lang/Integer" "DigitOnes" "[B")) (.int (Int32.ofNat 100)) ∈ nar ∧ Cond.eq (.length (.static "java/lang/Integer" "DigitTens" "[B")) (.int (Int32.ofNat 100)) ∈ nar := by decide +kernel
theorem na_g0 : (List.range 100).map (fun i => Cond.eq (.elem (.static "java/lang/Integer" "DigitOnes" "[B") (.int (Int32.ofNat i))) (.int (nI (48 + i % 10)))) = (nar.drop 54).take 100 := by decide +kernel
theorem na_g (i : Nat) (hi : i < 100) : Cond.eq (.elem (.static "java/lang/Integer" "DigitOnes" "[B") (.int (Int32.ofNat i))) (.int (nI (48 + i % 10))) ∈ nar := va_run (f := fun i => Cond.eq (.elem (.static "java/lang/Integer" "DigitOnes" "[B") (.int (Int32.ofNat i))) (.int (nI (48 + i % 10)))) na_g0 i hi
theorem na_h0 : (List.range 100).map (fun i => Cond.eq (.elem (.static "java/lang/Integer" "DigitTens" "[B") (.int (Int32.ofNat i))) (.int (nI (48 + i / 10)))) = (nar.drop 157).take 100 := by decide +kernel
theorem na_h (i : Nat) (hi : i < 100) : Cond.eq (.elem (.static "java/lang/Integer" "DigitTens" "[B") (.int (Int32.ofNat i))) (.int (nI (48 + i / 10))) ∈ nar := va_run (f := fun i => Cond.eq (.elem (.static "java/lang/Integer" "DigitTens" "[B") (.int (Int32.ofNat i))) (.int (nI (48 + i / 10)))) na_h0 i hi
theorem ka_len : ∀ j, j < 13 → (ebys j).length < 2 ^ 31 ∧ estr[j]? = some (estr.getD j ("", 0, "")) := by decide +kernel
theorem kl_len : ∀ j, j < 4 → kstl j < 2 ^ 31 := by decide +kernel
theorem lt_lays {s : State} {b : Nat} (hts : ∀ w ∈ lw_tbl, w.before #[Value.ref b] s = true) : ∀ j, j < 4 → (Cond.laysStatic RX1 (kstn j) "[I").before #[Value.ref b] s = true
  | 0, _ => hts _ (List.mem_of_getElem? (i := 733) (by decide +kernel))
  | 1, _ => hts _ (List.mem_of_getElem? (i := 725) (by decide +kernel))
  | 2, _ => hts _ (List.mem_of_getElem? (i := 731) (by decide +kernel))
  | 3, _ => hts _ (List.mem_of_getElem? (i := 723) (by decide +kernel))
theorem lt_str {s : State} {b : Nat} (hts : ∀ w ∈ lw_tbl, w.before #[Value.ref b] s = true) : ∀ j, j < 13 → (Cond.stringRef (estr.getD j ("", 0, "")).1 (estr.getD j ("", 0, "")).2.1 (estr.getD j ("", 0, "")).2.2).before #[Value.ref b] s = true
  | 0, _ => hts _ (List.mem_of_getElem? (i := 339) (by decide +kernel))
  | 1, _ => hts _ (List.mem_of_getElem? (i := 431) (by decide +kernel))
  | 2, _ => hts _ (List.mem_of_getElem? (i := 449) (by decide +kernel))
  | 3, _ => hts _ (List.mem_of_getElem? (i := 450) (by decide +kernel))
  | 4, _ => hts _ (List.mem_of_getElem? (i := 451) (by decide +kernel))
  | 5, _ => hts _ (List.mem_of_getElem? (i := 452) (by decide +kernel))
  | 6, _ => hts _ (List.mem_of_getElem? (i := 503) (by decide +kernel))
  | 7, _ => hts _ (List.mem_of_getElem? (i := 512) (by decide +kernel))
  | 8, _ => hts _ (List.mem_of_getElem? (i := 517) (by decide +kernel))
  | 9, _ => hts _ (List.mem_of_getElem? (i := 1362) (by decide +kernel))
  | 10, _ => hts _ (List.mem_of_getElem? (i := 1363) (by decide +kernel))
  | 11, _ => hts _ (List.mem_of_getElem? (i := 1364) (by decide +kernel))
  | 12, _ => hts _ (List.mem_of_getElem? (i := 1365) (by decide +kernel))
  | j + 13, h => absurd h (by omega)
theorem lt_cls : ∀ (k : Nat) (q : vw_C), vwCl[k]? = some q → Cond.instantiable q.1 q.2.2 ∈ kg
  | 0, q, h => by cases h; exact nI_X0
  | 1, q, h => by cases h; exact nI_X1
  | 2, q, h => by cases h; exact nI_X2
  | 3, q, h => by cases h; exact nI_X3
  | 4, q, h => by cases h; exact nI_X4
  | 5, q, h => by cases h; exact nI_X5
  | 6, q, h => by cases h; exact nI_X6
  | 7, q, h => by cases h; exact nI_X7
  | 8, q, h => by cases h; exact nI_J4
  | 9, q, h => by cases h; exact nI_J0
  | k + 10, q, h => by cases h
theorem lt_nw {s : State} {b : Nat} (hts : ∀ w ∈ lw_tbl, w.before #[Value.ref b] s = true) : KNX s := by
  refine ⟨va_AO.of (hts _ (List.mem_of_getElem? (i := 203) (by decide +kernel))), fun w hw => ?_⟩
  unfold knw at hw
  rcases List.mem_cons.mp hw with rfl | hw
  · exact va_any rfl (hts _ (List.mem_of_getElem? (i := 206) (by decide +kernel)))
  rcases List.mem_cons.mp hw with rfl | hw
  · exact va_any rfl (hts _ (List.mem_of_getElem? (i := 239) (by decide +kernel)))
  rcases List.mem_cons.mp hw with rfl | hw
  · exact va_any rfl (hts _ (List.mem_of_getElem? (i := 264) (by decide +kernel)))
  rcases List.mem_cons.mp hw with rfl | hw
  · exact va_any rfl (hts _ (List.mem_of_getElem? (i := 277) (by decide +kernel)))
  cases hw
theorem lt_sel {s : State} {b : Nat} (hts : ∀ w ∈ lw_tbl, w.before #[Value.ref b] s = true) : ∀ w ∈ jsel, w.before #[] s = true := by
  intro w hw
  unfold jsel at hw
  rcases List.mem_cons.mp hw with rfl | hw
  · exact va_any rfl (j_selP (y0 := yJ5_isLatin1_aae02) (by decide) rfl (hts _ (List.mem_of_getElem? (i := 1228) (by decide +kernel))) (hts _ (List.mem_of_getElem? (i := 1197) (by decide +kernel))) (hts _ (List.mem_of_getElem? (i := 1198) (by decide +kernel))))
  rcases List.mem_cons.mp hw with rfl | hw
  · exact va_any rfl (j_selP (y0 := yJ5_isLatin1_aae02) (by decide) rfl (hts _ (List.mem_of_getElem? (i := 1228) (by decide +kernel))) (hts _ (List.mem_of_getElem? (i := 1201) (by decide +kernel))) (hts _ (List.mem_of_getElem? (i := 1202) (by decide +kernel))))
  rcases List.mem_cons.mp hw with rfl | hw
  · exact va_any rfl (j_selP (y0 := yJ5_isLatin1_aae02) (by decide) rfl (hts _ (List.mem_of_getElem? (i := 1228) (by decide +kernel))) (hts _ (List.mem_of_getElem? (i := 1247) (by decide +kernel))) (hts _ (List.mem_of_getElem? (i := 1248) (by decide +kernel))))
  rcases List.mem_cons.mp hw with rfl | hw
  · exact va_any rfl (j_selP (y0 := yJ5_isLatin1_aae02) (by decide) rfl (hts _ (List.mem_of_getElem? (i := 1228) (by decide +kernel))) (hts _ (List.mem_of_getElem? (i := 1251) (by decide +kernel))) (hts _ (List.mem_of_getElem? (i := 1252) (by decide +kernel))))
  cases hw
theorem lt_stat {s : State} {b : Nat} (hts : ∀ w ∈ lw_tbl, w.before #[Value.ref b] s = true) (hq : ∀ w ∈ nar, w.before #[Value.ref b] s = true) (j : Nat) : ∃ t : Nat, j < 4 → va_Z RX1 (kstn j) "[I" (.ref t) (fun q : Nat => s.heap.size ≤ q) s s.heap ∧ va_T .int t (kstl j) (fun i => .int ((kstv.getD j []).getD i 0)) (fun q : Nat => s.heap.size ≤ q) s s.heap := by
  by_cases hj : j < 4
  · have hA : ∀ a : Nat, a < s.heap.size → ¬ s.heap.size ≤ a := fun a h => Nat.not_le.mpr h
    obtain ⟨t, h1, h2⟩ := va_Tof (A := fun q : Nat => s.heap.size ≤ q) (f := fun i => .int ((kstv.getD j []).getD i 0)) (kl_len j hj) (hq _ (na_1 j hj)) (va_eqt (hq _ (na_2 j hj))) (fun i hi => va_eqt (hq _ (na_3 j hj i hi))) hA
    exact ⟨t, fun _ => ⟨va_Zof (lt_lays hts j hj) (hts _ (List.mem_filter.mp tI_X1).1) h1 hA, h2⟩⟩
  · exact ⟨0, fun h => absurd h hj⟩
theorem lt_dig {s : State} {b : Nat} (hts : ∀ w ∈ lw_tbl, w.before #[Value.ref b] s = true) (hq : ∀ w ∈ nar, w.before #[Value.ref b] s = true) : ∃ t1 t2 : Nat, (va_Z "java/lang/Integer" "DigitOnes" "[B" (.ref t1) (fun q : Nat => s.heap.size ≤ q) s s.heap ∧ va_T .byte t1 100 (fun i => .int (nI (48 + i % 10))) (fun q : Nat => s.heap.size ≤ q) s s.heap) ∧ va_Z "java/lang/Integer" "DigitTens" "[B" (.ref t2) (fun q : Nat => s.heap.size ≤ q) s s.heap ∧ va_T .byte t2 100 (fun i => .int (nI (48 + i / 10))) (fun q : Nat => s.heap.size ≤ q) s s.heap := by
  have hA : ∀ a : Nat, a < s.heap.size → ¬ s.heap.size ≤ a := fun a h => Nat.not_le.mpr h
  obtain ⟨t1, h1, h2⟩ := va_Tof (A := fun q : Nat => s.heap.size ≤ q) (f := fun i => .int (nI (48 + i % 10))) (by decide) (hq _ na_e.1) (va_eqt (hq _ na_f.1)) (fun i hi => va_eqt (hq _ (na_g i hi))) hA
  obtain ⟨t2, h3, h4⟩ := va_Tof (A := fun q : Nat => s.heap.size ≤ q) (f := fun i => .int (nI (48 + i / 10))) (by decide) (hq _ na_e.2) (va_eqt (hq _ na_f.2)) (fun i hi => va_eqt (hq _ (na_h i hi))) hA
  exact ⟨t1, t2, ⟨va_Zof (hts _ (List.mem_of_getElem? (i := 1294) (by decide +kernel))) (hts _ (List.mem_of_getElem? (i := 69) (by decide +kernel))) h1 hA, h2⟩, va_Zof (hts _ (List.mem_of_getElem? (i := 1296) (by decide +kernel))) (hts _ (List.mem_of_getElem? (i := 69) (by decide +kernel))) h3 hA, h4⟩
theorem lt_strs {s : State} {b : Nat} (hts : ∀ w ∈ lw_tbl, w.before #[Value.ref b] s = true) (hq : ∀ w ∈ nar, w.before #[Value.ref b] s = true) (j : Nat) : ∃ q : Nat × Nat, j < 13 → va_O "java/lang/String" q.1 (fun q : Nat => s.heap.size ≤ q) s s.heap ∧ va_OF "java/lang/String" "coder" "B" (.int 0) q.1 (fun q : Nat => s.heap.size ≤ q) s s.heap ∧ va_OF "java/lang/String" "value" "[B" (.ref q.2) q.1 (fun q : Nat => s.heap.size ≤ q) s s.heap ∧ va_T .byte q.2 (ebys j).length (fun i => .int ((ebys j).getD i 0)) (fun q : Nat => s.heap.size ≤ q) s s.heap ∧ ∀ r, estr[j]? = some r → vk_R r.1 r.2.1 r.2.2 q.1 s := by
  by_cases hj : j < 13
  · have hA : ∀ a : Nat, a < s.heap.size → ¬ s.heap.size ≤ a := fun a h => Nat.not_le.mpr h
    obtain ⟨adK, adV, hS, hev⟩ := vk_Sof (A := fun q : Nat => s.heap.size ≤ q) (args := #[Value.ref b]) (s := s) (N := 1) (tm := fun _ => kso j) (len := [(ebys j).length]) (byt := [ebys j])
      (fun i hi => by rw [show i = 0 by omega]; exact (ka_len j hj).1) (fun i _ => hq _ (na_4 j hj)) (fun i _ => hq _ (na_5 j hj)) (fun i _ => hq _ (na_6 j hj)) (fun i hi => by rw [show i = 0 by omega]; exact hq _ (na_7 j hj)) (fun i hi k hk => by rw [show i = 0 by omega] at hk ⊢; exact hq _ (na_8 j hj k hk)) (fun i k hi hk h => absurd (show i = k by omega) h) hA
    obtain ⟨a1, a2, a3, a4⟩ := hS.1 0 (by decide)
    refine ⟨(adK 0, adV 0), fun _ => ⟨a1, a2, a3, a4, fun r hr => ?_⟩⟩
    have h9 := (ka_len j hj).2
    rw [hr] at h9
    have h8 := Option.some.inj h9
    rw [h8]
    exact vk_R.of (lt_str hts j hj) (hev 0 (by decide))
  · exact ⟨(0, 0), fun h => absurd h hj⟩
/-- the script as a shape -/
def shS (L : Nat) (xs : Nat → Int32) : KSh := fun q => if q = 5000 then .inr (2, L) else if 5001 ≤ q then .inr (2, (xs (q - 5001)).toBitVec.toNat) else .inr (2, 0)
theorem shS_z {L : Nat} {xs : Nat → Int32} : ∀ q, 1000 ≤ q → ∃ n, shS L xs q = .inr (2, n) := by
  intro q _
  unfold shS
  split
  · exact ⟨_, rfl⟩
  · split <;> exact ⟨_, rfl⟩
theorem shS_l {L : Nat} {xs : Nat → Int32} : scl (shS L xs) = L := by
  unfold scl nsh
  rw [show shS L xs 5000 = .inr (2, L) from if_pos rfl]; rfl
theorem shS_x {L : Nat} {xs : Nat → Int32} (i : Nat) : scx (shS L xs) i = xs i := by
  unfold scx nsh
  rw [show shS L xs (5001 + i) = .inr (2, (xs i).toBitVec.toNat) by unfold shS; rw [if_neg (by omega), if_pos (by omega), Nat.add_sub_cancel_left]]
  show Int32.ofBitVec (BitVec.ofNat 32 (xs i).toBitVec.toNat) = xs i
  rw [BitVec.ofNat_toNat]
  simp
theorem shS_t {L : Nat} {xs : Nat → Int32} {j : Nat} (h : ktx (shS L xs) j = true) : j < 9 := by
  unfold ktx at h
  have e : nsh (shS L xs) 4000 = 0 := by
    unfold nsh
    rw [show shS L xs 4000 = .inr (2, 0) by unfold shS; rw [if_neg (by omega), if_neg (by omega)]]; rfl
  rw [e, decide_eq_false (Nat.lt_irrefl 0), Bool.false_and, Bool.and_false, Bool.or_false] at h
  exact of_decide_eq_true h
theorem jby_map (L : List Nat) (i : Nat) : (L.map nI).getD i 0 = nI (L.getD i 0) := by
  rw [List.getD_eq_getElem?_getD, List.getElem?_map, List.getD_eq_getElem?_getD]
  cases L[i]? with
  | none => rfl
  | some x => rfl
def eAd (as : Nat → Nat) (ss : Nat → Nat × Nat) (a9 z9 b t1 t2 : Nat) (k : Nat) : Nat := if k < 2000 then as (k - 1000) else if k < 2020 then (ss (k - 2000)).1 else if k < 2100 then (ss (k - 2020 + 9)).1 else if k < 2120 then (ss (k - 2100)).2 else if k < 3000 then (ss (k - 2120 + 9)).2 else if k = 3000 then a9 else if k = 3001 then z9 else if k = 3100 then b else if k = 3200 then t1 else t2
theorem law_env {s : State} {b L : Nat} {xs : Nat → Int32} (hts : ∀ w ∈ lw_tbl, w.before #[Value.ref b] s = true) (hq : ∀ w ∈ nar, w.before #[Value.ref b] s = true) (hX : va_X b L xs s s.heap) (hb : b < s.heap.size) : ∃ E0 : KE, va_K E0.1 vwCl (kty E0) s ∧ va_K E0.1 vwCl (tyb E0) s ∧ KST E0 (shS L xs) (fun q : Nat => s.heap.size ≤ q) s s.heap ∧ JF E0 (fun q : Nat => s.heap.size ≤ q) s s.heap ∧ E0.2.1 3100 = b := by
  have hA : ∀ a : Nat, a < s.heap.size → ¬ s.heap.size ≤ a := fun a h => Nat.not_le.mpr h
  have htg : ∀ w ∈ kg, w.before #[Value.ref b] s = true := fun w h => hts w (List.mem_filter.mp h).1
  have hk : ∀ k : Nat, ∃ x : ClassId × (Nat → Nat), ∀ q : vw_C, vwCl[k]? = some q → u_Kn s q.1 q.2.1 q.2.2 x.1 x.2 := by
    intro k
    cases hv : vwCl[k]? with
    | none => exact ⟨(0, fun _ => 0), fun q h => by cases h⟩
    | some q0 =>
      obtain ⟨cC, iS, h⟩ := u_known (C := q0.1) (T := q0.2.1) (N := q0.2.2) htg (kcl_ws k q0 hv) (htg _ (lt_cls k q0 hv))
      exact ⟨(cC, iS), fun q h9 => by cases h9; exact h⟩
  obtain ⟨c0, k0, p0, a1, a2, a3⟩ := Cond.arrayClass_spec (hts (.arrayClass .int) (List.mem_of_getElem? (i := 131) (by decide +kernel)))
  obtain ⟨c1, k1, p1, b1, b2, b3⟩ := Cond.arrayClass_spec (hts (.arrayClass .boolean) (List.mem_of_getElem? (i := 236) (by decide +kernel)))
  obtain ⟨c2, k2, p2, d1, d2, d3⟩ := Cond.arrayClass_spec (hts (.arrayClass .byte) (List.mem_of_getElem? (i := 546) (by decide +kernel)))
  obtain ⟨p3, c3, k3, e1, -, e3, e4, e5⟩ := Cond.arrayOver_spec (hts (.arrayOver (.object "KaleidoscopeBox$State")) (List.mem_of_getElem? (i := 203) (by decide +kernel)))
  obtain ⟨v9, hv9, a9, z9, h9⟩ : ∃ v : Value, va_Z "jdk/internal/util/Preconditions" "SIOOBE_FORMATTER" "Ljava/util/function/BiFunction;" v (fun q : Nat => s.heap.size ≤ q) s s.heap ∧ ∃ a9 z9 : Nat, v = if z9 = 0 then .null else .ref a9 := by
    rcases va_Zqof (A := fun q : Nat => s.heap.size ≤ q) (hts _ (List.mem_of_getElem? (i := 397) (by decide +kernel))) (hts _ (List.mem_of_getElem? (i := 66) (by decide +kernel))) (hq _ na_d) hA with h | ⟨t, h⟩
    · exact ⟨.null, h, 0, 0, rfl⟩
    · exact ⟨.ref t, h, t, 1, rfl⟩
  obtain ⟨as, hs⟩ : ∃ as : Nat → Nat, ∀ j, j < 4 → va_Z RX1 (kstn j) "[I" (.ref (as j)) (fun q : Nat => s.heap.size ≤ q) s s.heap ∧ va_T .int (as j) (kstl j) (fun i => .int ((kstv.getD j []).getD i 0)) (fun q : Nat => s.heap.size ≤ q) s s.heap := ⟨fun j => Classical.choose (lt_stat hts hq j), fun j => Classical.choose_spec (lt_stat hts hq j)⟩
  obtain ⟨ss, hr⟩ : ∃ ss : Nat → Nat × Nat, ∀ j, j < 13 → va_O "java/lang/String" (ss j).1 (fun q : Nat => s.heap.size ≤ q) s s.heap ∧ va_OF "java/lang/String" "coder" "B" (.int 0) (ss j).1 (fun q : Nat => s.heap.size ≤ q) s s.heap ∧ va_OF "java/lang/String" "value" "[B" (.ref (ss j).2) (ss j).1 (fun q : Nat => s.heap.size ≤ q) s s.heap ∧ va_T .byte (ss j).2 (ebys j).length (fun i => .int ((ebys j).getD i 0)) (fun q : Nat => s.heap.size ≤ q) s s.heap ∧ ∀ r, estr[j]? = some r → vk_R r.1 r.2.1 r.2.2 (ss j).1 s := ⟨fun j => Classical.choose (lt_strs hts hq j), fun j => Classical.choose_spec (lt_strs hts hq j)⟩
  obtain ⟨t1, t2, ⟨u1, u2⟩, u3, u4⟩ := lt_dig hts hq
  obtain ⟨ad, g1, g2, g3, g6, g7, g4, g5, g8, g9, g10⟩ : ∃ ad : Nat → Nat, (∀ j, j < 4 → ad (1000 + j) = as j) ∧ (∀ j, j < 9 → ad (2000 + j) = (ss j).1) ∧ (∀ j, j < 9 → ad (2100 + j) = (ss j).2) ∧ (∀ j, j < 4 → ad (2020 + j) = (ss (9 + j)).1) ∧ (∀ j, j < 4 → ad (2120 + j) = (ss (9 + j)).2) ∧ ad 3000 = a9 ∧ ad 3001 = z9 ∧ ad 3100 = b ∧ ad 3200 = t1 ∧ ad 3201 = t2 := by
    refine ⟨eAd as ss a9 z9 b t1 t2, fun j hj => ?_, fun j hj => ?_, fun j hj => ?_, fun j hj => ?_, fun j hj => ?_, rfl, rfl, rfl, rfl, rfl⟩
    · unfold eAd; rw [if_pos (by omega), Nat.add_sub_cancel_left]
    · unfold eAd; rw [if_neg (by omega), if_pos (by omega), Nat.add_sub_cancel_left]
    · unfold eAd; rw [if_neg (by omega), if_neg (by omega), if_neg (by omega), if_pos (by omega), Nat.add_sub_cancel_left]
    · unfold eAd; rw [if_neg (by omega), if_neg (by omega), if_pos (by omega), Nat.add_sub_cancel_left, Nat.add_comm j 9]
    · unfold eAd; rw [if_neg (by omega), if_neg (by omega), if_neg (by omega), if_neg (by omega), if_pos (by omega), Nat.add_sub_cancel_left, Nat.add_comm j 9]
  have hcl : ∀ (k : Nat) (q : vw_C), vwCl[k]? = some q → u_Kn s q.1 q.2.1 q.2.2 (Classical.choose (hk k)).1 (Classical.choose (hk k)).2 := fun k q h => Classical.choose_spec (hk k) q h
  refine ⟨((fun k => (Classical.choose (hk k)).1, fun k => (Classical.choose (hk k)).2), ad, fun i => if i = 0 then c0 else if i = 1 then c1 else if i = 2 then c0 else if i = 3 then c3 else c2), ⟨hcl, fun k q h => ?_⟩, ⟨hcl, fun k q h => ?_⟩, ⟨fun j hj => ?_, vx_Zqof (hts _ (List.mem_of_getElem? (i := 581) (by decide +kernel))) (hts _ (List.mem_of_getElem? (i := 56) (by decide +kernel))) (hq _ na_a) hA, vx_Zqof (hts _ (List.mem_of_getElem? (i := 583) (by decide +kernel))) (hts _ (List.mem_of_getElem? (i := 56) (by decide +kernel))) (hq _ na_b) hA, va_Zof (hts _ (List.mem_of_getElem? (i := 381) (by decide +kernel))) (hts _ (List.mem_of_getElem? (i := 63) (by decide +kernel))) (va_eqi (hq _ na_c)) hA, ?_, fun j hj => ?_, fun w hw => ?_, ?_, va_any rfl (hts _ (List.mem_of_getElem? (i := 828) (by decide +kernel)))⟩, ⟨va_Zof (hts _ (List.mem_of_getElem? (i := 381) (by decide +kernel))) (hts _ (List.mem_of_getElem? (i := 63) (by decide +kernel))) (va_eqi (hq _ na_c)) hA, fun j hj => ?_, ?_, ?_, ?_, ?_, lt_sel hts⟩, g8⟩
  · match k, h with
    | 0, h => cases h; exact ⟨fun N z => ⟨fun k h => (by cases h), k0, a2, p0, a3⟩, a1⟩
    | 1, h => cases h; exact ⟨fun N z => ⟨fun k h => (by cases h), k1, b2, p1, b3⟩, b1⟩
    | 2, h => cases h; exact ⟨fun N z => ⟨fun k h => (by cases h), k0, a2, p0, a3⟩, a1⟩
    | 3, h => cases h; exact ⟨fun N z => ⟨fun k h => (by cases h), k3, e3, p3, e4⟩, k3, p3, e3, e4, e1, e5⟩
    | k + 4, h => cases h
  · match k, h with
    | 0, h => cases h; exact ⟨fun N z => ⟨fun k h => (by cases h), k2, d2, p2, d3⟩, d1⟩
    | k + 1, h => cases h
  · show va_Z RX1 (kstn j) "[I" (.ref (ad (1000 + j))) _ s s.heap ∧ va_T .int (ad (1000 + j)) (kstl j) _ _ s s.heap
    rw [g1 j hj]
    exact hs j hj
  · unfold ksf
    show va_Z _ _ _ (if ad 3001 = 0 then .null else .ref (ad 3000)) _ s s.heap
    rw [g4, g5, ← h9]
    exact hv9
  · have hj := shS_t hj
    have h8 := hr j (by omega)
    have e8 : ebys j = ksby j := if_pos hj
    rw [e8] at h8
    unfold KSS
    rw [ksbz_lt hj]
    show va_O "java/lang/String" (ad (2000 + j)) _ s s.heap ∧ va_OF "java/lang/String" "coder" "B" (.int 0) (ad (2000 + j)) _ s s.heap ∧ va_OF "java/lang/String" "value" "[B" (.ref (ad (2100 + j))) (ad (2000 + j)) _ s s.heap ∧ va_T .byte (ad (2100 + j)) (ksby j).length _ _ s s.heap ∧ ∀ r, kstr[j]? = some r → vk_R r.1 r.2.1 r.2.2 (ad (2000 + j)) s
    rw [g2 j hj, g3 j hj]
    exact ⟨h8.1, h8.2.1, h8.2.2.1, h8.2.2.2.1, fun r hr2 => h8.2.2.2.2 r (by unfold estr; rw [List.getElem?_append_left (show j < kstr.length from hj)]; exact hr2)⟩
  · have h0 := List.all_eq_true.mp kbt_ok w hw
    simp only [Bool.and_eq_true] at h0
    exact va_any h0.1 (hts w (of_decide_eq_true (List.all_eq_true.mp kbt_in w hw)))
  · show va_T .int (ad 3100) _ _ _ s s.heap
    rw [g8, shS_l]
    obtain ⟨scr, x1, x2, x3, x4, x5⟩ := hX
    exact ⟨scr, x1, x2, x3, by rw [x4]; exact Nat.le_refl _, by rw [x4], fun j hj => by show scr.slots[j]? = some (Value.int (scx (shS L xs) j)); rw [shS_x]; exact x5 j hj, hA b hb⟩
  · have h8 := hr (9 + j) (by omega)
    have e8 : ebys (9 + j) = (jby j).map nI := by unfold ebys; rw [if_neg (by omega), Nat.add_sub_cancel_left]
    rw [e8, List.length_map] at h8
    have h7 : va_T .byte (ss (9 + j)).2 (jby j).length (fun i => .int (nI ((jby j).getD i 0))) (fun q : Nat => s.heap.size ≤ q) s s.heap := by
      have := h8.2.2.2.1
      simp only [jby_map] at this
      exact this
    show va_O "java/lang/String" (ad (2020 + j)) _ s s.heap ∧ va_OF "java/lang/String" "coder" "B" (.int 0) (ad (2020 + j)) _ s s.heap ∧ va_OF "java/lang/String" "value" "[B" (.ref (ad (2120 + j))) (ad (2020 + j)) _ s s.heap ∧ va_T .byte (ad (2120 + j)) (jby j).length _ _ s s.heap ∧ vk_R RL (jsx j) (jst j) (ad (2020 + j)) s
    rw [g6 j hj, g7 j hj]
    refine ⟨h8.1, h8.2.1, h8.2.2.1, h7, ?_⟩
    have e9 : ∀ j, j < 4 → estr[9 + j]? = some (RL, jsx j, jst j) := by decide +kernel
    exact h8.2.2.2.2 _ (e9 j hj)
  · show va_Z "java/lang/Integer" "DigitOnes" "[B" (.ref (ad 3200)) _ s s.heap
    rw [g9]; exact u1
  · show va_T .byte (ad 3200) 100 _ _ s s.heap
    rw [g9]; exact u2
  · show va_Z "java/lang/Integer" "DigitTens" "[B" (.ref (ad 3201)) _ s s.heap
    rw [g10]; exact u3
  · show va_T .byte (ad 3201) 100 _ _ s s.heap
    rw [g10]; exact u4
