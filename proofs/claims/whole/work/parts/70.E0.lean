/-! what holds at the law's entry, as the contracts ask it -/
abbrev nar : List Cond := flatC (Jvm.Cond.and given_1 narrow_1)
theorem na_1 : ∀ j, j < 4 → Cond.arrayOf (.static RX1 (kstn j) "[I") .int ∈ nar := by decide +kernel
theorem na_2 : ∀ j, j < 4 → Cond.eq (.length (.static RX1 (kstn j) "[I")) (.int (Int32.ofNat (kstl j))) ∈ nar := by decide +kernel
theorem na_3 : ∀ j, j < 4 → ∀ i, i < kstl j → Cond.eq (.elem (.static RX1 (kstn j) "[I") (.int (Int32.ofNat i))) (.int ((kstv.getD j []).getD i 0)) ∈ nar := by decide +kernel
def kso (j : Nat) : Term := .string (kstr.getD j ("", 0, "")).1 (kstr.getD j ("", 0, "")).2.1
theorem na_4 : ∀ j, j < 18 → Cond.exactly (kso j) "java/lang/String" ∈ nar := by decide +kernel
theorem na_5 : ∀ j, j < 18 → Cond.eq (.field (kso j) "java/lang/String" "coder" "B") (.int 0) ∈ nar := by decide +kernel
theorem na_6 : ∀ j, j < 18 → Cond.arrayOf (.field (kso j) "java/lang/String" "value" "[B") .byte ∈ nar := by decide +kernel
theorem na_7 : ∀ j, j < 18 → Cond.eq (.length (.field (kso j) "java/lang/String" "value" "[B")) (.int (Int32.ofNat (ksby j).length)) ∈ nar := by decide +kernel
theorem na_8 : ∀ j, j < 18 → ∀ i, i < (ksby j).length → Cond.eq (.elem (.field (kso j) "java/lang/String" "value" "[B") (.int (Int32.ofNat i))) (.int ((ksby j).getD i 0)) ∈ nar := by decide +kernel
theorem na_9 : ∀ p ∈ [(1, 2), (1, 3), (2, 1), (2, 3), (3, 1), (3, 2)], Cond.not (.castable (kxn p.1) (kxn p.2)) ∈ nar := by decide +kernel
theorem na_a : Cond.isRef (.static Bundle.tN "UNASSIGNED_STACK" Bundle.steD) ∈ nar := by decide +kernel
theorem na_b : Cond.isRef (.static Bundle.tN "SUPPRESSED_SENTINEL" Bundle.listD) ∈ nar := by decide +kernel
theorem na_c : Cond.eq (.static "java/lang/String" "COMPACT_STRINGS" "Z") (.int 1) ∈ nar := by decide +kernel
theorem na_d : Cond.isRef (.static "jdk/internal/util/Preconditions" "SIOOBE_FORMATTER" "Ljava/util/function/BiFunction;") ∈ nar := by decide +kernel
theorem ka_len : ∀ j, j < 18 → (ksby j).length < 2 ^ 31 ∧ kstr[j]? = some (kstr.getD j ("", 0, "")) := by decide +kernel
theorem kl_len : ∀ j, j < 4 → kstl j < 2 ^ 31 := by decide +kernel
theorem lt_lays {s : State} {b : Nat} (hts : ∀ w ∈ lw_tbl, w.before #[Value.ref b] s = true) : ∀ j, j < 4 → (Cond.laysStatic RX1 (kstn j) "[I").before #[Value.ref b] s = true
  | 0, _ => hts _ (List.mem_of_getElem? (i := 705) (by decide +kernel))
  | 1, _ => hts _ (List.mem_of_getElem? (i := 697) (by decide +kernel))
  | 2, _ => hts _ (List.mem_of_getElem? (i := 703) (by decide +kernel))
  | 3, _ => hts _ (List.mem_of_getElem? (i := 695) (by decide +kernel))
theorem lt_str {s : State} {b : Nat} (hts : ∀ w ∈ lw_tbl, w.before #[Value.ref b] s = true) : ∀ j, j < 18 → (Cond.stringRef (kstr.getD j ("", 0, "")).1 (kstr.getD j ("", 0, "")).2.1 (kstr.getD j ("", 0, "")).2.2).before #[Value.ref b] s = true
  | 0, _ => hts _ (List.mem_of_getElem? (i := 414) (by decide +kernel))
  | 1, _ => hts _ (List.mem_of_getElem? (i := 506) (by decide +kernel))
  | 2, _ => hts _ (List.mem_of_getElem? (i := 524) (by decide +kernel))
  | 3, _ => hts _ (List.mem_of_getElem? (i := 525) (by decide +kernel))
  | 4, _ => hts _ (List.mem_of_getElem? (i := 526) (by decide +kernel))
  | 5, _ => hts _ (List.mem_of_getElem? (i := 527) (by decide +kernel))
  | 6, _ => hts _ (List.mem_of_getElem? (i := 578) (by decide +kernel))
  | 7, _ => hts _ (List.mem_of_getElem? (i := 587) (by decide +kernel))
  | 8, _ => hts _ (List.mem_of_getElem? (i := 592) (by decide +kernel))
  | 9, _ => hts _ (List.mem_of_getElem? (i := 1523) (by decide +kernel))
  | 10, _ => hts _ (List.mem_of_getElem? (i := 1553) (by decide +kernel))
  | 11, _ => hts _ (List.mem_of_getElem? (i := 1574) (by decide +kernel))
  | 12, _ => hts _ (List.mem_of_getElem? (i := 1575) (by decide +kernel))
  | 13, _ => hts _ (List.mem_of_getElem? (i := 1576) (by decide +kernel))
  | 14, _ => hts _ (List.mem_of_getElem? (i := 1577) (by decide +kernel))
  | 15, _ => hts _ (List.mem_of_getElem? (i := 1621) (by decide +kernel))
  | 16, _ => hts _ (List.mem_of_getElem? (i := 1626) (by decide +kernel))
  | 17, _ => hts _ (List.mem_of_getElem? (i := 1627) (by decide +kernel))
  | j + 18, h => absurd h (by omega)
theorem lt_cls : ∀ (k : Nat) (q : vw_C), vwCl[k]? = some q → Cond.instantiable q.1 q.2.2 ∈ kg
  | 0, q, h => by cases h; exact nI_X0
  | 1, q, h => by cases h; exact nI_X1
  | 2, q, h => by cases h; exact nI_X2
  | 3, q, h => by cases h; exact nI_X3
  | 4, q, h => by cases h; exact nI_X4
  | 5, q, h => by cases h; exact nI_X5
  | 6, q, h => by cases h; exact nI_X6
  | 7, q, h => by cases h; exact nI_X7
  | k + 8, q, h => by cases h
theorem lt_nw {s : State} {b : Nat} (hts : ∀ w ∈ lw_tbl, w.before #[Value.ref b] s = true) : KNX s := by
  refine ⟨va_AO.of (hts _ (List.mem_of_getElem? (i := 274) (by decide +kernel))), fun w hw => ?_⟩
  unfold knw at hw
  rcases List.mem_cons.mp hw with rfl | hw
  · exact va_any rfl (hts _ (List.mem_of_getElem? (i := 277) (by decide +kernel)))
  rcases List.mem_cons.mp hw with rfl | hw
  · exact va_any rfl (hts _ (List.mem_of_getElem? (i := 312) (by decide +kernel)))
  rcases List.mem_cons.mp hw with rfl | hw
  · exact va_any rfl (hts _ (List.mem_of_getElem? (i := 337) (by decide +kernel)))
  rcases List.mem_cons.mp hw with rfl | hw
  · exact va_any rfl (hts _ (List.mem_of_getElem? (i := 350) (by decide +kernel)))
  cases hw
theorem lt_xnc {s : State} {b : Nat} (hts : ∀ w ∈ lw_tbl, w.before #[Value.ref b] s = true) (hq : ∀ w ∈ nar, w.before #[Value.ref b] s = true) : XNC s := by
  refine ⟨fun i j h1 h2 h3 h4 h5 => ?_, fun i h1 h2 => ?_⟩
  · have hi : i = 1 ∨ i = 2 ∨ i = 3 := by omega
    have hj : j = 1 ∨ j = 2 ∨ j = 3 := by omega
    rcases hi with rfl | rfl | rfl <;> rcases hj with rfl | rfl | rfl <;> first | exact absurd rfl h5 | exact va_Nc.of (hq _ (na_9 (_, _) (by decide)))
  have : i = 1 ∨ i = 2 ∨ i = 3 := by omega
  rcases this with rfl | rfl | rfl
  · exact va_any rfl (hts _ (List.mem_of_getElem? (i := 996) (by decide +kernel)))
  · exact va_any rfl (hts _ (List.mem_of_getElem? (i := 918) (by decide +kernel)))
  · exact va_any rfl (hts _ (List.mem_of_getElem? (i := 1039) (by decide +kernel)))
theorem lt_stat {s : State} {b : Nat} (hts : ∀ w ∈ lw_tbl, w.before #[Value.ref b] s = true) (hq : ∀ w ∈ nar, w.before #[Value.ref b] s = true) (j : Nat) : ∃ t : Nat, j < 4 → va_Z RX1 (kstn j) "[I" (.ref t) (fun q : Nat => s.heap.size ≤ q) s s.heap ∧ va_T .int t (kstl j) (fun i => .int ((kstv.getD j []).getD i 0)) (fun q : Nat => s.heap.size ≤ q) s s.heap := by
  by_cases hj : j < 4
  · have hA : ∀ a : Nat, a < s.heap.size → ¬ s.heap.size ≤ a := fun a h => Nat.not_le.mpr h
    obtain ⟨t, h1, h2⟩ := va_Tof (A := fun q : Nat => s.heap.size ≤ q) (f := fun i => .int ((kstv.getD j []).getD i 0)) (kl_len j hj) (hq _ (na_1 j hj)) (va_eqt (hq _ (na_2 j hj))) (fun i hi => va_eqt (hq _ (na_3 j hj i hi))) hA
    exact ⟨t, fun _ => ⟨va_Zof (lt_lays hts j hj) (hts _ (List.mem_filter.mp tI_X1).1) h1 hA, h2⟩⟩
  · exact ⟨0, fun h => absurd h hj⟩
theorem lt_strs {s : State} {b : Nat} (hts : ∀ w ∈ lw_tbl, w.before #[Value.ref b] s = true) (hq : ∀ w ∈ nar, w.before #[Value.ref b] s = true) (j : Nat) : ∃ q : Nat × Nat, j < 18 → va_O "java/lang/String" q.1 (fun q : Nat => s.heap.size ≤ q) s s.heap ∧ va_OF "java/lang/String" "coder" "B" (.int 0) q.1 (fun q : Nat => s.heap.size ≤ q) s s.heap ∧ va_OF "java/lang/String" "value" "[B" (.ref q.2) q.1 (fun q : Nat => s.heap.size ≤ q) s s.heap ∧ va_T .byte q.2 (ksby j).length (fun i => .int ((ksby j).getD i 0)) (fun q : Nat => s.heap.size ≤ q) s s.heap ∧ ∀ r, kstr[j]? = some r → vk_R r.1 r.2.1 r.2.2 q.1 s := by
  by_cases hj : j < 18
  · have hA : ∀ a : Nat, a < s.heap.size → ¬ s.heap.size ≤ a := fun a h => Nat.not_le.mpr h
    obtain ⟨adK, adV, hS, hev⟩ := vk_Sof (A := fun q : Nat => s.heap.size ≤ q) (args := #[Value.ref b]) (s := s) (N := 1) (tm := fun _ => kso j) (len := [(ksby j).length]) (byt := [ksby j])
      (fun i hi => by rw [show i = 0 by omega]; exact (ka_len j hj).1) (fun i _ => hq _ (na_4 j hj)) (fun i _ => hq _ (na_5 j hj)) (fun i _ => hq _ (na_6 j hj)) (fun i hi => by rw [show i = 0 by omega]; exact hq _ (na_7 j hj)) (fun i hi k hk => by rw [show i = 0 by omega] at hk ⊢; exact hq _ (na_8 j hj k hk)) (fun i k hi hk h => absurd (show i = k by omega) h) hA
    obtain ⟨a1, a2, a3, a4⟩ := hS.1 0 (by decide)
    refine ⟨(adK 0, adV 0), fun _ => ⟨a1, a2, a3, a4, fun r hr => ?_⟩⟩
    have h9 := (ka_len j hj).2
    rw [hr] at h9
    have h8 := Option.some.inj h9
    rw [h8]
    exact vk_R.of (lt_str hts j hj) (hev 0 (by decide))
  · exact ⟨(0, 0), fun h => absurd h hj⟩
theorem law_env {s : State} {b : Nat} (hts : ∀ w ∈ lw_tbl, w.before #[Value.ref b] s = true) (hq : ∀ w ∈ nar, w.before #[Value.ref b] s = true) : ∃ E0 : KE, va_K E0.1 vwCl (kty E0) s ∧ KST E0 (fun q : Nat => s.heap.size ≤ q) s s.heap := by
  have hA : ∀ a : Nat, a < s.heap.size → ¬ s.heap.size ≤ a := fun a h => Nat.not_le.mpr h
  have htg : ∀ w ∈ kg, w.before #[Value.ref b] s = true := fun w h => hts w (List.mem_filter.mp h).1
  have hk : ∀ k : Nat, ∃ x : ClassId × (Nat → Nat), ∀ q : vw_C, vwCl[k]? = some q → u_Kn s q.1 q.2.1 q.2.2 x.1 x.2 := by
    intro k
    cases hv : vwCl[k]? with
    | none => exact ⟨(0, fun _ => 0), fun q h => by cases h⟩
    | some q0 =>
      obtain ⟨cC, iS, h⟩ := u_known (C := q0.1) (T := q0.2.1) (N := q0.2.2) htg (kcl_ws k q0 hv) (htg _ (lt_cls k q0 hv))
      exact ⟨(cC, iS), fun q h9 => by cases h9; exact h⟩
  obtain ⟨c0, k0, p0, a1, a2, a3⟩ := Cond.arrayClass_spec (hts (.arrayClass .int) (List.mem_of_getElem? (i := 202) (by decide +kernel)))
  obtain ⟨c1, k1, p1, b1, b2, b3⟩ := Cond.arrayClass_spec (hts (.arrayClass .boolean) (List.mem_of_getElem? (i := 309) (by decide +kernel)))
  obtain ⟨c2, k2, p2, d1, d2, d3⟩ := Cond.arrayClass_spec (hts (.arrayClass .long) (List.mem_of_getElem? (i := 1991) (by decide +kernel)))
  obtain ⟨p3, c3, k3, e1, -, e3, e4, e5⟩ := Cond.arrayOver_spec (hts (.arrayOver (.object "KaleidoscopeBox$State")) (List.mem_of_getElem? (i := 274) (by decide +kernel)))
  obtain ⟨v9, hv9, a9, z9, h9⟩ : ∃ v : Value, va_Z "jdk/internal/util/Preconditions" "SIOOBE_FORMATTER" "Ljava/util/function/BiFunction;" v (fun q : Nat => s.heap.size ≤ q) s s.heap ∧ ∃ a9 z9 : Nat, v = if z9 = 0 then .null else .ref a9 := by
    rcases va_Zqof (A := fun q : Nat => s.heap.size ≤ q) (hts _ (List.mem_of_getElem? (i := 472) (by decide +kernel))) (hts _ (List.mem_of_getElem? (i := 138) (by decide +kernel))) (hq _ na_d) hA with h | ⟨t, h⟩
    · exact ⟨.null, h, 0, 0, rfl⟩
    · exact ⟨.ref t, h, t, 1, rfl⟩
  obtain ⟨as, hs⟩ : ∃ as : Nat → Nat, ∀ j, j < 4 → va_Z RX1 (kstn j) "[I" (.ref (as j)) (fun q : Nat => s.heap.size ≤ q) s s.heap ∧ va_T .int (as j) (kstl j) (fun i => .int ((kstv.getD j []).getD i 0)) (fun q : Nat => s.heap.size ≤ q) s s.heap := ⟨fun j => Classical.choose (lt_stat hts hq j), fun j => Classical.choose_spec (lt_stat hts hq j)⟩
  obtain ⟨ss, hr⟩ : ∃ ss : Nat → Nat × Nat, ∀ j, j < 18 → va_O "java/lang/String" (ss j).1 (fun q : Nat => s.heap.size ≤ q) s s.heap ∧ va_OF "java/lang/String" "coder" "B" (.int 0) (ss j).1 (fun q : Nat => s.heap.size ≤ q) s s.heap ∧ va_OF "java/lang/String" "value" "[B" (.ref (ss j).2) (ss j).1 (fun q : Nat => s.heap.size ≤ q) s s.heap ∧ va_T .byte (ss j).2 (ksby j).length (fun i => .int ((ksby j).getD i 0)) (fun q : Nat => s.heap.size ≤ q) s s.heap ∧ ∀ r, kstr[j]? = some r → vk_R r.1 r.2.1 r.2.2 (ss j).1 s := ⟨fun j => Classical.choose (lt_strs hts hq j), fun j => Classical.choose_spec (lt_strs hts hq j)⟩
  obtain ⟨ad, g1, g2, g3, g4, g5⟩ : ∃ ad : Nat → Nat, (∀ j, j < 4 → ad (1000 + j) = as j) ∧ (∀ j, j < 18 → ad (2000 + j) = (ss j).1) ∧ (∀ j, j < 18 → ad (2100 + j) = (ss j).2) ∧ ad 3000 = a9 ∧ ad 3001 = z9 := by
    refine ⟨fun k => if k < 2000 then as (k - 1000) else if k < 2100 then (ss (k - 2000)).1 else if k < 3000 then (ss (k - 2100)).2 else if k = 3000 then a9 else z9, fun j hj => ?_, fun j hj => ?_, fun j hj => ?_, rfl, rfl⟩
    · show (if 1000 + j < 2000 then as (1000 + j - 1000) else _) = _
      rw [if_pos (by omega), Nat.add_sub_cancel_left]
    · show (if 2000 + j < 2000 then _ else if 2000 + j < 2100 then (ss (2000 + j - 2000)).1 else _) = _
      rw [if_neg (by omega), if_pos (by omega), Nat.add_sub_cancel_left]
    · show (if 2100 + j < 2000 then _ else if 2100 + j < 2100 then _ else if 2100 + j < 3000 then (ss (2100 + j - 2100)).2 else _) = _
      rw [if_neg (by omega), if_neg (by omega), if_pos (by omega), Nat.add_sub_cancel_left]
  refine ⟨((fun k => (Classical.choose (hk k)).1, fun k => (Classical.choose (hk k)).2), ad, fun i => if i = 0 then c0 else if i = 1 then c1 else if i = 2 then c2 else c3), ⟨fun k q h => Classical.choose_spec (hk k) q h, fun k q h => ?_⟩, fun j hj => ?_, vx_Zqof (hts _ (List.mem_of_getElem? (i := 943) (by decide +kernel))) (hts _ (List.mem_of_getElem? (i := 131) (by decide +kernel))) (hq _ na_a) hA, vx_Zqof (hts _ (List.mem_of_getElem? (i := 945) (by decide +kernel))) (hts _ (List.mem_of_getElem? (i := 131) (by decide +kernel))) (hq _ na_b) hA, va_Zof (hts _ (List.mem_of_getElem? (i := 456) (by decide +kernel))) (hts _ (List.mem_of_getElem? (i := 136) (by decide +kernel))) (va_eqi (hq _ na_c)) hA, ?_, fun j hj => ?_, fun w hw => ?_⟩
  · match k, h with
    | 0, h => cases h; exact ⟨fun N z => ⟨fun k h => (by cases h), k0, a2, p0, a3⟩, a1⟩
    | 1, h => cases h; exact ⟨fun N z => ⟨fun k h => (by cases h), k1, b2, p1, b3⟩, b1⟩
    | 2, h => cases h; exact ⟨fun N z => ⟨fun k h => (by cases h), k2, d2, p2, d3⟩, d1⟩
    | 3, h => cases h; exact ⟨fun N z => ⟨fun k h => (by cases h), k3, e3, p3, e4⟩, k3, p3, e3, e4, e1, e5⟩
    | k + 4, h => cases h
  · show va_Z RX1 (kstn j) "[I" (.ref (ad (1000 + j))) _ s s.heap ∧ va_T .int (ad (1000 + j)) (kstl j) _ _ s s.heap
    rw [g1 j hj]
    exact hs j hj
  · unfold ksf
    show va_Z _ _ _ (if ad 3001 = 0 then .null else .ref (ad 3000)) _ s s.heap
    rw [g4, g5, ← h9]
    exact hv9
  · unfold KSS
    show va_O "java/lang/String" (ad (2000 + j)) _ s s.heap ∧ va_OF "java/lang/String" "coder" "B" (.int 0) (ad (2000 + j)) _ s s.heap ∧ va_OF "java/lang/String" "value" "[B" (.ref (ad (2100 + j))) (ad (2000 + j)) _ s s.heap ∧ va_T .byte (ad (2100 + j)) (ksby j).length _ _ s s.heap ∧ ∀ r, kstr[j]? = some r → vk_R r.1 r.2.1 r.2.2 (ad (2000 + j)) s
    rw [g2 j hj, g3 j hj]
    exact hr j hj
  · have h0 := List.all_eq_true.mp kbt_ok w hw
    simp only [Bool.and_eq_true] at h0
    exact va_any h0.1 (hts w (of_decide_eq_true (List.all_eq_true.mp kbt_in w hw)))
