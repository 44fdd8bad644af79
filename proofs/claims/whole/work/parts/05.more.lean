def kFU : Nat := 4000000
def kb (b : Bool) : Int32 := if b = true then 1 else 0
theorem kb_n (b : Bool) : narrow .boolean (.int (kb b)) = .int (kb b) := by cases b <;> rfl
theorem kb_f (b : Bool) : fits .boolean (.int (kb b)) = true := by cases b <;> rfl
theorem kb_v (b : Bool) : vp_nar .boolean (kb b) = kb b := by cases b <;> rfl
theorem kb_0 (b : Bool) : kb b = 0 ↔ ¬ b = true := by cases b <;> decide
def kbo (v : Int32) : Bool := decide (v = 0) || decide (v = 1)
theorem kbo_b {v : Int32} (h : kbo v = true) : v = kb (decide (v = 1)) := by
  unfold kbo at h
  rw [Bool.or_eq_true] at h
  rcases h with h | h
  · have h := of_decide_eq_true h
    subst h
    rfl
  · have h := of_decide_eq_true h
    subst h
    rfl
theorem kbo_l {v : Int32} {s : Sto} (h : kbo v = true) : ((0, .int (kb (decide (v = 1))), s) : KO) = (0, .int v, s) := by rw [← kbo_b h]
theorem kbo_n {v : Int32} (h : kbo v = true) : narrow .boolean (.int v) = .int v := by rw [kbo_b h]; exact kb_n _
theorem kbo_f {v : Int32} (h : kbo v = true) : fits .boolean (.int v) = true := by rw [kbo_b h]; exact kb_f _
theorem kbo_v {v : Int32} (h : kbo v = true) : vp_nar .boolean v = v := by rw [kbo_b h]; exact kb_v _
theorem knz {y : Int32} {α : Type} {A : Option α} {r : α} (h : (if y = 0 then none else A) = some r) : ¬ y = 0 ∧ A = some r := by
  by_cases c : y = 0
  · rw [if_pos c] at h; cases h
  · rw [if_neg c] at h; exact ⟨c, h⟩
section KROWS3
variable {sh : KSh} {l : Launch} {M : KM} {k n pc : Nat} {lo : List (Nat × Value)} {st : List Value} {σ : Sto} {o : KO}
theorem kv_ifb_eq {β : Type} {A B r : β} {b : Bool} {off : Int} {tgt : Nat} (hd : decode M.2.1 pc = .ok (.ifCond .eq off, 3)) (ht : (pc : Int) + off = (tgt : Int)) (h : (if b = true then A else B) = r) (kt : B = r → VV sh l M k n tgt lo st σ o) (kf : A = r → VV sh l M k n (pc + 3) lo st σ o) : VV sh l M k n pc lo (.int (kb b) :: st) σ o := by
  cases b
  · exact kv_if_eq (A := B) (B := A) (r := r) hd ht (by rw [if_pos (by decide)]; exact h) kt kf
  · exact kv_if_eq (A := B) (B := A) (r := r) hd ht (by rw [if_neg (by decide)]; exact h) kt kf
theorem kv_ifb_ne {β : Type} {A B r : β} {b : Bool} {off : Int} {tgt : Nat} (hd : decode M.2.1 pc = .ok (.ifCond .ne off, 3)) (ht : (pc : Int) + off = (tgt : Int)) (h : (if b = true then A else B) = r) (kt : A = r → VV sh l M k n tgt lo st σ o) (kf : B = r → VV sh l M k n (pc + 3) lo st σ o) : VV sh l M k n pc lo (.int (kb b) :: st) σ o := by
  cases b
  · exact kv_if_ne (A := B) (B := A) (r := r) hd ht (by rw [if_pos (by decide)]; exact h) kt kf
  · exact kv_if_ne (A := B) (B := A) (r := r) hd ht (by rw [if_neg (by decide)]; exact h) kt kf
theorem kv_widen (k' n' : Nat) (h1 : k ≤ k') (h2 : n ≤ n') (kk : VV sh l M k' n' pc lo st σ o) : VV sh l M k n pc lo st σ o :=
  fun E A p e s m args below meth c C H locs ls hW hS hl => W.widen h1 h2 (kk E A p e s m args below meth c C H locs ls hW hS hl)
theorem kv_cV {α β : Type} {f : Option α} {K : α → Option β} {res : β} {M' : KM} {y : MethodName} {q ci ix : Nat} (As : List Value) (conv : α → KO) (stk2 : α → List Value) (σ2 : α → Sto) (pc2 k2 n2 : Nat) {stk : List Value} {C0 : String} {T0 : u_T} {N0 : Nat} (h : f.bind K = some res) (hc : ∀ r, f = some r → CT sh l M' y (.ref q :: As) σ (conv r)) (hd : decode M.2.1 pc = .ok (.invokevirtual ix, 3)) (hst : stk = As.reverse ++ .ref q :: st)
    (hs : sh q = .inl ci) (hcl : vwCl[ci]? = some (C0, T0, N0)) (hy : KMV y M' C0 As.length) (hlk : Cond.methodLink M.1 ix y ∈ kg)
    (hR : M'.2.2.2.2.1.frames + 1 ≤ M.2.2.2.2.1.frames ∧ 8 + (M'.2.2.1 + 11) + M'.2.2.2.2.1.locals ≤ M.2.2.2.2.1.locals) (hcat : (st.map fun v => v.category).sum ≤ 8) (hf : k + M'.2.2.2.2.2.1 ≤ M.2.2.2.2.1.cells ∧ n + M'.2.2.2.2.2.2 ≤ M.2.2.2.2.1.slots)
    (h2 : ∀ r, (krv M'.2.2.2.1 (conv r).2.1).toList ++ st = stk2 r) (h3 : ∀ r, (conv r).2.2 = σ2 r) (h4 : pc + 3 = pc2 ∧ k + M'.2.2.2.2.2.1 = k2 ∧ n + M'.2.2.2.2.2.2 = n2)
    (hx : ∀ r, K r = some res → (conv r).1 ≠ 0 → o.1 = (conv r).1 ∧ o.2.2 = (conv r).2.2 ∧ k + M'.2.2.2.2.2.1 ≤ M.2.2.2.2.2.1 ∧ n + M'.2.2.2.2.2.2 ≤ M.2.2.2.2.2.2)
    (kk : ∀ r, f = some r → (conv r).1 = 0 → K r = some res → VV sh l M k2 n2 pc2 lo (stk2 r) (σ2 r) o) : VV sh l M k n pc lo stk σ o := by
  cases hf0 : f with
  | none => rw [hf0] at h; cases h
  | some r =>
    rw [hf0] at h
    obtain ⟨rfl, rfl, rfl⟩ := h4
    refine kv_callV (o1 := conv r) As (hc r hf0) hd hst hs hcl hy hlk hR hcat hf (fun h0 => hx r h h0) (fun h0 => ?_)
    rw [h2 r, h3 r]
    exact kk r hf0 h0 h
theorem kv_cS {α β : Type} {f : Option α} {K : α → Option β} {res : β} {M' : KM} {y : MethodName} {ix : Nat} (As : List Value) (conv : α → KO) (stk2 : α → List Value) (σ2 : α → Sto) (pc2 k2 n2 : Nat) {stk : List Value} (h : f.bind K = some res) (hc : ∀ r, f = some r → CT sh l M' y As σ (conv r)) (hd : decode M.2.1 pc = .ok (.invokestatic ix, 3)) (hst : stk = As.reverse ++ st)
    (hy : KMS y M' As.length) (hlk : Cond.methodLink M.1 ix y ∈ kg)
    (hR : M'.2.2.2.2.1.frames + 1 ≤ M.2.2.2.2.1.frames ∧ 8 + (M'.2.2.1 + 11) + M'.2.2.2.2.1.locals ≤ M.2.2.2.2.1.locals) (hcat : (st.map fun v => v.category).sum ≤ 8) (hf : k + M'.2.2.2.2.2.1 ≤ M.2.2.2.2.1.cells ∧ n + M'.2.2.2.2.2.2 ≤ M.2.2.2.2.1.slots)
    (h2 : ∀ r, (krv M'.2.2.2.1 (conv r).2.1).toList ++ st = stk2 r) (h3 : ∀ r, (conv r).2.2 = σ2 r) (h4 : pc + 3 = pc2 ∧ k + M'.2.2.2.2.2.1 = k2 ∧ n + M'.2.2.2.2.2.2 = n2)
    (hx : ∀ r, K r = some res → (conv r).1 ≠ 0 → o.1 = (conv r).1 ∧ o.2.2 = (conv r).2.2 ∧ k + M'.2.2.2.2.2.1 ≤ M.2.2.2.2.2.1 ∧ n + M'.2.2.2.2.2.2 ≤ M.2.2.2.2.2.2)
    (kk : ∀ r, f = some r → (conv r).1 = 0 → K r = some res → VV sh l M k2 n2 pc2 lo (stk2 r) (σ2 r) o) : VV sh l M k n pc lo stk σ o := by
  cases hf0 : f with
  | none => rw [hf0] at h; cases h
  | some r =>
    rw [hf0] at h
    obtain ⟨rfl, rfl, rfl⟩ := h4
    refine kv_callS (o1 := conv r) As (hc r hf0) hd hst hy hlk hR hcat hf (fun h0 => hx r h h0) (fun h0 => ?_)
    rw [h2 r, h3 r]
    exact kk r hf0 h0 h
/-- a callee that always returns v, and writes nothing -/
theorem kv_tV {v : Value} {M' : KM} {y : MethodName} {q ci ix : Nat} (As : List Value) (stk2 : List Value) (pc2 k2 n2 : Nat) {stk : List Value} {C0 : String} {T0 : u_T} {N0 : Nat} (hc : CT sh l M' y (.ref q :: As) σ (0, v, σ)) (hd : decode M.2.1 pc = .ok (.invokevirtual ix, 3)) (hst : stk = As.reverse ++ .ref q :: st)
    (hs : sh q = .inl ci) (hcl : vwCl[ci]? = some (C0, T0, N0)) (hy : KMV y M' C0 As.length) (hlk : Cond.methodLink M.1 ix y ∈ kg)
    (hR : M'.2.2.2.2.1.frames + 1 ≤ M.2.2.2.2.1.frames ∧ 8 + (M'.2.2.1 + 11) + M'.2.2.2.2.1.locals ≤ M.2.2.2.2.1.locals) (hcat : (st.map fun v => v.category).sum ≤ 8) (hf : k + M'.2.2.2.2.2.1 ≤ M.2.2.2.2.1.cells ∧ n + M'.2.2.2.2.2.2 ≤ M.2.2.2.2.1.slots)
    (h2 : (krv M'.2.2.2.1 v).toList ++ st = stk2) (h4 : pc + 3 = pc2 ∧ k + M'.2.2.2.2.2.1 = k2 ∧ n + M'.2.2.2.2.2.2 = n2)
    (kk : VV sh l M k2 n2 pc2 lo stk2 σ o) : VV sh l M k n pc lo stk σ o := by
  obtain ⟨rfl, rfl, rfl⟩ := h4
  subst h2
  exact kv_callV (o1 := (0, v, σ)) As hc hd hst hs hcl hy hlk hR hcat hf (fun h0 => absurd rfl h0) (fun _ => kk)
theorem kv_tS {v : Value} {M' : KM} {y : MethodName} {ix : Nat} (As : List Value) (stk2 : List Value) (pc2 k2 n2 : Nat) {stk : List Value} (hc : CT sh l M' y As σ (0, v, σ)) (hd : decode M.2.1 pc = .ok (.invokestatic ix, 3)) (hst : stk = As.reverse ++ st)
    (hy : KMS y M' As.length) (hlk : Cond.methodLink M.1 ix y ∈ kg)
    (hR : M'.2.2.2.2.1.frames + 1 ≤ M.2.2.2.2.1.frames ∧ 8 + (M'.2.2.1 + 11) + M'.2.2.2.2.1.locals ≤ M.2.2.2.2.1.locals) (hcat : (st.map fun v => v.category).sum ≤ 8) (hf : k + M'.2.2.2.2.2.1 ≤ M.2.2.2.2.1.cells ∧ n + M'.2.2.2.2.2.2 ≤ M.2.2.2.2.1.slots)
    (h2 : (krv M'.2.2.2.1 v).toList ++ st = stk2) (h4 : pc + 3 = pc2 ∧ k + M'.2.2.2.2.2.1 = k2 ∧ n + M'.2.2.2.2.2.2 = n2)
    (kk : VV sh l M k2 n2 pc2 lo stk2 σ o) : VV sh l M k n pc lo stk σ o := by
  obtain ⟨rfl, rfl, rfl⟩ := h4
  subst h2
  exact kv_callS (o1 := (0, v, σ)) As hc hd hst hy hlk hR hcat hf (fun h0 => absurd rfl h0) (fun _ => kk)
end KROWS3
/-- where an object stands, the things stand to which its fields refer -/
def KWf (sh : KSh) : Prop :=
  (∀ q, sh q = .inl 0 → sh (q + 1) = .inr (0, 30)) ∧
  (∀ q, sh q = .inl 1 → sh (q + 1) = .inr (0, 225)) ∧
  (∀ q, sh q = .inl 2 → sh (q + 1) = .inr (0, 225)) ∧
  (∀ q, sh q = .inl 3 → sh (q + 1) = .inr (0, 225)) ∧
  (∀ q, sh q = .inl 3 → sh (q + 2) = .inr (0, 225)) ∧
  (∀ q, sh q = .inl 3 → sh (q + 3) = .inr (0, 225)) ∧
  (∀ q, sh q = .inl 3 → sh (q + 4) = .inr (0, 10)) ∧
  (∀ q, sh q = .inl 3 → sh (q + 5) = .inr (1, 225)) ∧
  (∀ q, sh q = .inl 3 → sh (q + 6) = .inr (0, 225)) ∧
  (∀ q, sh q = .inl 4 → sh (q + 1) = .inr (0, 600)) ∧
  (∀ q, sh q = .inl 5 → sh (q + 1) = .inl 1) ∧
  (∀ q, sh q = .inl 5 → sh (q + 3) = .inr (0, 30)) ∧
  (∀ q, sh q = .inl 5 → sh (q + 4) = .inr (0, 30)) ∧
  (∀ q, sh q = .inl 5 → sh (q + 5) = .inr (0, 30)) ∧
  (∀ q, sh q = .inl 5 → sh (q + 6) = .inr (0, 30)) ∧
  (∀ q, sh q = .inl 5 → sh (q + 7) = .inr (0, 30)) ∧
  (∀ q, sh q = .inl 5 → sh (q + 8) = .inr (0, 225))
theorem kso_0_1 {sh : KSh} (hw : KWf sh) {q : Nat} (h : sh q = .inl 0) : sh (q + 1) = .inr (0, 30) := hw.1 q h
theorem kso_1_1 {sh : KSh} (hw : KWf sh) {q : Nat} (h : sh q = .inl 1) : sh (q + 1) = .inr (0, 225) := hw.2.1 q h
theorem kso_2_1 {sh : KSh} (hw : KWf sh) {q : Nat} (h : sh q = .inl 2) : sh (q + 1) = .inr (0, 225) := hw.2.2.1 q h
theorem kso_3_1 {sh : KSh} (hw : KWf sh) {q : Nat} (h : sh q = .inl 3) : sh (q + 1) = .inr (0, 225) := hw.2.2.2.1 q h
theorem kso_3_2 {sh : KSh} (hw : KWf sh) {q : Nat} (h : sh q = .inl 3) : sh (q + 2) = .inr (0, 225) := hw.2.2.2.2.1 q h
theorem kso_3_3 {sh : KSh} (hw : KWf sh) {q : Nat} (h : sh q = .inl 3) : sh (q + 3) = .inr (0, 225) := hw.2.2.2.2.2.1 q h
theorem kso_3_4 {sh : KSh} (hw : KWf sh) {q : Nat} (h : sh q = .inl 3) : sh (q + 4) = .inr (0, 10) := hw.2.2.2.2.2.2.1 q h
theorem kso_3_5 {sh : KSh} (hw : KWf sh) {q : Nat} (h : sh q = .inl 3) : sh (q + 5) = .inr (1, 225) := hw.2.2.2.2.2.2.2.1 q h
theorem kso_3_6 {sh : KSh} (hw : KWf sh) {q : Nat} (h : sh q = .inl 3) : sh (q + 6) = .inr (0, 225) := hw.2.2.2.2.2.2.2.2.1 q h
theorem kso_4_1 {sh : KSh} (hw : KWf sh) {q : Nat} (h : sh q = .inl 4) : sh (q + 1) = .inr (0, 600) := hw.2.2.2.2.2.2.2.2.2.1 q h
theorem kso_5_1 {sh : KSh} (hw : KWf sh) {q : Nat} (h : sh q = .inl 5) : sh (q + 1) = .inl 1 := hw.2.2.2.2.2.2.2.2.2.2.1 q h
theorem kso_5_3 {sh : KSh} (hw : KWf sh) {q : Nat} (h : sh q = .inl 5) : sh (q + 3) = .inr (0, 30) := hw.2.2.2.2.2.2.2.2.2.2.2.1 q h
theorem kso_5_4 {sh : KSh} (hw : KWf sh) {q : Nat} (h : sh q = .inl 5) : sh (q + 4) = .inr (0, 30) := hw.2.2.2.2.2.2.2.2.2.2.2.2.1 q h
theorem kso_5_5 {sh : KSh} (hw : KWf sh) {q : Nat} (h : sh q = .inl 5) : sh (q + 5) = .inr (0, 30) := hw.2.2.2.2.2.2.2.2.2.2.2.2.2.1 q h
theorem kso_5_6 {sh : KSh} (hw : KWf sh) {q : Nat} (h : sh q = .inl 5) : sh (q + 6) = .inr (0, 30) := hw.2.2.2.2.2.2.2.2.2.2.2.2.2.2.1 q h
theorem kso_5_7 {sh : KSh} (hw : KWf sh) {q : Nat} (h : sh q = .inl 5) : sh (q + 7) = .inr (0, 30) := hw.2.2.2.2.2.2.2.2.2.2.2.2.2.2.2.1 q h
theorem kso_5_8 {sh : KSh} (hw : KWf sh) {q : Nat} (h : sh q = .inl 5) : sh (q + 8) = .inr (0, 225) := hw.2.2.2.2.2.2.2.2.2.2.2.2.2.2.2.2 q h
theorem kwf_ksh : KWf ksh := by
  have key : ∀ (ci d : Nat) (x : Nat ⊕ (Nat × Nat)), (∀ q, q < kNP → ksh q = .inl ci → ksh (q + d) = x) → ∀ q, ksh q = .inl ci → ksh (q + d) = x := by
    intro ci d x h q hq
    refine h q ?_ hq
    rcases Nat.lt_or_ge q kNP with h1 | h1
    · exact h1
    · exfalso
      have : ksh q = .inr (2, 0) := by
        show kshl.getD q _ = _
        rw [List.getD_eq_getElem?_getD, List.getElem?_eq_none (show kshl.length ≤ q from h1)]
        rfl
      rw [this] at hq
      cases hq
  refine ⟨?_, ?_, ?_, ?_, ?_, ?_, ?_, ?_, ?_, ?_, ?_, ?_, ?_, ?_, ?_, ?_, ?_⟩ <;> exact key _ _ _ (by decide +kernel)
theorem kin_lt {i : Int32} {N : Nat} (h : kin i N = true) : i.toNatClampNeg < N := by
  unfold kin at h
  simp only [Bool.and_eq_true, decide_eq_true_eq] at h
  exact h.2
theorem ksa_past {i : Int32} (h : kin i 8 = true) : ksh (43 + 9 * i.toNatClampNeg) = .inl 5 := by
  have := kin_lt h
  generalize i.toNatClampNeg = j at this
  revert j
  decide +kernel
theorem ksa_slot {i : Int32} (h : kin i 2 = true) : ksh (115 + 9 * i.toNatClampNeg) = .inl 5 := by
  have := kin_lt h
  generalize i.toNatClampNeg = j at this
  revert j
  decide +kernel
def klet {α β : Type} (x : α) (f : α → β) : β := f x
theorem ks_0 : ksh 0 = .inl 6 := by decide +kernel
theorem ks_1 : ksh 1 = .inr (43, 8) := by decide +kernel
theorem ks_2 : ksh 2 = .inr (115, 2) := by decide +kernel
theorem ks_3 : ksh 3 = .inr (1, 2) := by decide +kernel
theorem ks_4 : ksh 4 = .inr (0, 6) := by decide +kernel
theorem ks_5 : ksh 5 = .inl 4 := by decide +kernel
theorem ks_6 : ksh 6 = .inr (0, 600) := by decide +kernel
theorem ks_7 : ksh 7 = .inl 3 := by decide +kernel
theorem ks_8 : ksh 8 = .inr (0, 225) := by decide +kernel
theorem ks_9 : ksh 9 = .inr (0, 225) := by decide +kernel
theorem ks_10 : ksh 10 = .inr (0, 225) := by decide +kernel
theorem ks_11 : ksh 11 = .inr (0, 10) := by decide +kernel
theorem ks_12 : ksh 12 = .inr (1, 225) := by decide +kernel
theorem ks_13 : ksh 13 = .inr (0, 225) := by decide +kernel
theorem ks_14 : ksh 14 = .inl 3 := by decide +kernel
theorem ks_15 : ksh 15 = .inr (0, 225) := by decide +kernel
theorem ks_16 : ksh 16 = .inr (0, 225) := by decide +kernel
theorem ks_17 : ksh 17 = .inr (0, 225) := by decide +kernel
theorem ks_18 : ksh 18 = .inr (0, 10) := by decide +kernel
theorem ks_19 : ksh 19 = .inr (1, 225) := by decide +kernel
theorem ks_20 : ksh 20 = .inr (0, 225) := by decide +kernel
theorem ks_21 : ksh 21 = .inl 0 := by decide +kernel
theorem ks_22 : ksh 22 = .inr (0, 30) := by decide +kernel
theorem ks_23 : ksh 23 = .inl 2 := by decide +kernel
theorem ks_24 : ksh 24 = .inr (0, 225) := by decide +kernel
theorem ks_25 : ksh 25 = .inl 5 := by decide +kernel
theorem ks_26 : ksh 26 = .inl 1 := by decide +kernel
theorem ks_27 : ksh 27 = .inr (0, 225) := by decide +kernel
theorem ks_28 : ksh 28 = .inr (0, 30) := by decide +kernel
theorem ks_29 : ksh 29 = .inr (0, 30) := by decide +kernel
theorem ks_30 : ksh 30 = .inr (0, 30) := by decide +kernel
theorem ks_31 : ksh 31 = .inr (0, 30) := by decide +kernel
theorem ks_32 : ksh 32 = .inr (0, 30) := by decide +kernel
theorem ks_33 : ksh 33 = .inr (0, 225) := by decide +kernel
theorem ks_34 : ksh 34 = .inl 5 := by decide +kernel
theorem ks_35 : ksh 35 = .inl 1 := by decide +kernel
theorem ks_36 : ksh 36 = .inr (0, 225) := by decide +kernel
theorem ks_37 : ksh 37 = .inr (0, 30) := by decide +kernel
theorem ks_38 : ksh 38 = .inr (0, 30) := by decide +kernel
theorem ks_39 : ksh 39 = .inr (0, 30) := by decide +kernel
theorem ks_40 : ksh 40 = .inr (0, 30) := by decide +kernel
theorem ks_41 : ksh 41 = .inr (0, 30) := by decide +kernel
theorem ks_42 : ksh 42 = .inr (0, 225) := by decide +kernel
theorem ks_43 : ksh 43 = .inl 5 := by decide +kernel
theorem ks_44 : ksh 44 = .inl 1 := by decide +kernel
theorem ks_45 : ksh 45 = .inr (0, 225) := by decide +kernel
theorem ks_46 : ksh 46 = .inr (0, 30) := by decide +kernel
theorem ks_47 : ksh 47 = .inr (0, 30) := by decide +kernel
theorem ks_48 : ksh 48 = .inr (0, 30) := by decide +kernel
theorem ks_49 : ksh 49 = .inr (0, 30) := by decide +kernel
theorem ks_50 : ksh 50 = .inr (0, 30) := by decide +kernel
theorem ks_51 : ksh 51 = .inr (0, 225) := by decide +kernel
theorem ks_52 : ksh 52 = .inl 5 := by decide +kernel
theorem ks_53 : ksh 53 = .inl 1 := by decide +kernel
theorem ks_54 : ksh 54 = .inr (0, 225) := by decide +kernel
theorem ks_55 : ksh 55 = .inr (0, 30) := by decide +kernel
theorem ks_56 : ksh 56 = .inr (0, 30) := by decide +kernel
theorem ks_57 : ksh 57 = .inr (0, 30) := by decide +kernel
theorem ks_58 : ksh 58 = .inr (0, 30) := by decide +kernel
theorem ks_59 : ksh 59 = .inr (0, 30) := by decide +kernel
theorem ks_60 : ksh 60 = .inr (0, 225) := by decide +kernel
theorem ks_61 : ksh 61 = .inl 5 := by decide +kernel
theorem ks_62 : ksh 62 = .inl 1 := by decide +kernel
theorem ks_63 : ksh 63 = .inr (0, 225) := by decide +kernel
theorem ks_64 : ksh 64 = .inr (0, 30) := by decide +kernel
theorem ks_65 : ksh 65 = .inr (0, 30) := by decide +kernel
theorem ks_66 : ksh 66 = .inr (0, 30) := by decide +kernel
theorem ks_67 : ksh 67 = .inr (0, 30) := by decide +kernel
theorem ks_68 : ksh 68 = .inr (0, 30) := by decide +kernel
theorem ks_69 : ksh 69 = .inr (0, 225) := by decide +kernel
theorem ks_70 : ksh 70 = .inl 5 := by decide +kernel
theorem ks_71 : ksh 71 = .inl 1 := by decide +kernel
theorem ks_72 : ksh 72 = .inr (0, 225) := by decide +kernel
theorem ks_73 : ksh 73 = .inr (0, 30) := by decide +kernel
theorem ks_74 : ksh 74 = .inr (0, 30) := by decide +kernel
theorem ks_75 : ksh 75 = .inr (0, 30) := by decide +kernel
theorem ks_76 : ksh 76 = .inr (0, 30) := by decide +kernel
theorem ks_77 : ksh 77 = .inr (0, 30) := by decide +kernel
theorem ks_78 : ksh 78 = .inr (0, 225) := by decide +kernel
theorem ks_79 : ksh 79 = .inl 5 := by decide +kernel
theorem ks_80 : ksh 80 = .inl 1 := by decide +kernel
theorem ks_81 : ksh 81 = .inr (0, 225) := by decide +kernel
theorem ks_82 : ksh 82 = .inr (0, 30) := by decide +kernel
theorem ks_83 : ksh 83 = .inr (0, 30) := by decide +kernel
theorem ks_84 : ksh 84 = .inr (0, 30) := by decide +kernel
theorem ks_85 : ksh 85 = .inr (0, 30) := by decide +kernel
theorem ks_86 : ksh 86 = .inr (0, 30) := by decide +kernel
theorem ks_87 : ksh 87 = .inr (0, 225) := by decide +kernel
theorem ks_88 : ksh 88 = .inl 5 := by decide +kernel
theorem ks_89 : ksh 89 = .inl 1 := by decide +kernel
theorem ks_90 : ksh 90 = .inr (0, 225) := by decide +kernel
theorem ks_91 : ksh 91 = .inr (0, 30) := by decide +kernel
theorem ks_92 : ksh 92 = .inr (0, 30) := by decide +kernel
theorem ks_93 : ksh 93 = .inr (0, 30) := by decide +kernel
theorem ks_94 : ksh 94 = .inr (0, 30) := by decide +kernel
theorem ks_95 : ksh 95 = .inr (0, 30) := by decide +kernel
theorem ks_96 : ksh 96 = .inr (0, 225) := by decide +kernel
theorem ks_97 : ksh 97 = .inl 5 := by decide +kernel
theorem ks_98 : ksh 98 = .inl 1 := by decide +kernel
theorem ks_99 : ksh 99 = .inr (0, 225) := by decide +kernel
theorem ks_100 : ksh 100 = .inr (0, 30) := by decide +kernel
theorem ks_101 : ksh 101 = .inr (0, 30) := by decide +kernel
theorem ks_102 : ksh 102 = .inr (0, 30) := by decide +kernel
theorem ks_103 : ksh 103 = .inr (0, 30) := by decide +kernel
theorem ks_104 : ksh 104 = .inr (0, 30) := by decide +kernel
theorem ks_105 : ksh 105 = .inr (0, 225) := by decide +kernel
theorem ks_106 : ksh 106 = .inl 5 := by decide +kernel
theorem ks_107 : ksh 107 = .inl 1 := by decide +kernel
theorem ks_108 : ksh 108 = .inr (0, 225) := by decide +kernel
theorem ks_109 : ksh 109 = .inr (0, 30) := by decide +kernel
theorem ks_110 : ksh 110 = .inr (0, 30) := by decide +kernel
theorem ks_111 : ksh 111 = .inr (0, 30) := by decide +kernel
theorem ks_112 : ksh 112 = .inr (0, 30) := by decide +kernel
theorem ks_113 : ksh 113 = .inr (0, 30) := by decide +kernel
theorem ks_114 : ksh 114 = .inr (0, 225) := by decide +kernel
theorem ks_115 : ksh 115 = .inl 5 := by decide +kernel
theorem ks_116 : ksh 116 = .inl 1 := by decide +kernel
theorem ks_117 : ksh 117 = .inr (0, 225) := by decide +kernel
theorem ks_118 : ksh 118 = .inr (0, 30) := by decide +kernel
theorem ks_119 : ksh 119 = .inr (0, 30) := by decide +kernel
theorem ks_120 : ksh 120 = .inr (0, 30) := by decide +kernel
theorem ks_121 : ksh 121 = .inr (0, 30) := by decide +kernel
theorem ks_122 : ksh 122 = .inr (0, 30) := by decide +kernel
theorem ks_123 : ksh 123 = .inr (0, 225) := by decide +kernel
theorem ks_124 : ksh 124 = .inl 5 := by decide +kernel
theorem ks_125 : ksh 125 = .inl 1 := by decide +kernel
theorem ks_126 : ksh 126 = .inr (0, 225) := by decide +kernel
theorem ks_127 : ksh 127 = .inr (0, 30) := by decide +kernel
theorem ks_128 : ksh 128 = .inr (0, 30) := by decide +kernel
theorem ks_129 : ksh 129 = .inr (0, 30) := by decide +kernel
theorem ks_130 : ksh 130 = .inr (0, 30) := by decide +kernel
theorem ks_131 : ksh 131 = .inr (0, 30) := by decide +kernel
theorem ks_132 : ksh 132 = .inr (0, 225) := by decide +kernel
theorem ks_133 : ksh 133 = .inl 7 := by decide +kernel
theorem ks_134 : ksh 134 = .inr (0, 220) := by decide +kernel
theorem ks_135 : ksh 135 = .inr (0, 220) := by decide +kernel
theorem ks_136 : ksh 136 = .inr (0, 1760) := by decide +kernel
theorem ks_137 : ksh 137 = .inr (0, 440) := by decide +kernel
theorem ks_138 : ksh 138 = .inr (0, 6) := by decide +kernel
theorem ks_139 : ksh 139 = .inr (1, 2) := by decide +kernel
theorem ks_140 : ksh 140 = .inr (0, 14) := by decide +kernel
theorem ks_141 : ksh 141 = .inr (0, 14) := by decide +kernel
theorem ks_142 : ksh 142 = .inr (0, 169) := by decide +kernel
theorem ks_143 : ksh 143 = .inr (0, 169) := by decide +kernel
theorem ks_144 : ksh 144 = .inr (0, 169) := by decide +kernel
theorem ks_145 : ksh 145 = .inr (0, 169) := by decide +kernel
theorem ks_146 : ksh 146 = .inr (0, 30) := by decide +kernel
theorem ks_147 : ksh 147 = .inr (0, 30) := by decide +kernel
theorem ks_148 : ksh 148 = .inr (0, 220) := by decide +kernel
theorem ks_149 : ksh 149 = .inr (0, 600) := by decide +kernel
theorem ks_150 : ksh 150 = .inr (0, 169) := by decide +kernel
theorem ks_151 : ksh 151 = .inr (0, 169) := by decide +kernel
theorem ks_152 : ksh 152 = .inr (0, 169) := by decide +kernel
theorem ks_153 : ksh 153 = .inr (0, 200) := by decide +kernel
theorem ks_154 : ksh 154 = .inr (2, 1) := by decide +kernel
theorem kv_let {sh : KSh} {l : Launch} {M : KM} {k n pc : Nat} {lo : List (Nat × Value)} {st : List Value} {s : Sto} {o : KO} {β : Type} {F : Sto → β} {r : β} (h : klet s F = r) (kk : ∀ s1, F s1 = r → VV sh l M k n pc lo st s1 o) : VV sh l M k n pc lo st s o := kk s h
