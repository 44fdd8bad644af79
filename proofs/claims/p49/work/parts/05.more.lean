def kFU : Nat := 4000000
def kb (b : Bool) : Int32 := if b = true then 1 else 0
theorem kb_n (b : Bool) : narrow .boolean (.int (kb b)) = .int (kb b) := by cases b <;> rfl
theorem kb_f (b : Bool) : fits .boolean (.int (kb b)) = true := by cases b <;> rfl
theorem kb_v (b : Bool) : vp_nar .boolean (kb b) = kb b := by cases b <;> rfl
theorem kb_0 (b : Bool) : kb b = 0 ↔ ¬ b = true := by cases b <;> decide
def kbo (v : Int32) : Bool := decide (v = 0) || decide (v = 1)
theorem kbo_b {v : Int32} (h : kbo v = true) : v = kb (decide (v = 1)) := by
  unfold kbo at h
  rw [Bool.or_eq_true] at h
  rcases h with h | h
  · have h := of_decide_eq_true h
    subst h
    rfl
  · have h := of_decide_eq_true h
    subst h
    rfl
theorem kbo_l {v : Int32} {s : Sto} (h : kbo v = true) : ((0, .int (kb (decide (v = 1))), s) : KO) = (0, .int v, s) := by rw [← kbo_b h]
theorem kbo_n {v : Int32} (h : kbo v = true) : narrow .boolean (.int v) = .int v := by rw [kbo_b h]; exact kb_n _
theorem kbo_f {v : Int32} (h : kbo v = true) : fits .boolean (.int v) = true := by rw [kbo_b h]; exact kb_f _
theorem kbo_v {v : Int32} (h : kbo v = true) : vp_nar .boolean v = v := by rw [kbo_b h]; exact kb_v _
theorem knz {y : Int32} {α : Type} {A : Option α} {r : α} (h : (if y = 0 then none else A) = some r) : ¬ y = 0 ∧ A = some r := by
  by_cases c : y = 0
  · rw [if_pos c] at h; cases h
  · rw [if_neg c] at h; exact ⟨c, h⟩
section KROWS3
variable {sh : KSh} {l : Launch} {M : KM} {k n pc : Nat} {lo : List (Nat × Value)} {st : List Value} {σ : Sto} {o : KO}
theorem kv_ifb_eq {β : Type} {A B r : β} {b : Bool} {off : Int} {tgt : Nat} (hd : decode M.2.1 pc = .ok (.ifCond .eq off, 3)) (ht : (pc : Int) + off = (tgt : Int)) (h : (if b = true then A else B) = r) (kt : B = r → VV sh l M k n tgt lo st σ o) (kf : A = r → VV sh l M k n (pc + 3) lo st σ o) : VV sh l M k n pc lo (.int (kb b) :: st) σ o := by
  cases b
  · exact kv_if_eq (A := B) (B := A) (r := r) hd ht (by rw [if_pos (by decide)]; exact h) kt kf
  · exact kv_if_eq (A := B) (B := A) (r := r) hd ht (by rw [if_neg (by decide)]; exact h) kt kf
theorem kv_ifb_ne {β : Type} {A B r : β} {b : Bool} {off : Int} {tgt : Nat} (hd : decode M.2.1 pc = .ok (.ifCond .ne off, 3)) (ht : (pc : Int) + off = (tgt : Int)) (h : (if b = true then A else B) = r) (kt : A = r → VV sh l M k n tgt lo st σ o) (kf : B = r → VV sh l M k n (pc + 3) lo st σ o) : VV sh l M k n pc lo (.int (kb b) :: st) σ o := by
  cases b
  · exact kv_if_ne (A := B) (B := A) (r := r) hd ht (by rw [if_pos (by decide)]; exact h) kt kf
  · exact kv_if_ne (A := B) (B := A) (r := r) hd ht (by rw [if_neg (by decide)]; exact h) kt kf
theorem kv_widen (k' n' : Nat) (h1 : k ≤ k') (h2 : n ≤ n') (kk : VV sh l M k' n' pc lo st σ o) : VV sh l M k n pc lo st σ o :=
  fun E A p e s m args below meth c C H locs ls hW hS hl => W.widen h1 h2 (kk E A p e s m args below meth c C H locs ls hW hS hl)
theorem kv_cV {α β : Type} {f : Option α} {K : α → Option β} {res : β} {M' : KM} {y : MethodName} {q ci ix : Nat} (As : List Value) (conv : α → KO) (stk2 : α → List Value) (σ2 : α → Sto) (pc2 k2 n2 : Nat) {stk : List Value} {C0 : String} {T0 : u_T} {N0 : Nat} (h : f.bind K = some res) (hc : ∀ r, f = some r → CT sh l M' y (.ref q :: As) σ (conv r)) (hd : decode M.2.1 pc = .ok (.invokevirtual ix, 3)) (hst : stk = As.reverse ++ .ref q :: st)
    (hs : sh q = .inl ci) (hcl : vwCl[ci]? = some (C0, T0, N0)) (hy : KMV y M' C0 As.length) (hlk : Cond.methodLink M.1 ix y ∈ kg)
    (hR : M'.2.2.2.2.1.frames + 1 ≤ M.2.2.2.2.1.frames ∧ 8 + (M'.2.2.1 + 11) + M'.2.2.2.2.1.locals ≤ M.2.2.2.2.1.locals) (hcat : (st.map fun v => v.category).sum ≤ 8) (hf : k + M'.2.2.2.2.2.1 ≤ M.2.2.2.2.1.cells ∧ n + M'.2.2.2.2.2.2 ≤ M.2.2.2.2.1.slots)
    (h2 : ∀ r, (krv M'.2.2.2.1 (conv r).2.1).toList ++ st = stk2 r) (h3 : ∀ r, (conv r).2.2 = σ2 r) (h4 : pc + 3 = pc2 ∧ k + M'.2.2.2.2.2.1 = k2 ∧ n + M'.2.2.2.2.2.2 = n2)
    (hx : ∀ r, K r = some res → (conv r).1 ≠ 0 → o.1 = (conv r).1 ∧ o.2.2 = (conv r).2.2 ∧ k + M'.2.2.2.2.2.1 ≤ M.2.2.2.2.2.1 ∧ n + M'.2.2.2.2.2.2 ≤ M.2.2.2.2.2.2)
    (kk : ∀ r, f = some r → (conv r).1 = 0 → K r = some res → VV sh l M k2 n2 pc2 lo (stk2 r) (σ2 r) o) : VV sh l M k n pc lo stk σ o := by
  cases hf0 : f with
  | none => rw [hf0] at h; cases h
  | some r =>
    rw [hf0] at h
    obtain ⟨rfl, rfl, rfl⟩ := h4
    refine kv_callV (o1 := conv r) As (hc r hf0) hd hst hs hcl hy hlk hR hcat hf (fun h0 => hx r h h0) (fun h0 => ?_)
    rw [h2 r, h3 r]
    exact kk r hf0 h0 h
theorem kv_cS {α β : Type} {f : Option α} {K : α → Option β} {res : β} {M' : KM} {y : MethodName} {ix : Nat} (As : List Value) (conv : α → KO) (stk2 : α → List Value) (σ2 : α → Sto) (pc2 k2 n2 : Nat) {stk : List Value} (h : f.bind K = some res) (hc : ∀ r, f = some r → CT sh l M' y As σ (conv r)) (hd : decode M.2.1 pc = .ok (.invokestatic ix, 3)) (hst : stk = As.reverse ++ st)
    (hy : KMS y M' As.length) (hlk : Cond.methodLink M.1 ix y ∈ kg)
    (hR : M'.2.2.2.2.1.frames + 1 ≤ M.2.2.2.2.1.frames ∧ 8 + (M'.2.2.1 + 11) + M'.2.2.2.2.1.locals ≤ M.2.2.2.2.1.locals) (hcat : (st.map fun v => v.category).sum ≤ 8) (hf : k + M'.2.2.2.2.2.1 ≤ M.2.2.2.2.1.cells ∧ n + M'.2.2.2.2.2.2 ≤ M.2.2.2.2.1.slots)
    (h2 : ∀ r, (krv M'.2.2.2.1 (conv r).2.1).toList ++ st = stk2 r) (h3 : ∀ r, (conv r).2.2 = σ2 r) (h4 : pc + 3 = pc2 ∧ k + M'.2.2.2.2.2.1 = k2 ∧ n + M'.2.2.2.2.2.2 = n2)
    (hx : ∀ r, K r = some res → (conv r).1 ≠ 0 → o.1 = (conv r).1 ∧ o.2.2 = (conv r).2.2 ∧ k + M'.2.2.2.2.2.1 ≤ M.2.2.2.2.2.1 ∧ n + M'.2.2.2.2.2.2 ≤ M.2.2.2.2.2.2)
    (kk : ∀ r, f = some r → (conv r).1 = 0 → K r = some res → VV sh l M k2 n2 pc2 lo (stk2 r) (σ2 r) o) : VV sh l M k n pc lo stk σ o := by
  cases hf0 : f with
  | none => rw [hf0] at h; cases h
  | some r =>
    rw [hf0] at h
    obtain ⟨rfl, rfl, rfl⟩ := h4
    refine kv_callS (o1 := conv r) As (hc r hf0) hd hst hy hlk hR hcat hf (fun h0 => hx r h h0) (fun h0 => ?_)
    rw [h2 r, h3 r]
    exact kk r hf0 h0 h
/-- a callee that always returns v, and writes nothing -/
theorem kv_tV {v : Value} {M' : KM} {y : MethodName} {q ci ix : Nat} (As : List Value) (stk2 : List Value) (pc2 k2 n2 : Nat) {stk : List Value} {C0 : String} {T0 : u_T} {N0 : Nat} (hc : CT sh l M' y (.ref q :: As) σ (0, v, σ)) (hd : decode M.2.1 pc = .ok (.invokevirtual ix, 3)) (hst : stk = As.reverse ++ .ref q :: st)
    (hs : sh q = .inl ci) (hcl : vwCl[ci]? = some (C0, T0, N0)) (hy : KMV y M' C0 As.length) (hlk : Cond.methodLink M.1 ix y ∈ kg)
    (hR : M'.2.2.2.2.1.frames + 1 ≤ M.2.2.2.2.1.frames ∧ 8 + (M'.2.2.1 + 11) + M'.2.2.2.2.1.locals ≤ M.2.2.2.2.1.locals) (hcat : (st.map fun v => v.category).sum ≤ 8) (hf : k + M'.2.2.2.2.2.1 ≤ M.2.2.2.2.1.cells ∧ n + M'.2.2.2.2.2.2 ≤ M.2.2.2.2.1.slots)
    (h2 : (krv M'.2.2.2.1 v).toList ++ st = stk2) (h4 : pc + 3 = pc2 ∧ k + M'.2.2.2.2.2.1 = k2 ∧ n + M'.2.2.2.2.2.2 = n2)
    (kk : VV sh l M k2 n2 pc2 lo stk2 σ o) : VV sh l M k n pc lo stk σ o := by
  obtain ⟨rfl, rfl, rfl⟩ := h4
  subst h2
  exact kv_callV (o1 := (0, v, σ)) As hc hd hst hs hcl hy hlk hR hcat hf (fun h0 => absurd rfl h0) (fun _ => kk)
theorem kv_tS {v : Value} {M' : KM} {y : MethodName} {ix : Nat} (As : List Value) (stk2 : List Value) (pc2 k2 n2 : Nat) {stk : List Value} (hc : CT sh l M' y As σ (0, v, σ)) (hd : decode M.2.1 pc = .ok (.invokestatic ix, 3)) (hst : stk = As.reverse ++ st)
    (hy : KMS y M' As.length) (hlk : Cond.methodLink M.1 ix y ∈ kg)
    (hR : M'.2.2.2.2.1.frames + 1 ≤ M.2.2.2.2.1.frames ∧ 8 + (M'.2.2.1 + 11) + M'.2.2.2.2.1.locals ≤ M.2.2.2.2.1.locals) (hcat : (st.map fun v => v.category).sum ≤ 8) (hf : k + M'.2.2.2.2.2.1 ≤ M.2.2.2.2.1.cells ∧ n + M'.2.2.2.2.2.2 ≤ M.2.2.2.2.1.slots)
    (h2 : (krv M'.2.2.2.1 v).toList ++ st = stk2) (h4 : pc + 3 = pc2 ∧ k + M'.2.2.2.2.2.1 = k2 ∧ n + M'.2.2.2.2.2.2 = n2)
    (kk : VV sh l M k2 n2 pc2 lo stk2 σ o) : VV sh l M k n pc lo stk σ o := by
  obtain ⟨rfl, rfl, rfl⟩ := h4
  subst h2
  exact kv_callS (o1 := (0, v, σ)) As hc hd hst hy hlk hR hcat hf (fun h0 => absurd rfl h0) (fun _ => kk)
end KROWS3
/-- where an object stands, the things stand to which its fields refer -/
def KWf (sh : KSh) : Prop :=
  (∀ q, sh q = .inl 0 → sh (q + 1) = .inr (0, 30)) ∧
  (∀ q, sh q = .inl 1 → sh (q + 1) = .inr (0, 225)) ∧
  (∀ q, sh q = .inl 2 → sh (q + 1) = .inr (0, 225)) ∧
  (∀ q, sh q = .inl 3 → sh (q + 1) = .inr (0, 225)) ∧
  (∀ q, sh q = .inl 3 → sh (q + 2) = .inr (0, 225)) ∧
  (∀ q, sh q = .inl 3 → sh (q + 3) = .inr (0, 225)) ∧
  (∀ q, sh q = .inl 3 → sh (q + 4) = .inr (0, 10)) ∧
  (∀ q, sh q = .inl 3 → sh (q + 5) = .inr (1, 225)) ∧
  (∀ q, sh q = .inl 3 → sh (q + 6) = .inr (0, 225)) ∧
  (∀ q, sh q = .inl 4 → sh (q + 1) = .inr (0, 600)) ∧
  (∀ q, sh q = .inl 5 → sh (q + 1) = .inl 1) ∧
  (∀ q, sh q = .inl 5 → sh (q + 3) = .inr (0, 30)) ∧
  (∀ q, sh q = .inl 5 → sh (q + 4) = .inr (0, 30)) ∧
  (∀ q, sh q = .inl 5 → sh (q + 5) = .inr (0, 30)) ∧
  (∀ q, sh q = .inl 5 → sh (q + 6) = .inr (0, 30)) ∧
  (∀ q, sh q = .inl 5 → sh (q + 7) = .inr (0, 30)) ∧
  (∀ q, sh q = .inl 5 → sh (q + 8) = .inr (0, 225))
theorem kso_0_1 {sh : KSh} (hw : KWf sh) {q : Nat} (h : sh q = .inl 0) : sh (q + 1) = .inr (0, 30) := hw.1 q h
theorem kso_1_1 {sh : KSh} (hw : KWf sh) {q : Nat} (h : sh q = .inl 1) : sh (q + 1) = .inr (0, 225) := hw.2.1 q h
theorem kso_2_1 {sh : KSh} (hw : KWf sh) {q : Nat} (h : sh q = .inl 2) : sh (q + 1) = .inr (0, 225) := hw.2.2.1 q h
theorem kso_3_1 {sh : KSh} (hw : KWf sh) {q : Nat} (h : sh q = .inl 3) : sh (q + 1) = .inr (0, 225) := hw.2.2.2.1 q h
theorem kso_3_2 {sh : KSh} (hw : KWf sh) {q : Nat} (h : sh q = .inl 3) : sh (q + 2) = .inr (0, 225) := hw.2.2.2.2.1 q h
theorem kso_3_3 {sh : KSh} (hw : KWf sh) {q : Nat} (h : sh q = .inl 3) : sh (q + 3) = .inr (0, 225) := hw.2.2.2.2.2.1 q h
theorem kso_3_4 {sh : KSh} (hw : KWf sh) {q : Nat} (h : sh q = .inl 3) : sh (q + 4) = .inr (0, 10) := hw.2.2.2.2.2.2.1 q h
theorem kso_3_5 {sh : KSh} (hw : KWf sh) {q : Nat} (h : sh q = .inl 3) : sh (q + 5) = .inr (1, 225) := hw.2.2.2.2.2.2.2.1 q h
theorem kso_3_6 {sh : KSh} (hw : KWf sh) {q : Nat} (h : sh q = .inl 3) : sh (q + 6) = .inr (0, 225) := hw.2.2.2.2.2.2.2.2.1 q h
theorem kso_4_1 {sh : KSh} (hw : KWf sh) {q : Nat} (h : sh q = .inl 4) : sh (q + 1) = .inr (0, 600) := hw.2.2.2.2.2.2.2.2.2.1 q h
theorem kso_5_1 {sh : KSh} (hw : KWf sh) {q : Nat} (h : sh q = .inl 5) : sh (q + 1) = .inl 1 := hw.2.2.2.2.2.2.2.2.2.2.1 q h
theorem kso_5_3 {sh : KSh} (hw : KWf sh) {q : Nat} (h : sh q = .inl 5) : sh (q + 3) = .inr (0, 30) := hw.2.2.2.2.2.2.2.2.2.2.2.1 q h
theorem kso_5_4 {sh : KSh} (hw : KWf sh) {q : Nat} (h : sh q = .inl 5) : sh (q + 4) = .inr (0, 30) := hw.2.2.2.2.2.2.2.2.2.2.2.2.1 q h
theorem kso_5_5 {sh : KSh} (hw : KWf sh) {q : Nat} (h : sh q = .inl 5) : sh (q + 5) = .inr (0, 30) := hw.2.2.2.2.2.2.2.2.2.2.2.2.2.1 q h
theorem kso_5_6 {sh : KSh} (hw : KWf sh) {q : Nat} (h : sh q = .inl 5) : sh (q + 6) = .inr (0, 30) := hw.2.2.2.2.2.2.2.2.2.2.2.2.2.2.1 q h
theorem kso_5_7 {sh : KSh} (hw : KWf sh) {q : Nat} (h : sh q = .inl 5) : sh (q + 7) = .inr (0, 30) := hw.2.2.2.2.2.2.2.2.2.2.2.2.2.2.2.1 q h
theorem kso_5_8 {sh : KSh} (hw : KWf sh) {q : Nat} (h : sh q = .inl 5) : sh (q + 8) = .inr (0, 225) := hw.2.2.2.2.2.2.2.2.2.2.2.2.2.2.2.2 q h
/-- the class's places stand as ksh says; nothing else is an object -/
def KAG (sh : KSh) : Prop := (∀ q, q < 134 → sh q = ksh q) ∧ ∀ q, 134 ≤ q → ∀ ci, sh q ≠ .inl ci
theorem kwf_of {sh : KSh} (hk : KAG sh) : KWf sh := by
  have key : ∀ (ci d : Nat) (x : Nat ⊕ (Nat × Nat)), (∀ q, q < 134 → ksh q = .inl ci → q + d < 134 ∧ ksh (q + d) = x) → ∀ q, sh q = .inl ci → sh (q + d) = x := by
    intro ci d x h q hq
    rcases Nat.lt_or_ge q 134 with h1 | h1
    · rw [hk.1 q h1] at hq
      obtain ⟨h2, h3⟩ := h q h1 hq
      rw [hk.1 _ h2]; exact h3
    · exact absurd hq (hk.2 q h1 ci)
  refine ⟨?_, ?_, ?_, ?_, ?_, ?_, ?_, ?_, ?_, ?_, ?_, ?_, ?_, ?_, ?_, ?_, ?_⟩ <;> exact key _ _ _ (by decide +kernel)
theorem kin_lt {i : Int32} {N : Nat} (h : kin i N = true) : i.toNatClampNeg < N := by
  unfold kin at h
  simp only [Bool.and_eq_true, decide_eq_true_eq] at h
  exact h.2
theorem ksa_past0 {i : Int32} (h : kin i 8 = true) : 43 + 9 * i.toNatClampNeg < 134 ∧ ksh (43 + 9 * i.toNatClampNeg) = .inl 5 := by
  have := kin_lt h
  generalize i.toNatClampNeg = j at this
  revert j
  decide +kernel
theorem ksa_past {sh : KSh} (hk : KAG sh) {i : Int32} (h : kin i 8 = true) : sh (43 + 9 * i.toNatClampNeg) = .inl 5 := (hk.1 _ (ksa_past0 h).1).trans (ksa_past0 h).2
theorem ksa_slot0 {i : Int32} (h : kin i 2 = true) : 115 + 9 * i.toNatClampNeg < 134 ∧ ksh (115 + 9 * i.toNatClampNeg) = .inl 5 := by
  have := kin_lt h
  generalize i.toNatClampNeg = j at this
  revert j
  decide +kernel
theorem ksa_slot {sh : KSh} (hk : KAG sh) {i : Int32} (h : kin i 2 = true) : sh (115 + 9 * i.toNatClampNeg) = .inl 5 := (hk.1 _ (ksa_slot0 h).1).trans (ksa_slot0 h).2
def klet {α β : Type} (x : α) (f : α → β) : β := f x
theorem ks_0 {sh : KSh} (hk : KAG sh) : sh 0 = .inl 6 := (hk.1 0 (by decide)).trans (by decide +kernel)
theorem ks_1 {sh : KSh} (hk : KAG sh) : sh 1 = .inr (43, 8) := (hk.1 1 (by decide)).trans (by decide +kernel)
theorem ks_2 {sh : KSh} (hk : KAG sh) : sh 2 = .inr (115, 2) := (hk.1 2 (by decide)).trans (by decide +kernel)
theorem ks_3 {sh : KSh} (hk : KAG sh) : sh 3 = .inr (1, 2) := (hk.1 3 (by decide)).trans (by decide +kernel)
theorem ks_4 {sh : KSh} (hk : KAG sh) : sh 4 = .inr (0, 6) := (hk.1 4 (by decide)).trans (by decide +kernel)
theorem ks_5 {sh : KSh} (hk : KAG sh) : sh 5 = .inl 4 := (hk.1 5 (by decide)).trans (by decide +kernel)
theorem ks_6 {sh : KSh} (hk : KAG sh) : sh 6 = .inr (0, 600) := (hk.1 6 (by decide)).trans (by decide +kernel)
theorem ks_7 {sh : KSh} (hk : KAG sh) : sh 7 = .inl 3 := (hk.1 7 (by decide)).trans (by decide +kernel)
theorem ks_8 {sh : KSh} (hk : KAG sh) : sh 8 = .inr (0, 225) := (hk.1 8 (by decide)).trans (by decide +kernel)
theorem ks_9 {sh : KSh} (hk : KAG sh) : sh 9 = .inr (0, 225) := (hk.1 9 (by decide)).trans (by decide +kernel)
theorem ks_10 {sh : KSh} (hk : KAG sh) : sh 10 = .inr (0, 225) := (hk.1 10 (by decide)).trans (by decide +kernel)
theorem ks_11 {sh : KSh} (hk : KAG sh) : sh 11 = .inr (0, 10) := (hk.1 11 (by decide)).trans (by decide +kernel)
theorem ks_12 {sh : KSh} (hk : KAG sh) : sh 12 = .inr (1, 225) := (hk.1 12 (by decide)).trans (by decide +kernel)
theorem ks_13 {sh : KSh} (hk : KAG sh) : sh 13 = .inr (0, 225) := (hk.1 13 (by decide)).trans (by decide +kernel)
theorem ks_14 {sh : KSh} (hk : KAG sh) : sh 14 = .inl 3 := (hk.1 14 (by decide)).trans (by decide +kernel)
theorem ks_15 {sh : KSh} (hk : KAG sh) : sh 15 = .inr (0, 225) := (hk.1 15 (by decide)).trans (by decide +kernel)
theorem ks_16 {sh : KSh} (hk : KAG sh) : sh 16 = .inr (0, 225) := (hk.1 16 (by decide)).trans (by decide +kernel)
theorem ks_17 {sh : KSh} (hk : KAG sh) : sh 17 = .inr (0, 225) := (hk.1 17 (by decide)).trans (by decide +kernel)
theorem ks_18 {sh : KSh} (hk : KAG sh) : sh 18 = .inr (0, 10) := (hk.1 18 (by decide)).trans (by decide +kernel)
theorem ks_19 {sh : KSh} (hk : KAG sh) : sh 19 = .inr (1, 225) := (hk.1 19 (by decide)).trans (by decide +kernel)
theorem ks_20 {sh : KSh} (hk : KAG sh) : sh 20 = .inr (0, 225) := (hk.1 20 (by decide)).trans (by decide +kernel)
theorem ks_21 {sh : KSh} (hk : KAG sh) : sh 21 = .inl 0 := (hk.1 21 (by decide)).trans (by decide +kernel)
theorem ks_22 {sh : KSh} (hk : KAG sh) : sh 22 = .inr (0, 30) := (hk.1 22 (by decide)).trans (by decide +kernel)
theorem ks_23 {sh : KSh} (hk : KAG sh) : sh 23 = .inl 2 := (hk.1 23 (by decide)).trans (by decide +kernel)
theorem ks_24 {sh : KSh} (hk : KAG sh) : sh 24 = .inr (0, 225) := (hk.1 24 (by decide)).trans (by decide +kernel)
theorem ks_25 {sh : KSh} (hk : KAG sh) : sh 25 = .inl 5 := (hk.1 25 (by decide)).trans (by decide +kernel)
theorem ks_26 {sh : KSh} (hk : KAG sh) : sh 26 = .inl 1 := (hk.1 26 (by decide)).trans (by decide +kernel)
theorem ks_27 {sh : KSh} (hk : KAG sh) : sh 27 = .inr (0, 225) := (hk.1 27 (by decide)).trans (by decide +kernel)
theorem ks_28 {sh : KSh} (hk : KAG sh) : sh 28 = .inr (0, 30) := (hk.1 28 (by decide)).trans (by decide +kernel)
theorem ks_29 {sh : KSh} (hk : KAG sh) : sh 29 = .inr (0, 30) := (hk.1 29 (by decide)).trans (by decide +kernel)
theorem ks_30 {sh : KSh} (hk : KAG sh) : sh 30 = .inr (0, 30) := (hk.1 30 (by decide)).trans (by decide +kernel)
theorem ks_31 {sh : KSh} (hk : KAG sh) : sh 31 = .inr (0, 30) := (hk.1 31 (by decide)).trans (by decide +kernel)
theorem ks_32 {sh : KSh} (hk : KAG sh) : sh 32 = .inr (0, 30) := (hk.1 32 (by decide)).trans (by decide +kernel)
theorem ks_33 {sh : KSh} (hk : KAG sh) : sh 33 = .inr (0, 225) := (hk.1 33 (by decide)).trans (by decide +kernel)
theorem ks_34 {sh : KSh} (hk : KAG sh) : sh 34 = .inl 5 := (hk.1 34 (by decide)).trans (by decide +kernel)
theorem ks_35 {sh : KSh} (hk : KAG sh) : sh 35 = .inl 1 := (hk.1 35 (by decide)).trans (by decide +kernel)
theorem ks_36 {sh : KSh} (hk : KAG sh) : sh 36 = .inr (0, 225) := (hk.1 36 (by decide)).trans (by decide +kernel)
theorem ks_37 {sh : KSh} (hk : KAG sh) : sh 37 = .inr (0, 30) := (hk.1 37 (by decide)).trans (by decide +kernel)
theorem ks_38 {sh : KSh} (hk : KAG sh) : sh 38 = .inr (0, 30) := (hk.1 38 (by decide)).trans (by decide +kernel)
theorem ks_39 {sh : KSh} (hk : KAG sh) : sh 39 = .inr (0, 30) := (hk.1 39 (by decide)).trans (by decide +kernel)
theorem ks_40 {sh : KSh} (hk : KAG sh) : sh 40 = .inr (0, 30) := (hk.1 40 (by decide)).trans (by decide +kernel)
theorem ks_41 {sh : KSh} (hk : KAG sh) : sh 41 = .inr (0, 30) := (hk.1 41 (by decide)).trans (by decide +kernel)
theorem ks_42 {sh : KSh} (hk : KAG sh) : sh 42 = .inr (0, 225) := (hk.1 42 (by decide)).trans (by decide +kernel)
theorem ks_43 {sh : KSh} (hk : KAG sh) : sh 43 = .inl 5 := (hk.1 43 (by decide)).trans (by decide +kernel)
theorem ks_44 {sh : KSh} (hk : KAG sh) : sh 44 = .inl 1 := (hk.1 44 (by decide)).trans (by decide +kernel)
theorem ks_45 {sh : KSh} (hk : KAG sh) : sh 45 = .inr (0, 225) := (hk.1 45 (by decide)).trans (by decide +kernel)
theorem ks_46 {sh : KSh} (hk : KAG sh) : sh 46 = .inr (0, 30) := (hk.1 46 (by decide)).trans (by decide +kernel)
theorem ks_47 {sh : KSh} (hk : KAG sh) : sh 47 = .inr (0, 30) := (hk.1 47 (by decide)).trans (by decide +kernel)
theorem ks_48 {sh : KSh} (hk : KAG sh) : sh 48 = .inr (0, 30) := (hk.1 48 (by decide)).trans (by decide +kernel)
theorem ks_49 {sh : KSh} (hk : KAG sh) : sh 49 = .inr (0, 30) := (hk.1 49 (by decide)).trans (by decide +kernel)
theorem ks_50 {sh : KSh} (hk : KAG sh) : sh 50 = .inr (0, 30) := (hk.1 50 (by decide)).trans (by decide +kernel)
theorem ks_51 {sh : KSh} (hk : KAG sh) : sh 51 = .inr (0, 225) := (hk.1 51 (by decide)).trans (by decide +kernel)
theorem ks_52 {sh : KSh} (hk : KAG sh) : sh 52 = .inl 5 := (hk.1 52 (by decide)).trans (by decide +kernel)
theorem ks_53 {sh : KSh} (hk : KAG sh) : sh 53 = .inl 1 := (hk.1 53 (by decide)).trans (by decide +kernel)
theorem ks_54 {sh : KSh} (hk : KAG sh) : sh 54 = .inr (0, 225) := (hk.1 54 (by decide)).trans (by decide +kernel)
theorem ks_55 {sh : KSh} (hk : KAG sh) : sh 55 = .inr (0, 30) := (hk.1 55 (by decide)).trans (by decide +kernel)
theorem ks_56 {sh : KSh} (hk : KAG sh) : sh 56 = .inr (0, 30) := (hk.1 56 (by decide)).trans (by decide +kernel)
theorem ks_57 {sh : KSh} (hk : KAG sh) : sh 57 = .inr (0, 30) := (hk.1 57 (by decide)).trans (by decide +kernel)
theorem ks_58 {sh : KSh} (hk : KAG sh) : sh 58 = .inr (0, 30) := (hk.1 58 (by decide)).trans (by decide +kernel)
theorem ks_59 {sh : KSh} (hk : KAG sh) : sh 59 = .inr (0, 30) := (hk.1 59 (by decide)).trans (by decide +kernel)
theorem ks_60 {sh : KSh} (hk : KAG sh) : sh 60 = .inr (0, 225) := (hk.1 60 (by decide)).trans (by decide +kernel)
theorem ks_61 {sh : KSh} (hk : KAG sh) : sh 61 = .inl 5 := (hk.1 61 (by decide)).trans (by decide +kernel)
theorem ks_62 {sh : KSh} (hk : KAG sh) : sh 62 = .inl 1 := (hk.1 62 (by decide)).trans (by decide +kernel)
theorem ks_63 {sh : KSh} (hk : KAG sh) : sh 63 = .inr (0, 225) := (hk.1 63 (by decide)).trans (by decide +kernel)
theorem ks_64 {sh : KSh} (hk : KAG sh) : sh 64 = .inr (0, 30) := (hk.1 64 (by decide)).trans (by decide +kernel)
theorem ks_65 {sh : KSh} (hk : KAG sh) : sh 65 = .inr (0, 30) := (hk.1 65 (by decide)).trans (by decide +kernel)
theorem ks_66 {sh : KSh} (hk : KAG sh) : sh 66 = .inr (0, 30) := (hk.1 66 (by decide)).trans (by decide +kernel)
theorem ks_67 {sh : KSh} (hk : KAG sh) : sh 67 = .inr (0, 30) := (hk.1 67 (by decide)).trans (by decide +kernel)
theorem ks_68 {sh : KSh} (hk : KAG sh) : sh 68 = .inr (0, 30) := (hk.1 68 (by decide)).trans (by decide +kernel)
theorem ks_69 {sh : KSh} (hk : KAG sh) : sh 69 = .inr (0, 225) := (hk.1 69 (by decide)).trans (by decide +kernel)
theorem ks_70 {sh : KSh} (hk : KAG sh) : sh 70 = .inl 5 := (hk.1 70 (by decide)).trans (by decide +kernel)
theorem ks_71 {sh : KSh} (hk : KAG sh) : sh 71 = .inl 1 := (hk.1 71 (by decide)).trans (by decide +kernel)
theorem ks_72 {sh : KSh} (hk : KAG sh) : sh 72 = .inr (0, 225) := (hk.1 72 (by decide)).trans (by decide +kernel)
theorem ks_73 {sh : KSh} (hk : KAG sh) : sh 73 = .inr (0, 30) := (hk.1 73 (by decide)).trans (by decide +kernel)
theorem ks_74 {sh : KSh} (hk : KAG sh) : sh 74 = .inr (0, 30) := (hk.1 74 (by decide)).trans (by decide +kernel)
theorem ks_75 {sh : KSh} (hk : KAG sh) : sh 75 = .inr (0, 30) := (hk.1 75 (by decide)).trans (by decide +kernel)
theorem ks_76 {sh : KSh} (hk : KAG sh) : sh 76 = .inr (0, 30) := (hk.1 76 (by decide)).trans (by decide +kernel)
theorem ks_77 {sh : KSh} (hk : KAG sh) : sh 77 = .inr (0, 30) := (hk.1 77 (by decide)).trans (by decide +kernel)
theorem ks_78 {sh : KSh} (hk : KAG sh) : sh 78 = .inr (0, 225) := (hk.1 78 (by decide)).trans (by decide +kernel)
theorem ks_79 {sh : KSh} (hk : KAG sh) : sh 79 = .inl 5 := (hk.1 79 (by decide)).trans (by decide +kernel)
theorem ks_80 {sh : KSh} (hk : KAG sh) : sh 80 = .inl 1 := (hk.1 80 (by decide)).trans (by decide +kernel)
theorem ks_81 {sh : KSh} (hk : KAG sh) : sh 81 = .inr (0, 225) := (hk.1 81 (by decide)).trans (by decide +kernel)
theorem ks_82 {sh : KSh} (hk : KAG sh) : sh 82 = .inr (0, 30) := (hk.1 82 (by decide)).trans (by decide +kernel)
theorem ks_83 {sh : KSh} (hk : KAG sh) : sh 83 = .inr (0, 30) := (hk.1 83 (by decide)).trans (by decide +kernel)
theorem ks_84 {sh : KSh} (hk : KAG sh) : sh 84 = .inr (0, 30) := (hk.1 84 (by decide)).trans (by decide +kernel)
theorem ks_85 {sh : KSh} (hk : KAG sh) : sh 85 = .inr (0, 30) := (hk.1 85 (by decide)).trans (by decide +kernel)
theorem ks_86 {sh : KSh} (hk : KAG sh) : sh 86 = .inr (0, 30) := (hk.1 86 (by decide)).trans (by decide +kernel)
theorem ks_87 {sh : KSh} (hk : KAG sh) : sh 87 = .inr (0, 225) := (hk.1 87 (by decide)).trans (by decide +kernel)
theorem ks_88 {sh : KSh} (hk : KAG sh) : sh 88 = .inl 5 := (hk.1 88 (by decide)).trans (by decide +kernel)
theorem ks_89 {sh : KSh} (hk : KAG sh) : sh 89 = .inl 1 := (hk.1 89 (by decide)).trans (by decide +kernel)
theorem ks_90 {sh : KSh} (hk : KAG sh) : sh 90 = .inr (0, 225) := (hk.1 90 (by decide)).trans (by decide +kernel)
theorem ks_91 {sh : KSh} (hk : KAG sh) : sh 91 = .inr (0, 30) := (hk.1 91 (by decide)).trans (by decide +kernel)
theorem ks_92 {sh : KSh} (hk : KAG sh) : sh 92 = .inr (0, 30) := (hk.1 92 (by decide)).trans (by decide +kernel)
theorem ks_93 {sh : KSh} (hk : KAG sh) : sh 93 = .inr (0, 30) := (hk.1 93 (by decide)).trans (by decide +kernel)
theorem ks_94 {sh : KSh} (hk : KAG sh) : sh 94 = .inr (0, 30) := (hk.1 94 (by decide)).trans (by decide +kernel)
theorem ks_95 {sh : KSh} (hk : KAG sh) : sh 95 = .inr (0, 30) := (hk.1 95 (by decide)).trans (by decide +kernel)
theorem ks_96 {sh : KSh} (hk : KAG sh) : sh 96 = .inr (0, 225) := (hk.1 96 (by decide)).trans (by decide +kernel)
theorem ks_97 {sh : KSh} (hk : KAG sh) : sh 97 = .inl 5 := (hk.1 97 (by decide)).trans (by decide +kernel)
theorem ks_98 {sh : KSh} (hk : KAG sh) : sh 98 = .inl 1 := (hk.1 98 (by decide)).trans (by decide +kernel)
theorem ks_99 {sh : KSh} (hk : KAG sh) : sh 99 = .inr (0, 225) := (hk.1 99 (by decide)).trans (by decide +kernel)
theorem ks_100 {sh : KSh} (hk : KAG sh) : sh 100 = .inr (0, 30) := (hk.1 100 (by decide)).trans (by decide +kernel)
theorem ks_101 {sh : KSh} (hk : KAG sh) : sh 101 = .inr (0, 30) := (hk.1 101 (by decide)).trans (by decide +kernel)
theorem ks_102 {sh : KSh} (hk : KAG sh) : sh 102 = .inr (0, 30) := (hk.1 102 (by decide)).trans (by decide +kernel)
theorem ks_103 {sh : KSh} (hk : KAG sh) : sh 103 = .inr (0, 30) := (hk.1 103 (by decide)).trans (by decide +kernel)
theorem ks_104 {sh : KSh} (hk : KAG sh) : sh 104 = .inr (0, 30) := (hk.1 104 (by decide)).trans (by decide +kernel)
theorem ks_105 {sh : KSh} (hk : KAG sh) : sh 105 = .inr (0, 225) := (hk.1 105 (by decide)).trans (by decide +kernel)
theorem ks_106 {sh : KSh} (hk : KAG sh) : sh 106 = .inl 5 := (hk.1 106 (by decide)).trans (by decide +kernel)
theorem ks_107 {sh : KSh} (hk : KAG sh) : sh 107 = .inl 1 := (hk.1 107 (by decide)).trans (by decide +kernel)
theorem ks_108 {sh : KSh} (hk : KAG sh) : sh 108 = .inr (0, 225) := (hk.1 108 (by decide)).trans (by decide +kernel)
theorem ks_109 {sh : KSh} (hk : KAG sh) : sh 109 = .inr (0, 30) := (hk.1 109 (by decide)).trans (by decide +kernel)
theorem ks_110 {sh : KSh} (hk : KAG sh) : sh 110 = .inr (0, 30) := (hk.1 110 (by decide)).trans (by decide +kernel)
theorem ks_111 {sh : KSh} (hk : KAG sh) : sh 111 = .inr (0, 30) := (hk.1 111 (by decide)).trans (by decide +kernel)
theorem ks_112 {sh : KSh} (hk : KAG sh) : sh 112 = .inr (0, 30) := (hk.1 112 (by decide)).trans (by decide +kernel)
theorem ks_113 {sh : KSh} (hk : KAG sh) : sh 113 = .inr (0, 30) := (hk.1 113 (by decide)).trans (by decide +kernel)
theorem ks_114 {sh : KSh} (hk : KAG sh) : sh 114 = .inr (0, 225) := (hk.1 114 (by decide)).trans (by decide +kernel)
theorem ks_115 {sh : KSh} (hk : KAG sh) : sh 115 = .inl 5 := (hk.1 115 (by decide)).trans (by decide +kernel)
theorem ks_116 {sh : KSh} (hk : KAG sh) : sh 116 = .inl 1 := (hk.1 116 (by decide)).trans (by decide +kernel)
theorem ks_117 {sh : KSh} (hk : KAG sh) : sh 117 = .inr (0, 225) := (hk.1 117 (by decide)).trans (by decide +kernel)
theorem ks_118 {sh : KSh} (hk : KAG sh) : sh 118 = .inr (0, 30) := (hk.1 118 (by decide)).trans (by decide +kernel)
theorem ks_119 {sh : KSh} (hk : KAG sh) : sh 119 = .inr (0, 30) := (hk.1 119 (by decide)).trans (by decide +kernel)
theorem ks_120 {sh : KSh} (hk : KAG sh) : sh 120 = .inr (0, 30) := (hk.1 120 (by decide)).trans (by decide +kernel)
theorem ks_121 {sh : KSh} (hk : KAG sh) : sh 121 = .inr (0, 30) := (hk.1 121 (by decide)).trans (by decide +kernel)
theorem ks_122 {sh : KSh} (hk : KAG sh) : sh 122 = .inr (0, 30) := (hk.1 122 (by decide)).trans (by decide +kernel)
theorem ks_123 {sh : KSh} (hk : KAG sh) : sh 123 = .inr (0, 225) := (hk.1 123 (by decide)).trans (by decide +kernel)
theorem ks_124 {sh : KSh} (hk : KAG sh) : sh 124 = .inl 5 := (hk.1 124 (by decide)).trans (by decide +kernel)
theorem ks_125 {sh : KSh} (hk : KAG sh) : sh 125 = .inl 1 := (hk.1 125 (by decide)).trans (by decide +kernel)
theorem ks_126 {sh : KSh} (hk : KAG sh) : sh 126 = .inr (0, 225) := (hk.1 126 (by decide)).trans (by decide +kernel)
theorem ks_127 {sh : KSh} (hk : KAG sh) : sh 127 = .inr (0, 30) := (hk.1 127 (by decide)).trans (by decide +kernel)
theorem ks_128 {sh : KSh} (hk : KAG sh) : sh 128 = .inr (0, 30) := (hk.1 128 (by decide)).trans (by decide +kernel)
theorem ks_129 {sh : KSh} (hk : KAG sh) : sh 129 = .inr (0, 30) := (hk.1 129 (by decide)).trans (by decide +kernel)
theorem ks_130 {sh : KSh} (hk : KAG sh) : sh 130 = .inr (0, 30) := (hk.1 130 (by decide)).trans (by decide +kernel)
theorem ks_131 {sh : KSh} (hk : KAG sh) : sh 131 = .inr (0, 30) := (hk.1 131 (by decide)).trans (by decide +kernel)
theorem ks_132 {sh : KSh} (hk : KAG sh) : sh 132 = .inr (0, 225) := (hk.1 132 (by decide)).trans (by decide +kernel)
theorem ks_133 {sh : KSh} (hk : KAG sh) : sh 133 = .inl 7 := (hk.1 133 (by decide)).trans (by decide +kernel)
theorem kv_let {sh : KSh} {l : Launch} {M : KM} {k n pc : Nat} {lo : List (Nat × Value)} {st : List Value} {s : Sto} {o : KO} {β : Type} {F : Sto → β} {r : β} (h : klet s F = r) (kk : ∀ s1, F s1 = r → VV sh l M k n pc lo st s1 o) : VV sh l M k n pc lo st s o := kk s h
