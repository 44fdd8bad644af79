def kFU : Nat := 4000000
def kb (b : Bool) : Int32 := if b = true then 1 else 0
theorem kb_n (b : Bool) : narrow .boolean (.int (kb b)) = .int (kb b) := by cases b <;> rfl
theorem kb_f (b : Bool) : fits .boolean (.int (kb b)) = true := by cases b <;> rfl
theorem kb_v (b : Bool) : vp_nar .boolean (kb b) = kb b := by cases b <;> rfl
theorem kb_0 (b : Bool) : kb b = 0 ↔ ¬ b = true := by cases b <;> decide
def kbo (v : Int32) : Bool := decide (v = 0) || decide (v = 1)
theorem kbo_b {v : Int32} (h : kbo v = true) : v = kb (decide (v = 1)) := by
  unfold kbo at h
  rw [Bool.or_eq_true] at h
  rcases h with h | h
  · have h := of_decide_eq_true h
    subst h
    rfl
  · have h := of_decide_eq_true h
    subst h
    rfl
theorem kbo_n {v : Int32} (h : kbo v = true) : narrow .boolean (.int v) = .int v := by rw [kbo_b h]; exact kb_n _
theorem kbo_f {v : Int32} (h : kbo v = true) : fits .boolean (.int v) = true := by rw [kbo_b h]; exact kb_f _
theorem kbo_v {v : Int32} (h : kbo v = true) : vp_nar .boolean v = v := by rw [kbo_b h]; exact kb_v _
theorem knz {y : Int32} {α : Type} {A : Option α} {r : α} (h : (if y = 0 then none else A) = some r) : ¬ y = 0 ∧ A = some r := by
  by_cases c : y = 0
  · rw [if_pos c] at h; cases h
  · rw [if_neg c] at h; exact ⟨c, h⟩
section KROWS3
variable {l : Launch} {M : KM} {k n pc : Nat} {lo : List (Nat × Value)} {st : List Value} {σ : Sto} {o : KO}
theorem kv_ifb_eq {β : Type} {A B r : β} {b : Bool} {off : Int} {tgt : Nat} (hd : decode M.2.1 pc = .ok (.ifCond .eq off, 3)) (ht : (pc : Int) + off = (tgt : Int)) (h : (if b = true then A else B) = r) (kt : B = r → VV l M k n tgt lo st σ o) (kf : A = r → VV l M k n (pc + 3) lo st σ o) : VV l M k n pc lo (.int (kb b) :: st) σ o := by
  cases b
  · exact kv_if_eq (A := B) (B := A) (r := r) hd ht (by rw [if_pos (by decide)]; exact h) kt kf
  · exact kv_if_eq (A := B) (B := A) (r := r) hd ht (by rw [if_neg (by decide)]; exact h) kt kf
theorem kv_ifb_ne {β : Type} {A B r : β} {b : Bool} {off : Int} {tgt : Nat} (hd : decode M.2.1 pc = .ok (.ifCond .ne off, 3)) (ht : (pc : Int) + off = (tgt : Int)) (h : (if b = true then A else B) = r) (kt : A = r → VV l M k n tgt lo st σ o) (kf : B = r → VV l M k n (pc + 3) lo st σ o) : VV l M k n pc lo (.int (kb b) :: st) σ o := by
  cases b
  · exact kv_if_ne (A := B) (B := A) (r := r) hd ht (by rw [if_pos (by decide)]; exact h) kt kf
  · exact kv_if_ne (A := B) (B := A) (r := r) hd ht (by rw [if_neg (by decide)]; exact h) kt kf
theorem kv_widen (k' n' : Nat) (h1 : k ≤ k') (h2 : n ≤ n') (kk : VV l M k' n' pc lo st σ o) : VV l M k n pc lo st σ o :=
  fun E A p e s m args below meth c C H locs ls hW hS hl => W.widen h1 h2 (kk E A p e s m args below meth c C H locs ls hW hS hl)
theorem kv_cV {α β : Type} {f : Option α} {K : α → Option β} {res : β} {M' : KM} {y : MethodName} {q ci ix : Nat} (As : List Value) (conv : α → KO) (stk2 : α → List Value) (σ2 : α → Sto) (pc2 k2 n2 : Nat) {stk : List Value} {C0 : String} {T0 : u_T} {N0 : Nat} (h : f.bind K = some res) (hc : ∀ r, f = some r → CT l M' y (.ref q :: As) σ (conv r)) (hd : decode M.2.1 pc = .ok (.invokevirtual ix, 3)) (hst : stk = As.reverse ++ .ref q :: st)
    (hs : ksh q = .inl ci) (hcl : vwCl[ci]? = some (C0, T0, N0)) (hy : KMV y M' C0 As.length) (hlk : Cond.methodLink M.1 ix y ∈ kg)
    (hR : M'.2.2.2.2.1.frames + 1 ≤ M.2.2.2.2.1.frames ∧ 8 + (M'.2.2.1 + 11) + M'.2.2.2.2.1.locals ≤ M.2.2.2.2.1.locals) (hcat : (st.map fun v => v.category).sum ≤ 8) (hf : k + M'.2.2.2.2.2.1 ≤ M.2.2.2.2.1.cells ∧ n + M'.2.2.2.2.2.2 ≤ M.2.2.2.2.1.slots)
    (h2 : ∀ r, (krv M'.2.2.2.1 (conv r).2.1).toList ++ st = stk2 r) (h3 : ∀ r, (conv r).2.2 = σ2 r) (h4 : pc + 3 = pc2 ∧ k + M'.2.2.2.2.2.1 = k2 ∧ n + M'.2.2.2.2.2.2 = n2)
    (hx : ∀ r, K r = some res → (conv r).1 ≠ 0 → o.1 = (conv r).1 ∧ o.2.2 = (conv r).2.2 ∧ k + M'.2.2.2.2.2.1 ≤ M.2.2.2.2.2.1 ∧ n + M'.2.2.2.2.2.2 ≤ M.2.2.2.2.2.2)
    (kk : ∀ r, f = some r → (conv r).1 = 0 → K r = some res → VV l M k2 n2 pc2 lo (stk2 r) (σ2 r) o) : VV l M k n pc lo stk σ o := by
  cases hf0 : f with
  | none => rw [hf0] at h; cases h
  | some r =>
    rw [hf0] at h
    obtain ⟨rfl, rfl, rfl⟩ := h4
    refine kv_callV (o1 := conv r) As (hc r hf0) hd hst hs hcl hy hlk hR hcat hf (fun h0 => hx r h h0) (fun h0 => ?_)
    rw [h2 r, h3 r]
    exact kk r hf0 h0 h
theorem kv_cS {α β : Type} {f : Option α} {K : α → Option β} {res : β} {M' : KM} {y : MethodName} {ix : Nat} (As : List Value) (conv : α → KO) (stk2 : α → List Value) (σ2 : α → Sto) (pc2 k2 n2 : Nat) {stk : List Value} (h : f.bind K = some res) (hc : ∀ r, f = some r → CT l M' y As σ (conv r)) (hd : decode M.2.1 pc = .ok (.invokestatic ix, 3)) (hst : stk = As.reverse ++ st)
    (hy : KMS y M' As.length) (hlk : Cond.methodLink M.1 ix y ∈ kg)
    (hR : M'.2.2.2.2.1.frames + 1 ≤ M.2.2.2.2.1.frames ∧ 8 + (M'.2.2.1 + 11) + M'.2.2.2.2.1.locals ≤ M.2.2.2.2.1.locals) (hcat : (st.map fun v => v.category).sum ≤ 8) (hf : k + M'.2.2.2.2.2.1 ≤ M.2.2.2.2.1.cells ∧ n + M'.2.2.2.2.2.2 ≤ M.2.2.2.2.1.slots)
    (h2 : ∀ r, (krv M'.2.2.2.1 (conv r).2.1).toList ++ st = stk2 r) (h3 : ∀ r, (conv r).2.2 = σ2 r) (h4 : pc + 3 = pc2 ∧ k + M'.2.2.2.2.2.1 = k2 ∧ n + M'.2.2.2.2.2.2 = n2)
    (hx : ∀ r, K r = some res → (conv r).1 ≠ 0 → o.1 = (conv r).1 ∧ o.2.2 = (conv r).2.2 ∧ k + M'.2.2.2.2.2.1 ≤ M.2.2.2.2.2.1 ∧ n + M'.2.2.2.2.2.2 ≤ M.2.2.2.2.2.2)
    (kk : ∀ r, f = some r → (conv r).1 = 0 → K r = some res → VV l M k2 n2 pc2 lo (stk2 r) (σ2 r) o) : VV l M k n pc lo stk σ o := by
  cases hf0 : f with
  | none => rw [hf0] at h; cases h
  | some r =>
    rw [hf0] at h
    obtain ⟨rfl, rfl, rfl⟩ := h4
    refine kv_callS (o1 := conv r) As (hc r hf0) hd hst hy hlk hR hcat hf (fun h0 => hx r h h0) (fun h0 => ?_)
    rw [h2 r, h3 r]
    exact kk r hf0 h0 h
/-- a callee that always returns v, and writes nothing -/
theorem kv_tV {v : Int32} {M' : KM} {y : MethodName} {q ci ix : Nat} (As : List Value) (stk2 : List Value) (pc2 k2 n2 : Nat) {stk : List Value} {C0 : String} {T0 : u_T} {N0 : Nat} (hc : CT l M' y (.ref q :: As) σ (0, v, σ)) (hd : decode M.2.1 pc = .ok (.invokevirtual ix, 3)) (hst : stk = As.reverse ++ .ref q :: st)
    (hs : ksh q = .inl ci) (hcl : vwCl[ci]? = some (C0, T0, N0)) (hy : KMV y M' C0 As.length) (hlk : Cond.methodLink M.1 ix y ∈ kg)
    (hR : M'.2.2.2.2.1.frames + 1 ≤ M.2.2.2.2.1.frames ∧ 8 + (M'.2.2.1 + 11) + M'.2.2.2.2.1.locals ≤ M.2.2.2.2.1.locals) (hcat : (st.map fun v => v.category).sum ≤ 8) (hf : k + M'.2.2.2.2.2.1 ≤ M.2.2.2.2.1.cells ∧ n + M'.2.2.2.2.2.2 ≤ M.2.2.2.2.1.slots)
    (h2 : (krv M'.2.2.2.1 v).toList ++ st = stk2) (h4 : pc + 3 = pc2 ∧ k + M'.2.2.2.2.2.1 = k2 ∧ n + M'.2.2.2.2.2.2 = n2)
    (kk : VV l M k2 n2 pc2 lo stk2 σ o) : VV l M k n pc lo stk σ o := by
  obtain ⟨rfl, rfl, rfl⟩ := h4
  subst h2
  exact kv_callV (o1 := (0, v, σ)) As hc hd hst hs hcl hy hlk hR hcat hf (fun h0 => absurd rfl h0) (fun _ => kk)
theorem kv_tS {v : Int32} {M' : KM} {y : MethodName} {ix : Nat} (As : List Value) (stk2 : List Value) (pc2 k2 n2 : Nat) {stk : List Value} (hc : CT l M' y As σ (0, v, σ)) (hd : decode M.2.1 pc = .ok (.invokestatic ix, 3)) (hst : stk = As.reverse ++ st)
    (hy : KMS y M' As.length) (hlk : Cond.methodLink M.1 ix y ∈ kg)
    (hR : M'.2.2.2.2.1.frames + 1 ≤ M.2.2.2.2.1.frames ∧ 8 + (M'.2.2.1 + 11) + M'.2.2.2.2.1.locals ≤ M.2.2.2.2.1.locals) (hcat : (st.map fun v => v.category).sum ≤ 8) (hf : k + M'.2.2.2.2.2.1 ≤ M.2.2.2.2.1.cells ∧ n + M'.2.2.2.2.2.2 ≤ M.2.2.2.2.1.slots)
    (h2 : (krv M'.2.2.2.1 v).toList ++ st = stk2) (h4 : pc + 3 = pc2 ∧ k + M'.2.2.2.2.2.1 = k2 ∧ n + M'.2.2.2.2.2.2 = n2)
    (kk : VV l M k2 n2 pc2 lo stk2 σ o) : VV l M k n pc lo stk σ o := by
  obtain ⟨rfl, rfl, rfl⟩ := h4
  subst h2
  exact kv_callS (o1 := (0, v, σ)) As hc hd hst hy hlk hR hcat hf (fun h0 => absurd rfl h0) (fun _ => kk)
end KROWS3
/-- where an object stands, the things stand to which its fields refer -/
theorem kso {ci d : Nat} {x : Nat ⊕ (Nat × Nat)} (hx : ∀ q, q < kNP → ksh q = .inl ci → ksh (q + d) = x) {q : Nat} (h : ksh q = .inl ci) : ksh (q + d) = x := hx q (ksh_lt h (fun h => by cases h)) h
theorem kin_lt {i : Int32} {N : Nat} (h : kin i N = true) : i.toNatClampNeg < N := by
  unfold kin at h
  simp only [Bool.and_eq_true, decide_eq_true_eq] at h
  exact h.2
theorem ksa_past {i : Int32} (h : kin i 8 = true) : ksh (43 + 9 * i.toNatClampNeg) = .inl 5 := by
  have := kin_lt h
  generalize i.toNatClampNeg = j at this
  revert j
  decide +kernel
theorem ksa_slot {i : Int32} (h : kin i 2 = true) : ksh (115 + 9 * i.toNatClampNeg) = .inl 5 := by
  have := kin_lt h
  generalize i.toNatClampNeg = j at this
  revert j
  decide +kernel
theorem kso_0_1 : ∀ q, q < kNP → ksh q = .inl 0 → ksh (q + 1) = .inr (0, 30) := by decide +kernel
theorem kso_1_1 : ∀ q, q < kNP → ksh q = .inl 1 → ksh (q + 1) = .inr (0, 225) := by decide +kernel
theorem kso_2_1 : ∀ q, q < kNP → ksh q = .inl 2 → ksh (q + 1) = .inr (0, 225) := by decide +kernel
theorem kso_3_1 : ∀ q, q < kNP → ksh q = .inl 3 → ksh (q + 1) = .inr (0, 225) := by decide +kernel
theorem kso_3_2 : ∀ q, q < kNP → ksh q = .inl 3 → ksh (q + 2) = .inr (0, 225) := by decide +kernel
theorem kso_3_3 : ∀ q, q < kNP → ksh q = .inl 3 → ksh (q + 3) = .inr (0, 225) := by decide +kernel
theorem kso_3_4 : ∀ q, q < kNP → ksh q = .inl 3 → ksh (q + 4) = .inr (0, 10) := by decide +kernel
theorem kso_3_5 : ∀ q, q < kNP → ksh q = .inl 3 → ksh (q + 5) = .inr (1, 225) := by decide +kernel
theorem kso_3_6 : ∀ q, q < kNP → ksh q = .inl 3 → ksh (q + 6) = .inr (0, 225) := by decide +kernel
theorem kso_4_1 : ∀ q, q < kNP → ksh q = .inl 4 → ksh (q + 1) = .inr (0, 600) := by decide +kernel
theorem kso_5_1 : ∀ q, q < kNP → ksh q = .inl 5 → ksh (q + 1) = .inl 1 := by decide +kernel
theorem kso_5_3 : ∀ q, q < kNP → ksh q = .inl 5 → ksh (q + 3) = .inr (0, 30) := by decide +kernel
theorem kso_5_4 : ∀ q, q < kNP → ksh q = .inl 5 → ksh (q + 4) = .inr (0, 30) := by decide +kernel
theorem kso_5_5 : ∀ q, q < kNP → ksh q = .inl 5 → ksh (q + 5) = .inr (0, 30) := by decide +kernel
theorem kso_5_6 : ∀ q, q < kNP → ksh q = .inl 5 → ksh (q + 6) = .inr (0, 30) := by decide +kernel
theorem kso_5_7 : ∀ q, q < kNP → ksh q = .inl 5 → ksh (q + 7) = .inr (0, 30) := by decide +kernel
theorem kso_5_8 : ∀ q, q < kNP → ksh q = .inl 5 → ksh (q + 8) = .inr (0, 225) := by decide +kernel
