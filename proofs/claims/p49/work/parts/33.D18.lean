def depOK (a : Int32) (k d : Nat) : Bool := !(gNear a 6 (mx k) (my k)) || (decide (0 ≤ gDep a d (mx k) (my k) + 12) && decide (gDep a d (mx k) (my k) + 12 ≤ 24))
set_option maxRecDepth 100000 in
theorem dep_fin : ∀ d, d < 8 → ∀ k, k < 169 → ((depOK 180 k d || false) && depOK 90 k d && depOK 45 k d && (decide (6 ≤ d) || (depOK 60 k d && depOK 30 k d))) = true := by decide +kernel
def dE (m : Vc) (k : Nat) : Nat := (gDep (m 0) (mD m) (mC m k 3) (mC m k 4) + 12).toNatClampNeg
def wN (m : Vc) (k : Nat) : Nat := (mC m k 2).toNatClampNeg
theorem dep_rng {a r x y : Int32} (ha : gAng a) (hr : rOK r) (hn : gNear a r x y = true) {d : Nat} (hd : d < gDirs a) : 0 ≤ gDep a d x y + 12 ∧ gDep a d x y + 12 ≤ 24 := by
  have hS := near_S hr hn
  have h6 := near6 hr hn
  have h8 : d < 8 := by have := @dirs_le a; omega
  have h := dep_fin d h8 (mk x y) (mk_lt hS)
  simp only [Bool.and_eq_true, Bool.or_false, Bool.or_eq_true, decide_eq_true_eq] at h
  have hk : depOK a (mk x y) d = true := by
    rcases ha with e | e | e | e | e <;> subst e
    · exact h.1.1.1
    · exact h.1.1.2
    · exact h.1.2
    · refine (h.2.resolve_left ?_).1
      have : gDirs 60 = 6 := by decide
      omega
    · refine (h.2.resolve_left ?_).2
      have : gDirs 30 = 6 := by decide
      omega
  unfold depOK at hk
  rw [mx_mk hS, my_mk hS, h6] at hk
  simp at hk
  exact hk
section ORD
variable {m : Vc} {k : Nat}
theorem dE_ok (ok : OKm m) (hk : k < mN m) (hi : mC m k 6 = 1) : gDep (m 0) (mD m) (mC m k 3) (mC m k 4) = nI (dE m k) - 12 ∧ dE m k ≤ 24 := by
  have h := dep_rng ok.1 ok.2.1 (ok_near ok hk hi) ok.2.2.1.2
  have h1 := i32_nI h.1
  constructor
  · have : nI (dE m k) = gDep (m 0) (mD m) (mC m k 3) (mC m k 4) + 12 := h1
    rw [this]
    grind
  · have h2 : nI (dE m k) ≤ nI 24 := by
      have : nI (dE m k) = gDep (m 0) (mD m) (mC m k 3) (mC m k 4) + 12 := h1
      rw [this]
      exact h.2
    refine (dI_le ?_ (by decide)).1 h2
    unfold dE Int32.toNatClampNeg
    have := Int32.toInt_lt (gDep (m 0) (mD m) (mC m k 3) (mC m k 4) + 12)
    omega
theorem wN_ok (ok : OKm m) (hk : k < mN m) : mC m k 2 = nI (wN m k) ∧ 1 ≤ wN m k ∧ wN m k ≤ 9 := by
  have h := (ok_chip ok hk).2.2.2.1
  have h0 : 0 ≤ mC m k 2 := by have := h.1; grind
  have h1 : nI (wN m k) = mC m k 2 := i32_nI h0
  have hb : wN m k < 2147483648 := by
    unfold wN Int32.toNatClampNeg
    have := Int32.toInt_lt (mC m k 2)
    omega
  refine ⟨h1.symm, ?_, ?_⟩
  · refine (dI_le (a := 1) (by decide) hb).1 ?_
    rw [h1]; exact h.1
  · refine (dI_le (b := 9) hb (by decide)).1 ?_
    rw [h1]; exact h.2
end ORD
def sel (m : Vc) (bub : Bool) (k : Nat) : Bool := decide (mC m k 6 = 1) && (if bub = true then decide (mC m k 0 = 2) else decide (mC m k 0 = 0) || decide (mC m k 0 = 1))
def keyN (m : Vc) (k : Nat) : Nat := 10 * dE m k + wN m k
def gtF (m : Vc) (bub : Bool) (k a : Nat) : Bool := if bub = true then decide (keyN m k < keyN m a) else decide (keyN m a < keyN m k)
def posL (gt : Nat → Bool) (l : List Nat) : Nat → Nat
  | 0 => 0
  | a + 1 => if gt (l.getD a 0) = true then posL gt l a else a + 1
def insL (gt : Nat → Bool) (k : Nat) (l : List Nat) : List Nat := l.take (posL gt l l.length) ++ k :: l.drop (posL gt l l.length)
def ordL (m : Vc) (bub : Bool) : Nat → List Nat
  | 0 => []
  | k + 1 => if sel m bub k = true then insL (gtF m bub k) k (ordL m bub k) else ordL m bub k
def mOrd (m : Vc) (bub : Bool) : List Nat := ordL m bub (mN m)
theorem posL_le (gt : Nat → Bool) (l : List Nat) (a : Nat) : posL gt l a ≤ a := by
  induction a with
  | zero => exact Nat.le_refl _
  | succ a ih => unfold posL; split <;> omega
theorem insL_len (gt : Nat → Bool) (k : Nat) (l : List Nat) : (insL gt k l).length = l.length + 1 := by
  have := posL_le gt l l.length
  unfold insL
  simp
  omega
theorem insL_getD (gt : Nat → Bool) (k : Nat) (l : List Nat) (i : Nat) : (insL gt k l).getD i 0 = if i < posL gt l l.length then l.getD i 0 else if i = posL gt l l.length then k else l.getD (i - 1) 0 := by
  have hp := posL_le gt l l.length
  unfold insL
  generalize posL gt l l.length = p at *
  rw [List.getD_eq_getElem?_getD, List.getD_eq_getElem?_getD, List.getD_eq_getElem?_getD]
  rw [List.getElem?_append]
  rw [List.length_take, Nat.min_eq_left hp]
  by_cases h1 : i < p
  · rw [if_pos h1, if_pos h1, List.getElem?_take, if_pos h1]
  · rw [if_neg h1, if_neg h1]
    by_cases h2 : i = p
    · subst h2
      simp
    · rw [if_neg h2, show i - p = (i - p - 1) + 1 by omega, List.getElem?_cons_succ, List.getElem?_drop]
      congr 2
      omega
theorem insL_mem (gt : Nat → Bool) (k : Nat) (l : List Nat) (a : Nat) : a ∈ insL gt k l ↔ a = k ∨ a ∈ l := by
  unfold insL
  rw [List.mem_append, List.mem_cons]
  have := List.take_append_drop (posL gt l l.length) l
  have h2 : a ∈ l ↔ a ∈ l.take (posL gt l l.length) ∨ a ∈ l.drop (posL gt l l.length) := by
    rw [← List.mem_append, this]
  rw [h2]
  constructor
  · rintro (h | h | h)
    · exact .inr (.inl h)
    · exact .inl h
    · exact .inr (.inr h)
  · rintro (h | h | h)
    · exact .inr (.inl h)
    · exact .inl h
    · exact .inr (.inr h)
theorem ordL_mem (m : Vc) (bub : Bool) (n : Nat) : ∀ a, a ∈ ordL m bub n → a < n ∧ sel m bub a = true := by
  induction n with
  | zero => intro a h; exact absurd h (by unfold ordL; simp)
  | succ n ih =>
    intro a h
    unfold ordL at h
    split at h
    · next hs =>
      rcases (insL_mem _ _ _ _).1 h with h | h
      · subst h; exact ⟨by omega, hs⟩
      · have := ih a h; exact ⟨by omega, this.2⟩
    · have := ih a h; exact ⟨by omega, this.2⟩
theorem ordL_len (m : Vc) (bub : Bool) (n : Nat) : (ordL m bub n).length ≤ n := by
  induction n with
  | zero => exact Nat.le_refl _
  | succ n ih =>
    unfold ordL
    split
    · rw [insL_len]; omega
    · omega
theorem getD_mem {l : List Nat} {i : Nat} (h : i < l.length) : l.getD i 0 ∈ l := by
  rw [List.getD_eq_getElem?_getD, List.getElem?_eq_getElem h]
  exact List.getElem_mem h
theorem sel_in {m : Vc} {bub : Bool} {k : Nat} (h : sel m bub k = true) : mC m k 6 = 1 := by
  unfold sel at h
  rw [Bool.and_eq_true, decide_eq_true_eq] at h
  exact h.1
def AR (A : Nat → Int32) (enc : Nat → Int32) (l : List Nat) : Prop := ∀ i, i < l.length → A i = enc (l.getD i 0)
theorem ar_ins {A : Nat → Int32} {enc : Nat → Int32} {gt : Nat → Bool} {k : Nat} {l : List Nat} (h1 : ∀ i, i < posL gt l l.length → A i = enc (l.getD i 0)) (h2 : A (posL gt l l.length) = enc k) (h3 : ∀ i, posL gt l l.length ≤ i → i < l.length → A (i + 1) = enc (l.getD i 0)) : AR A enc (insL gt k l) := by
  intro i hi
  rw [insL_len] at hi
  rw [insL_getD]
  by_cases c1 : i < posL gt l l.length
  · rw [if_pos c1]; exact h1 i c1
  · rw [if_neg c1]
    by_cases c2 : i = posL gt l l.length
    · rw [if_pos c2, c2]; exact h2
    · rw [if_neg c2]
      have := h3 (i - 1) (by omega) (by omega)
      rw [show i - 1 + 1 = i by omega] at this
      exact this
section CO
variable {σ : Sto} {b q0 : Nat} {m : Vc}
theorem c_ins_L {enc : Nat → Int32} {gt : Nat → Bool} {k : Nat} {l : List Nat} (hl : l.length < 30) (hgt : ∀ i, i < l.length → (enc (l.getD i 0) ≤ enc k ↔ gt (l.getD i 0) = false)) : ∀ (at' fu : Nat) (τ : Sto), at' < fu → at' ≤ l.length → (∀ i, i < at' → τ (q0 + 1) i = enc (l.getD i 0)) → (∀ i, at' ≤ i → i < l.length → τ (q0 + 1) (i + 1) = enc (l.getD i 0)) →
    ∃ ρ, fX0_insert_L32 q0 (enc k) fu (nI at') τ = some ρ ∧ (∀ i, i < posL gt l at' → ρ (q0 + 1) i = enc (l.getD i 0)) ∧ ρ (q0 + 1) (posL gt l at') = enc k ∧ (∀ i, posL gt l at' ≤ i → i < l.length → ρ (q0 + 1) (i + 1) = enc (l.getD i 0)) ∧ ∀ p, p ≠ q0 + 1 → ρ p = τ p := by
  intro at'
  induction at' with
  | zero =>
    intro fu τ hf hle h1 h2
    match fu, hf with
    | fu + 1, _ =>
      rw [fX0_insert_L32.eq_2, if_pos (by decide)]
      unfold fX0_insert_L68
      rw [if_pos (kin_nI (show 0 < 30 by decide) (by decide)), klet_eq, nI_n (by decide)]
      refine ⟨_, rfl, fun i hi => absurd hi (by unfold posL; omega), ?_, fun i _ hi => ?_, fun p hp => su_k hp⟩
      · show su τ (q0 + 1) 0 (enc k) (q0 + 1) 0 = enc k
        rw [su_eq]
      · rw [su_i (by omega)]
        exact h2 i (by omega) hi
  | succ a ih =>
    intro fu τ hf hle h1 h2
    match fu, hf with
    | fu + 1, hf =>
      have e1 : nI (a + 1) - 1 = nI a := by rw [← nI_add1]; grind
      have e2 : nI (a + 1) + (-1) = nI a := sub1
      rw [fX0_insert_L32.eq_2, if_neg (show ¬ nI (a + 1) ≤ (0 : Int32) by rw [show (0 : Int32) = nI 0 from rfl, dI_le (by omega) (by omega)]; omega), e1, if_pos (kin_nI (show a < 30 by omega) (by decide)), nI_n (show a < 2147483648 by omega), h1 a (by omega)]
      have hg := hgt a (by omega)
      unfold fX0_insert_L68
      rw [posL.eq_2]
      cases hga : gt (l.getD a 0) with
      | false =>
        rw [if_pos (hg.2 hga), if_neg Bool.false_ne_true, if_pos (kin_nI (show a + 1 < 30 by omega) (by decide)), klet_eq, nI_n (by omega)]
        refine ⟨_, rfl, fun i hi => ?_, su_eq, fun i hi1 hi2 => ?_, fun p hp => su_k hp⟩
        · rw [su_i (by omega)]; exact h1 i hi
        · rw [su_i (by omega)]; exact h2 i hi1 hi2
      | true =>
        rw [if_neg (fun c => by rw [hg.1 c] at hga; cases hga), if_pos rfl, if_pos (kin_nI (show a < 30 by omega) (by decide)), if_pos (kin_nI (show a + 1 < 30 by omega) (by decide)), klet_eq, nI_n (show a + 1 < 2147483648 by omega), e2]
        obtain ⟨ρ, g1, g2, g3, g4, g5⟩ := ih fu (su τ (q0 + 1) (a + 1) (enc (l.getD a 0))) (by omega) (by omega) (fun i hi => by rw [su_i (by omega)]; exact h1 i (by omega)) (fun i hi1 hi2 => by
          rw [su_at]
          by_cases hia : i = a
          · subst hia; rw [if_pos rfl]
          · rw [if_neg (by omega)]; exact h2 i (by omega) hi2)
        exact ⟨ρ, g1, g2, g3, g4, fun p hp => by rw [g5 p hp, su_k hp]⟩
/-- the line of the class holds what enc says of the list -/
def LNE (q0 : Nat) (enc : Nat → Int32) (l : List Nat) (τ : Sto) : Prop := τ q0 1 = nI l.length ∧ AR (τ (q0 + 1)) enc l
theorem c_insert {enc : Nat → Int32} {gt : Nat → Bool} {k : Nat} {l : List Nat} (hl : l.length < 30) (hgt : ∀ i, i < l.length → (enc (l.getD i 0) ≤ enc k ↔ gt (l.getD i 0) = false)) (h : LNE q0 enc l σ) :
    ∃ ρ, fX0_insert q0 (enc k) σ = some ρ ∧ LNE q0 enc (insL gt k l) ρ ∧ ∀ p, p ≠ q0 → p ≠ q0 + 1 → ρ p = σ p := by
  unfold fX0_insert
  rw [h.1, if_neg (by have := @nI_lt0 l.length (by omega); grind), if_pos (show nI l.length < 30 from (dI_lt (b := 30) (by omega) (by decide)).2 hl), klet_eq]
  obtain ⟨ρ, g1, g2, g3, g4, g5⟩ := c_ins_L (q0 := q0) hl hgt l.length kFU (su σ q0 1 (nI l.length + 1)) (by unfold kFU; omega) (Nat.le_refl _) (fun i hi => by rw [su_k (by omega)]; exact h.2 i hi) (fun i hi1 hi2 => by omega)
  refine ⟨ρ, g1, ⟨?_, ar_ins g2 g3 g4⟩, fun p p1 p2 => by rw [g5 p p2, su_k p1]⟩
  rw [g5 q0 (by omega), su_eq, insL_len, nI_add1]
def rkN (m : Vc) (bub : Bool) (k : Nat) : Nat := if bub = true then (dE m k * 11 + wN m k) * 32 + k + 12 * 0 else ((24 - dE m k) * 11 + (10 - wN m k)) * 32 + k
theorem c_rank (ok : OKm m) (h : BX σ b m) {k : Nat} (hk : k < mN m) (hi : mC m k 6 = 1) {bub : Bool} : fX0_rankOf b (nI k) (kb bub) σ = some (nI (rkN m bub k)) := by
  have hn := came_le ok
  have hw := wN_ok ok hk
  have hd := dE_ok ok hk hi
  have e12 : nI 12 = 12 := rfl
  unfold fX0_rankOf fX0_rankOf_L39 fX0_rankOf_L55 rkN
  rw [c_cellOf ok h hk, mCell_in hi, Option.bind_some, bx1 h, ok.2.2.1.1, c_dep h.1 ok.2.2.1.2 (ok_in ok hk hi), Option.bind_some, c_weightOf ok h hk, Option.bind_some, hd.1, hw.1]
  cases bub with
  | true =>
    rw [show kb true = 1 from rfl, if_neg (show ¬ (1 : Int32) = 0 by decide), if_neg (show ¬ (1 : Int32) = 0 by decide), if_pos rfl]
    have : (12 : Int32) + (nI (dE m k) - 12) = nI (dE m k) := by grind
    rw [this]
    congr 1
    unfold nI
    rw [Int32.ofNat_add, Int32.ofNat_add, Int32.ofNat_mul, Int32.ofNat_add, Int32.ofNat_mul]
    show _ = _ + Int32.ofNat 0
    rw [show Int32.ofNat 0 = 0 from rfl, add0]
    rfl
  | false =>
    rw [show kb false = 0 from rfl, if_pos rfl, if_pos rfl, if_neg Bool.false_ne_true]
    have e1 : (12 : Int32) - (nI (dE m k) - 12) = nI (24 - dE m k) := by
      rw [← nI_subn hd.2, show nI 24 = 24 from rfl]; grind
    have e2 : (10 : Int32) - nI (wN m k) = nI (10 - wN m k) := by
      rw [← nI_subn (by omega)]; rfl
    rw [e1, e2]
    congr 1
    unfold nI
    rw [Int32.ofNat_add, Int32.ofNat_mul, Int32.ofNat_add, Int32.ofNat_mul]
    rfl
theorem rk_lt (ok : OKm m) {k : Nat} (hk : k < mN m) (hi : mC m k 6 = 1) {bub : Bool} : rkN m bub k < 10000 := by
  have hn := came_le ok
  have hw := wN_ok ok hk
  have hd := dE_ok ok hk hi
  unfold rkN
  split <;> omega
theorem rk_gt (ok : OKm m) {k a : Nat} (hk : k < mN m) (hi : mC m k 6 = 1) (ha : a < k) (hia : mC m a 6 = 1) {bub : Bool} : rkN m bub a ≤ rkN m bub k ↔ gtF m bub k a = false := by
  have hn := came_le ok
  have hw := wN_ok ok hk
  have hd := dE_ok ok hk hi
  have hw' := wN_ok ok (show a < mN m by omega)
  have hd' := dE_ok ok (show a < mN m by omega) hia
  unfold rkN gtF keyN
  cases bub
  · simp only [Bool.false_eq_true, if_false, decide_eq_false_iff_not]
    omega
  · simp only [if_true, decide_eq_false_iff_not]
    omega
theorem krem32' : ∀ i, i < 100 → ∀ j, j < 100 → krem (nI (100 * i + j)) 32 = nI ((100 * i + j) % 32) := by decide +kernel
theorem krem32 (n : Nat) (h : n < 10000) : krem (nI n) 32 = nI (n % 32) := by
  have := krem32' (n / 100) (by omega) (n % 100) (by omega)
  rw [Nat.div_add_mod] at this
  exact this
theorem rk_mod (ok : OKm m) {k : Nat} (hk : k < mN m) {bub : Bool} : rkN m bub k % 32 = k := by
  have hn := came_le ok
  unfold rkN
  split <;> omega
theorem c_lineUp_L (ok : OKm m) (hq : q0 + 1 < b ∨ b + 8 < q0) {bub : Bool} (n : Nat) : ∀ (k fu : Nat) (τ : Sto), k + n = mN m → n < fu → BX τ b m → LNE q0 (fun k => nI (rkN m bub k)) (ordL m bub k) τ →
    ∃ ρ, fX0_lineUp_L7 q0 b (kb bub) fu (nI k) τ = some ρ ∧ BX ρ b m ∧ LNE q0 (fun k => nI (rkN m bub k)) (mOrd m bub) ρ ∧ ∀ p, p ≠ q0 → p ≠ q0 + 1 → ρ p = τ p := by
  have hn := came_le ok
  induction n with
  | zero =>
    intro k fu τ hk hf hB hL
    match fu, hf with
    | fu + 1, _ =>
      have : k = mN m := by omega
      subst this
      rw [fX0_lineUp_L7.eq_2, bx8 hB, came_eq ok, if_pos (by grind)]
      exact ⟨τ, rfl, hB, hL, fun _ _ _ => rfl⟩
  | succ n ih =>
    intro k fu τ hk hf hB hL
    match fu, hf with
    | fu + 1, hf =>
      have hkN : k < mN m := by omega
      rw [fX0_lineUp_L7.eq_2, bx8 hB, came_eq ok, if_neg (by rw [dI_le (by omega) (by omega)]; omega), c_kindOf ok hB hkN, Option.bind_some]
      simp only [fX0_lineUp_L51, fX0_lineUp_L56, fX0_lineUp_L82, nI_add1]
      have hno : sel m bub k = false → ∃ ρ, fX0_lineUp_L7 q0 b (kb bub) fu (nI (k + 1)) τ = some ρ ∧ BX ρ b m ∧ LNE q0 (fun k => nI (rkN m bub k)) (mOrd m bub) ρ ∧ ∀ p, p ≠ q0 → p ≠ q0 + 1 → ρ p = τ p := by
        intro hs
        refine ih (k + 1) fu τ (by omega) (by omega) hB ?_
        rw [ordL.eq_2, hs, if_neg Bool.false_ne_true]
        exact hL
      have hyes : (if bub = true then decide (mC m k 0 = 2) else decide (mC m k 0 = 0) || decide (mC m k 0 = 1)) = true → ∃ ρ, ((fX5_cellOf b (nI k) τ).bind fun r5 => if r5 = -1 then fX0_lineUp_L7 q0 b (kb bub) fu (nI (k + 1)) τ else (fX0_rankOf b (nI k) (kb bub) τ).bind fun r8 => (fX0_insert q0 r8 τ).bind fun r11 => fX0_lineUp_L7 q0 b (kb bub) fu (nI (k + 1)) r11) = some ρ ∧ BX ρ b m ∧ LNE q0 (fun k => nI (rkN m bub k)) (mOrd m bub) ρ ∧ ∀ p, p ≠ q0 → p ≠ q0 + 1 → ρ p = τ p := by
        intro hkind
        rw [c_cellOf ok hB hkN, Option.bind_some]
        by_cases hi : mC m k 6 = 1
        · have hs : sel m bub k = true := by unfold sel; rw [hkind, decide_eq_true hi]; rfl
          rw [if_neg (fun c => (mCell_no ok hkN).1 c hi), c_rank ok hB hkN hi, Option.bind_some]
          have hlen := ordL_len m bub k
          obtain ⟨ρ, g1, g2, g3⟩ := c_insert (enc := fun k => nI (rkN m bub k)) (gt := gtF m bub k) (k := k) (by omega) (fun i hi' => by
            have hm := ordL_mem m bub k _ (getD_mem hi')
            have hia := sel_in hm.2
            rw [dI_le (by have := rk_lt ok (show (ordL m bub k).getD i 0 < mN m by omega) hia (bub := bub); omega) (by have := rk_lt ok hkN hi (bub := bub); omega)]
            exact rk_gt ok hkN hi hm.1 hia) hL
          rw [g1, Option.bind_some]
          obtain ⟨ρ', f1, f2, f3, f4⟩ := ih (k + 1) fu ρ (by omega) (by omega) (bx_frame hB (fun p h1 h2 => g3 p (by omega) (by omega))) (by rw [ordL.eq_2, hs, if_pos rfl]; exact g2)
          exact ⟨ρ', f1, f2, f3, fun p p1 p2 => by rw [f4 p p1 p2, g3 p p1 p2]⟩
        · rw [if_pos ((mCell_no ok hkN).2 hi)]
          exact hno (by unfold sel; rw [decide_eq_false hi]; rfl)
      have hkno : (if bub = true then decide (mC m k 0 = 2) else decide (mC m k 0 = 0) || decide (mC m k 0 = 1)) = false → sel m bub k = false := by
        intro h; unfold sel; rw [h, Bool.and_false]
      cases bub with
      | false =>
        rw [if_pos (show kb false = 0 from rfl)]
        by_cases h0 : mC m k 0 = 0
        · rw [if_pos h0, if_neg (show ¬ (1 : Int32) = 0 by decide)]
          exact hyes (by rw [if_neg Bool.false_ne_true, decide_eq_true h0]; rfl)
        · rw [if_neg h0]
          by_cases h1 : mC m k 0 = 1
          · rw [if_pos h1, if_neg (show ¬ (1 : Int32) = 0 by decide)]
            exact hyes (by rw [if_neg Bool.false_ne_true, decide_eq_true h1, Bool.or_true])
          · rw [if_neg h1, if_pos trivial]
            exact hno (hkno (by rw [if_neg Bool.false_ne_true, decide_eq_false h0, decide_eq_false h1]; rfl))
      | true =>
        rw [if_neg (show ¬ kb true = 0 by decide)]
        by_cases h2 : mC m k 0 = 2
        · rw [if_pos h2, if_neg (show ¬ (1 : Int32) = 0 by decide)]
          exact hyes (by rw [if_pos rfl, decide_eq_true h2])
        · rw [if_neg h2, if_pos trivial]
          exact hno (hkno (by rw [if_pos rfl, decide_eq_false h2]))
theorem c_lineUp (ok : OKm m) (hq : q0 + 1 < b ∨ b + 8 < q0) {bub : Bool} (h : BX σ b m) : ∃ ρ, fX0_lineUp q0 b (kb bub) σ = some ρ ∧ BX ρ b m ∧ LNE q0 (fun k => nI (rkN m bub k)) (mOrd m bub) ρ ∧ ∀ p, p ≠ q0 → p ≠ q0 + 1 → ρ p = σ p := by
  unfold fX0_lineUp
  rw [klet_eq]
  have hn := came_le ok
  obtain ⟨ρ, f1, f2, f3, f4⟩ := c_lineUp_L ok hq (bub := bub) (mN m) 0 kFU (su σ q0 1 0) (by omega) (by unfold kFU; omega) (bx_frame h (fun p h1 h2 => su_k (by omega))) ⟨su_eq, fun i hi => absurd hi (by unfold ordL; simp)⟩
  exact ⟨ρ, f1, f2, f3, fun p p1 p2 => by rw [f4 p p1 p2, su_k p1]⟩
end CO
