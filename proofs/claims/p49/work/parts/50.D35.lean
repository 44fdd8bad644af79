/-! the Model's tokens -/
section MTK
variable {σ : Sto} {B : Nat → Int32} {L p : Nat}
def TM (B : Nat → Int32) (L : Nat) (σ : Sto) : Prop := L ≤ 600 ∧ σ 133 21 = nI L ∧ ∀ i, i < L → σ 149 i = B i
def mT (t : Int32) : Int32 := if t = 0 then 0 else if t = 1 then 1 else if t = 2 then 2 else if t = 5 then 4 else 3
def TKM (B : Nat → Int32) (L p : Nat) (τ : Sto) : Prop := τ 133 22 = nI (tkE B L p) ∧ τ 133 23 = nI (tkS B L p) ∧ τ 133 24 = mT (tkT B L p) ∧ (tkT B L p = 2 → τ 133 25 = tkV B L p)
def F22 (σ τ : Sto) : Prop := (∀ q, q ≠ 133 → τ q = σ q) ∧ ∀ i, (i < 22 ∨ 25 < i) → τ 133 i = σ 133 i
theorem f22_refl : F22 σ σ := ⟨fun _ _ => rfl, fun _ _ => rfl⟩
theorem f22_trans {τ ρ : Sto} (h : F22 σ τ) (h' : F22 τ ρ) : F22 σ ρ := ⟨fun q hq => by rw [h'.1 q hq, h.1 q hq], fun i hi => by rw [h'.2 i hi, h.2 i hi]⟩
theorem f22_su {i : Nat} {v : Int32} (hi : 22 ≤ i ∧ i ≤ 25) : F22 σ (su σ 133 i v) := ⟨fun q hq => su_k hq, fun j hj => su_i (by omega)⟩
theorem tm_22 {τ : Sto} (h : TM B L σ) (hf : F22 σ τ) : TM B L τ := ⟨h.1, by rw [hf.2 21 (by omega)]; exact h.2.1, fun i hi => by rw [hf.1 149 (by decide)]; exact h.2.2 i hi⟩
theorem m_byteAt (h : TM B L σ) {i : Nat} (hi : i < 2147483648) : fX7_byteAt (nI i) σ = some (if i < L then B i else -1) := by
  have hL := h.1
  unfold fX7_byteAt
  rw [h.2.1]
  by_cases c : i < L
  · rw [if_neg (show ¬ nI L ≤ nI i by rw [dI_le (by omega) hi]; omega), if_pos (kin_nI (by omega) (by decide)), nI_n hi, h.2.2 i c, if_pos c]
  · rw [if_pos (show nI L ≤ nI i by rw [dI_le (by omega) hi]; omega), if_neg c]
theorem nm_eq (v b : Int32) : (if ((10 * v) + b) - 48 < 1000 then ((10 * v) + b) - 48 else 1000) = nmS v b := by
  unfold nmS
  rw [Int32.mul_comm 10 v]
  by_cases h : 1000 < v * 10 + b - 48
  · rw [if_pos h, if_neg (by grind)]
  · rw [if_neg h]
    by_cases h' : v * 10 + b - 48 < 1000
    · rw [if_pos h']
    · rw [if_neg h']
      grind
theorem m_dig_L (hB : BY B L) (n : Nat) : ∀ (i fu : Nat) (v : Int32) (τ : Sto), i + n = L → n < fu → TM B L τ → τ 133 22 = nI i → τ 133 25 = v → ∃ ρ, fX7_scans_L126 fu τ = some ρ ∧ ρ 133 22 = nI (rnN B 2 n i) ∧ ρ 133 24 = 2 ∧ ρ 133 25 = nmN B (rnN B 2 n i - i) i v ∧ F22 τ ρ ∧ ρ 133 23 = τ 133 23 := by
  induction n with
  | zero =>
    intro i fu v τ hi hf hT h22 h25
    have hL := hT.1
    match fu, hf with
    | fu + 1, _ =>
      have hnd : fX7_isIn (-1) 48 57 = false := by decide
      rw [fX7_scans_L126.eq_2, h22]
      unfold fX7_isDigit
      rw [m_byteAt hT (by omega), if_neg (by omega), Option.bind_some, Option.bind_some, hnd, if_neg Bool.false_ne_true, klet_eq]
      have e : rnN B 2 0 i = i := rfl
      rw [e, Nat.sub_self]
      exact ⟨_, rfl, by rw [su_i (by decide)]; exact h22, su_eq, by rw [su_i (by decide)]; exact h25, f22_su (by decide), su_i (by decide)⟩
  | succ n ih =>
    intro i fu v τ hi hf hT h22 h25
    have hL := hT.1
    match fu, hf with
    | fu + 1, hf =>
      have hb := tok_b (hB i (by omega))
      have e : rnN B 2 (n + 1) i = if fX4_tokenOf (B i) = 2 then rnN B 2 n (i + 1) else i := rfl
      rw [fX7_scans_L126.eq_2, h22]
      have hd : fX7_isDigit (nI i) τ = some (fX7_isIn (B i) 48 57) := by
        unfold fX7_isDigit
        rw [m_byteAt hT (by omega), if_pos (by omega), Option.bind_some]
      rw [hd, Option.bind_some, e]
      cases c : fX7_isIn (B i) 48 57 with
      | true =>
        have ht := hb.2.2.1.1 c
        rw [if_pos rfl, if_pos (kin_nI (by omega) (by decide)), klet_eq, klet_eq, h25, nI_n (by omega), hT.2.2 i (by omega), nm_eq, su_i (show 22 ≠ 25 by decide), h22, nI_add1, if_pos ht]
        obtain ⟨ρ, e1, a, b, d, f, g⟩ := ih (i + 1) fu (nmS v (B i)) (su (su τ 133 25 (nmS v (B i))) 133 22 (nI (i + 1))) (by omega) (by omega) (tm_22 hT (f22_trans (f22_su (by decide)) (f22_su (by decide)))) su_eq (by rw [su_i (by decide), su_eq])
        have hr := @rnN_le B 2 n (i + 1)
        have en : rnN B 2 n (i + 1) - i = (rnN B 2 n (i + 1) - (i + 1)) + 1 := by omega
        refine ⟨ρ, e1, a, b, ?_, f22_trans (f22_trans (f22_su (by decide)) (f22_su (by decide))) f, by rw [g, su_i (by decide), su_i (by decide)]⟩
        rw [d, en]
        rfl
      | false =>
        have ht : ¬ fX4_tokenOf (B i) = 2 := fun q => by rw [hb.2.2.1.2 q] at c; cases c
        rw [if_neg Bool.false_ne_true, klet_eq, if_neg ht, Nat.sub_self]
        exact ⟨_, rfl, by rw [su_i (by decide)]; exact h22, su_eq, by rw [su_i (by decide)]; exact h25, f22_su (by decide), su_i (by decide)⟩
theorem m_let_L (hB : BY B L) (n : Nat) : ∀ (i fu : Nat) (τ : Sto), i + n = L → n < fu → TM B L τ → τ 133 22 = nI i → ∃ ρ, fX7_scans_L78 fu τ = some ρ ∧ ρ 133 22 = nI (rnN B 1 n i) ∧ ρ 133 24 = 1 ∧ F22 τ ρ ∧ ρ 133 23 = τ 133 23 := by
  induction n with
  | zero =>
    intro i fu τ hi hf hT h22
    have hL := hT.1
    match fu, hf with
    | fu + 1, _ =>
      have hnd : fX7_isIn (-1) 97 122 = false := by decide
      rw [fX7_scans_L78.eq_2, h22]
      unfold fX7_isLetter
      rw [m_byteAt hT (by omega), if_neg (by omega), Option.bind_some, Option.bind_some, hnd, if_neg Bool.false_ne_true, klet_eq]
      exact ⟨_, rfl, by rw [su_i (by decide)]; exact h22, su_eq, f22_su (by decide), su_i (by decide)⟩
  | succ n ih =>
    intro i fu τ hi hf hT h22
    have hL := hT.1
    match fu, hf with
    | fu + 1, hf =>
      have hb := tok_b (hB i (by omega))
      have e : rnN B 1 (n + 1) i = if fX4_tokenOf (B i) = 1 then rnN B 1 n (i + 1) else i := rfl
      rw [fX7_scans_L78.eq_2, h22]
      have hd : fX7_isLetter (nI i) τ = some (fX7_isIn (B i) 97 122) := by
        unfold fX7_isLetter
        rw [m_byteAt hT (by omega), if_pos (by omega), Option.bind_some]
      rw [hd, Option.bind_some, e]
      cases c : fX7_isIn (B i) 97 122 with
      | true =>
        have ht := hb.2.1.1 c
        rw [if_pos rfl, klet_eq, nI_add1, if_pos ht]
        obtain ⟨ρ, e1, a, b, f, g⟩ := ih (i + 1) fu (su τ 133 22 (nI (i + 1))) (by omega) (by omega) (tm_22 hT (f22_su (by decide))) su_eq
        exact ⟨ρ, e1, a, b, f22_trans (f22_su (by decide)) f, by rw [g, su_i (by decide)]⟩
      | false =>
        have ht : ¬ fX4_tokenOf (B i) = 1 := fun q => by rw [hb.2.1.2 q] at c; cases c
        rw [if_neg Bool.false_ne_true, klet_eq, if_neg ht]
        exact ⟨_, rfl, by rw [su_i (by decide)]; exact h22, su_eq, f22_su (by decide), su_i (by decide)⟩
/-- behind the blanks -/
def scT (σ : Sto) : Option Sto :=
  klet (su σ 133 23 (σ 133 22)) fun σ8 =>
  (fX7_byteAt (σ8 133 22) σ8).bind fun r9 =>
  if r9 = (-1) then
    klet (su σ8 133 24 0) fun σ36 =>
    some σ36
  else
    (fX7_isLetter (σ8 133 22) σ8).bind fun r12 =>
    if r12 = true then
      fX7_scans_L78 kFU σ8
    else
      (fX7_isDigit (σ8 133 22) σ8).bind fun r15 =>
      if r15 = true then
        klet (su σ8 133 25 0) fun σ24 =>
        fX7_scans_L126 kFU σ24
      else
        if kin (σ8 133 22) 600 = true then
          if (σ8 149 (σ8 133 22).toNatClampNeg) = 59 then
            klet (su σ8 133 24 3) fun σ18 =>
            klet (su σ18 133 22 ((σ18 133 22) + 1)) fun σ19 =>
            some σ19
          else
            if kin (σ8 133 22) 600 = true then
              if (σ8 149 (σ8 133 22).toNatClampNeg) = 45 then
                klet (su σ8 133 24 3) fun σ22 =>
                klet (su σ22 133 22 ((σ22 133 22) + 1)) fun σ23 =>
                some σ23
              else
                klet (su σ8 133 24 4) fun σ20 =>
                klet (su σ20 133 22 ((σ20 133 22) + 1)) fun σ21 =>
                some σ21
            else none
        else none
theorem m_sc_0 (n : Nat) : ∀ (i fu : Nat) (τ : Sto), i + n = L → n < fu → TM B L τ → τ 133 22 = nI i → ∃ ρ, fX7_scans_L0 fu τ = scT ρ ∧ ρ 133 22 = nI (skN B n i) ∧ F22 τ ρ := by
  induction n with
  | zero =>
    intro i fu τ hi hf hT h22
    have hL := hT.1
    match fu, hf with
    | fu + 1, _ =>
      refine ⟨τ, ?_, h22, f22_refl⟩
      rw [fX7_scans_L0.eq_2]
      unfold scT
      rw [h22, m_byteAt hT (by omega), if_neg (by omega), Option.bind_some, if_neg (show ¬ (-1 : Int32) = 32 by decide), Option.bind_some, if_neg (show ¬ (-1 : Int32) = 10 by decide)]
  | succ n ih =>
    intro i fu τ hi hf hT h22
    have hL := hT.1
    match fu, hf with
    | fu + 1, hf =>
      have e : skN B (n + 1) i = if tBl (B i) = true then skN B n (i + 1) else i := rfl
      have go : fX7_scans_L26 (fX7_scans_L0 fu) τ = fX7_scans_L0 fu (su τ 133 22 (nI (i + 1))) := by
        unfold fX7_scans_L26
        rw [klet_eq, h22, nI_add1]
      obtain ⟨ρ, e1, a, b⟩ := ih (i + 1) fu (su τ 133 22 (nI (i + 1))) (by omega) (by omega) (tm_22 hT (f22_su (by decide))) su_eq
      rw [e]
      unfold tBl
      by_cases c : B i = 32
      · rw [decide_eq_true c, Bool.true_or, if_pos rfl]
        refine ⟨ρ, ?_, a, f22_trans (f22_su (by decide)) b⟩
        rw [fX7_scans_L0.eq_2, h22, m_byteAt hT (by omega), if_pos (by omega), Option.bind_some, if_pos c, go, e1]
      · rw [decide_eq_false c, Bool.false_or]
        by_cases d : B i = 10
        · rw [decide_eq_true d, if_pos rfl]
          refine ⟨ρ, ?_, a, f22_trans (f22_su (by decide)) b⟩
          rw [fX7_scans_L0.eq_2, h22, m_byteAt hT (by omega), if_pos (by omega), Option.bind_some, if_neg c, Option.bind_some, if_pos d, go, e1]
        · rw [decide_eq_false d, if_neg Bool.false_ne_true]
          refine ⟨τ, ?_, h22, f22_refl⟩
          rw [fX7_scans_L0.eq_2]
          unfold scT
          rw [h22, m_byteAt hT (by omega), if_pos (by omega), Option.bind_some, if_neg c, Option.bind_some, if_neg d]
theorem m_scans (hB : BY B L) (hT : TM B L σ) (h22 : σ 133 22 = nI p) (hp : p ≤ L) : ∃ τ, fX7_scans σ = some τ ∧ TKM B L p τ ∧ F22 σ τ := by
  have hL := hT.1
  have hs := @tkS_le B L p hp
  have hE := @tkE_le B L p hp
  unfold fX7_scans
  obtain ⟨ρ, e1, a, b⟩ := m_sc_0 (L - p) p kFU σ (by omega) (by unfold kFU; omega) hT h22
  have a' : ρ 133 22 = nI (tkS B L p) := a
  rw [e1]
  unfold scT
  have hT1 : TM B L (su ρ 133 23 (nI (tkS B L p))) := tm_22 hT (f22_trans b (f22_su (by decide)))
  have f1 : F22 σ (su ρ 133 23 (nI (tkS B L p))) := f22_trans b (f22_su (by decide))
  have g22 : su ρ 133 23 (nI (tkS B L p)) 133 22 = nI (tkS B L p) := by rw [su_i (by decide), a']
  have g23 : su ρ 133 23 (nI (tkS B L p)) 133 23 = nI (tkS B L p) := su_eq
  rw [klet_eq, a', g22, m_byteAt hT1 (by omega), Option.bind_some]
  by_cases c : tkS B L p < L
  · have hb := tok_b (hB (tkS B L p) c)
    have et : tkT B L p = fX4_tokenOf (B (tkS B L p)) := by unfold tkT; rw [if_neg (by omega)]
    have ee : tkE B L p = if fX4_isRun (tkT B L p) = true then rnN B (tkT B L p) (L - (tkS B L p + 1)) (tkS B L p + 1) else tkS B L p + 1 := by
      conv => lhs; unfold tkE
      rw [if_neg (by omega)]
    have hl : fX7_isLetter (nI (tkS B L p)) (su ρ 133 23 (nI (tkS B L p))) = some (fX7_isIn (B (tkS B L p)) 97 122) := by
      unfold fX7_isLetter
      rw [m_byteAt hT1 (by omega), if_pos c, Option.bind_some]
    have hd : fX7_isDigit (nI (tkS B L p)) (su ρ 133 23 (nI (tkS B L p))) = some (fX7_isIn (B (tkS B L p)) 48 57) := by
      unfold fX7_isDigit
      rw [m_byteAt hT1 (by omega), if_pos c, Option.bind_some]
    have rn1 : ∀ t, fX4_tokenOf (B (tkS B L p)) = t → rnN B t (L - tkS B L p) (tkS B L p) = rnN B t (L - (tkS B L p + 1)) (tkS B L p + 1) := fun t ht => by
      rw [show L - tkS B L p = (L - (tkS B L p + 1)) + 1 by omega]
      show (if fX4_tokenOf (B (tkS B L p)) = t then _ else _) = _
      rw [if_pos ht]
    rw [if_pos c, if_neg hb.2.2.2.2.2, hl, Option.bind_some]
    cases c1 : fX7_isIn (B (tkS B L p)) 97 122 with
    | true =>
      have h1 := hb.2.1.1 c1
      rw [if_pos rfl]
      obtain ⟨κ, e2, k1, k2, k3, k4⟩ := m_let_L hB (L - tkS B L p) (tkS B L p) kFU _ (by omega) (by unfold kFU; omega) hT1 g22
      refine ⟨κ, e2, ⟨?_, by rw [k4, g23], by rw [k2, et, h1]; rfl, fun q => absurd (q.symm.trans (et.trans h1)) (by decide)⟩, f22_trans f1 k3⟩
      rw [k1, ee, et, h1, if_pos (by decide), rn1 1 h1]
    | false =>
      have n1 : ¬ fX4_tokenOf (B (tkS B L p)) = 1 := fun q => by rw [hb.2.1.2 q] at c1; cases c1
      rw [if_neg Bool.false_ne_true, hd, Option.bind_some]
      cases c2 : fX7_isIn (B (tkS B L p)) 48 57 with
      | true =>
        have h2 := hb.2.2.1.1 c2
        rw [if_pos rfl, klet_eq]
        obtain ⟨κ, e2, k1, k2, k3, k4, k5⟩ := m_dig_L hB (L - tkS B L p) (tkS B L p) kFU 0 (su (su ρ 133 23 (nI (tkS B L p))) 133 25 0) (by omega) (by unfold kFU; omega) (tm_22 hT1 (f22_su (by decide))) (by rw [su_i (by decide), g22]) su_eq
        have er : rnN B 2 (L - tkS B L p) (tkS B L p) = tkE B L p := by rw [ee, et, h2, if_pos (by decide), rn1 2 h2]
        refine ⟨κ, e2, ⟨by rw [k1, er], by rw [k5, su_i (by decide), g23], by rw [k2, et, h2]; rfl, fun _ => ?_⟩, f22_trans f1 (f22_trans (f22_su (by decide)) k4)⟩
        rw [k3, er]
        rfl
      | false =>
        have n2 : ¬ fX4_tokenOf (B (tkS B L p)) = 2 := fun q => by rw [hb.2.2.1.2 q] at c2; cases c2
        have kn : kin (nI (tkS B L p)) 600 = true := kin_nI (by omega) (by decide)
        have er : tkE B L p = tkS B L p + 1 := by
          rw [ee, et]
          have : fX4_isRun (fX4_tokenOf (B (tkS B L p))) = false := by
            unfold fX4_isRun
            rw [if_neg n1, if_neg n2]
          rw [this, if_neg Bool.false_ne_true]
        have n22 : ¬ tkT B L p = 2 := fun q => n2 (et.symm.trans q)
        rw [if_neg Bool.false_ne_true, if_pos kn, nI_n (by omega), hT1.2.2 _ c]
        by_cases c4 : B (tkS B L p) = 59
        · have h4 := hb.2.2.2.2.1.1 c4
          rw [if_pos c4, klet_eq, klet_eq, su_i (show 22 ≠ 24 by decide), g22, nI_add1]
          exact ⟨_, rfl, ⟨by rw [su_eq, er], by rw [su_i (by decide), su_i (by decide), g23], by rw [su_i (by decide), su_eq, et, h4]; rfl, fun q => absurd q n22⟩, f22_trans f1 (f22_trans (f22_su (by decide)) (f22_su (by decide)))⟩
        · rw [if_neg c4, if_pos kn]
          by_cases c3 : B (tkS B L p) = 45
          · have h3 := hb.2.2.2.1.1 c3
            rw [if_pos c3, klet_eq, klet_eq, su_i (show 22 ≠ 24 by decide), g22, nI_add1]
            exact ⟨_, rfl, ⟨by rw [su_eq, er], by rw [su_i (by decide), su_i (by decide), g23], by rw [su_i (by decide), su_eq, et, h3]; rfl, fun q => absurd q n22⟩, f22_trans f1 (f22_trans (f22_su (by decide)) (f22_su (by decide)))⟩
          · have h5 : fX4_tokenOf (B (tkS B L p)) = 5 := by
              rcases hb.1 with q | q | q | q | q
              · exact absurd q n1
              · exact absurd q n2
              · exact absurd (hb.2.2.2.1.2 q) c3
              · exact absurd (hb.2.2.2.2.1.2 q) c4
              · exact q
            rw [if_neg c3, klet_eq, klet_eq, su_i (show 22 ≠ 24 by decide), g22, nI_add1]
            exact ⟨_, rfl, ⟨by rw [su_eq, er], by rw [su_i (by decide), su_i (by decide), g23], by rw [su_i (by decide), su_eq, et, h5]; rfl, fun q => absurd q n22⟩, f22_trans f1 (f22_trans (f22_su (by decide)) (f22_su (by decide)))⟩
  · have et : tkT B L p = 0 := by unfold tkT; rw [if_pos (by omega)]
    have ee : tkE B L p = tkS B L p := by unfold tkE; rw [if_pos (by omega)]
    rw [if_neg c, if_pos rfl, klet_eq]
    exact ⟨_, rfl, ⟨by rw [su_i (by decide), g22, ee], by rw [su_i (by decide), g23], by rw [su_eq, et]; rfl, fun q => absurd (q.symm.trans et) (by decide)⟩, f22_trans f1 (f22_su (by decide))⟩
end MTK
