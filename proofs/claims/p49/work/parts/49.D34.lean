/-- the tokens of a text: its bytes B, its length L -/
def tBl (b : Int32) : Bool := decide (b = 32) || decide (b = 10)
def skN (B : Nat → Int32) : Nat → Nat → Nat
  | 0, p => p
  | n + 1, p => if tBl (B p) = true then skN B n (p + 1) else p
def rnN (B : Nat → Int32) (t : Int32) : Nat → Nat → Nat
  | 0, p => p
  | n + 1, p => if fX4_tokenOf (B p) = t then rnN B t n (p + 1) else p
def nmS (v b : Int32) : Int32 := if 1000 < v * 10 + b - 48 then 1000 else v * 10 + b - 48
def nmN (B : Nat → Int32) : Nat → Nat → Int32 → Int32
  | 0, _, v => v
  | n + 1, i, v => nmN B n (i + 1) (nmS v (B i))
def tkS (B : Nat → Int32) (L p : Nat) : Nat := skN B (L - p) p
def tkT (B : Nat → Int32) (L p : Nat) : Int32 := if L ≤ tkS B L p then 0 else fX4_tokenOf (B (tkS B L p))
def tkE (B : Nat → Int32) (L p : Nat) : Nat := if L ≤ tkS B L p then tkS B L p else if fX4_isRun (tkT B L p) = true then rnN B (tkT B L p) (L - (tkS B L p + 1)) (tkS B L p + 1) else tkS B L p + 1
def tkV (B : Nat → Int32) (L p : Nat) : Int32 := nmN B (tkE B L p - tkS B L p) (tkS B L p) 0
section TK
variable {B : Nat → Int32} {L p : Nat}
theorem skN_le (n : Nat) : ∀ p, p ≤ skN B n p ∧ skN B n p ≤ p + n := by
  induction n with
  | zero => intro p; exact ⟨Nat.le_refl _, Nat.le_refl _⟩
  | succ n ih =>
    intro p
    unfold skN
    by_cases h : tBl (B p) = true
    · rw [if_pos h]; have := ih (p + 1); omega
    · rw [if_neg h]; omega
theorem rnN_le {t : Int32} (n : Nat) : ∀ p, p ≤ rnN B t n p ∧ rnN B t n p ≤ p + n := by
  induction n with
  | zero => intro p; exact ⟨Nat.le_refl _, Nat.le_refl _⟩
  | succ n ih =>
    intro p
    unfold rnN
    by_cases h : fX4_tokenOf (B p) = t
    · rw [if_pos h]; have := ih (p + 1); omega
    · rw [if_neg h]; omega
theorem tkS_le (hp : p ≤ L) : p ≤ tkS B L p ∧ tkS B L p ≤ L := by
  have := @skN_le B (L - p) p
  unfold tkS
  omega
theorem tkE_le (hp : p ≤ L) : tkS B L p ≤ tkE B L p ∧ tkE B L p ≤ L ∧ (tkS B L p < L → tkS B L p < tkE B L p) := by
  have h := @tkS_le B L p hp
  unfold tkE
  by_cases h1 : L ≤ tkS B L p
  · rw [if_pos h1]; omega
  · rw [if_neg h1]
    by_cases h2 : fX4_isRun (tkT B L p) = true
    · rw [if_pos h2]
      have := @rnN_le B (tkT B L p) (L - (tkS B L p + 1)) (tkS B L p + 1)
      omega
    · rw [if_neg h2]; omega
/-- bytes -/
def BY (B : Nat → Int32) (L : Nat) : Prop := ∀ i, i < L → 0 ≤ B i ∧ B i ≤ 255
theorem tok_fin : ∀ i, i < 256 → (fX4_tokenOf (nI i) = 1 ∨ fX4_tokenOf (nI i) = 2 ∨ fX4_tokenOf (nI i) = 3 ∨ fX4_tokenOf (nI i) = 4 ∨ fX4_tokenOf (nI i) = 5) ∧ (fX7_isIn (nI i) 97 122 = true ↔ fX4_tokenOf (nI i) = 1) ∧ (fX7_isIn (nI i) 48 57 = true ↔ fX4_tokenOf (nI i) = 2) ∧ (nI i = 45 ↔ fX4_tokenOf (nI i) = 3) ∧ (nI i = 59 ↔ fX4_tokenOf (nI i) = 4) ∧ nI i ≠ -1 := by decide +kernel
theorem tok_b {b : Int32} (h : 0 ≤ b ∧ b ≤ 255) : (fX4_tokenOf b = 1 ∨ fX4_tokenOf b = 2 ∨ fX4_tokenOf b = 3 ∨ fX4_tokenOf b = 4 ∨ fX4_tokenOf b = 5) ∧ (fX7_isIn b 97 122 = true ↔ fX4_tokenOf b = 1) ∧ (fX7_isIn b 48 57 = true ↔ fX4_tokenOf b = 2) ∧ (b = 45 ↔ fX4_tokenOf b = 3) ∧ (b = 59 ↔ fX4_tokenOf b = 4) ∧ b ≠ -1 := by
  have h1 : b < nI 256 := by rw [show nI 256 = 256 from rfl]; have := h.2; grind
  have h2 := i32_n h.1 h1 (by decide)
  have := tok_fin _ h2
  rw [i32_nI h.1] at this
  exact this
theorem tkT_0 (hp : p ≤ L) (hB : BY B L) : tkT B L p = 0 ↔ tkS B L p = L := by
  have h := @tkS_le B L p hp
  unfold tkT
  by_cases h1 : L ≤ tkS B L p
  · rw [if_pos h1]; exact ⟨fun _ => by omega, fun _ => rfl⟩
  · rw [if_neg h1]
    refine ⟨fun c => ?_, fun c => absurd c (by omega)⟩
    have := (tok_b (hB (tkS B L p) (by omega))).1
    rw [c] at this
    exact absurd this (by decide)
end TK
/-! the class's tokens -/
section CTK
variable {σ : Sto} {B : Nat → Int32} {L p : Nat}
def TC (B : Nat → Int32) (L : Nat) (σ : Sto) : Prop := L ≤ 600 ∧ σ 5 1 = nI L ∧ ∀ i, i < L → σ 6 i = B i
def TKC (B : Nat → Int32) (L p : Nat) (τ : Sto) : Prop := τ 5 4 = tkT B L p ∧ τ 5 5 = nI (tkS B L p) ∧ τ 5 6 = nI (tkE B L p) ∧ (tkT B L p = 2 → τ 5 7 = tkV B L p)
def F5 (σ τ : Sto) : Prop := (∀ q, q ≠ 5 → τ q = σ q) ∧ ∀ i, i < 4 → τ 5 i = σ 5 i
theorem f5_refl : F5 σ σ := ⟨fun _ _ => rfl, fun _ _ => rfl⟩
theorem f5_trans {τ ρ : Sto} (h : F5 σ τ) (h' : F5 τ ρ) : F5 σ ρ := ⟨fun q hq => by rw [h'.1 q hq, h.1 q hq], fun i hi => by rw [h'.2 i hi, h.2 i hi]⟩
theorem f5_su {i : Nat} {v : Int32} (hi : 4 ≤ i) : F5 σ (su σ 5 i v) := ⟨fun q hq => su_k hq, fun j hj => su_i (by omega)⟩
theorem tc_5 {τ : Sto} (h : TC B L σ) (hf : F5 σ τ) : TC B L τ := ⟨h.1, by rw [hf.2 1 (by decide)]; exact h.2.1, fun i hi => by rw [hf.1 6 (by decide)]; exact h.2.2 i hi⟩
theorem c_byteAt (h : TC B L σ) {i : Nat} (hi : i < 2147483648) : fX4_byteAt 5 (nI i) σ = some (if i < L then B i else -1) := by
  have h0 := @nI_lt0 i hi
  have hL := h.1
  unfold fX4_byteAt
  rw [if_neg (show ¬ nI i < 0 by grind), h.2.1]
  by_cases c : i < L
  · rw [if_neg (show ¬ nI L ≤ nI i by rw [dI_le (by omega) hi]; omega), if_neg (show ¬ (600 : Int32) ≤ nI i by rw [show (600 : Int32) = nI 600 from rfl, dI_le (by omega) hi]; omega), if_pos (kin_nI (by omega) (by decide)), nI_n hi, h.2.2 i c, if_pos c]
  · rw [if_pos (show nI L ≤ nI i by rw [dI_le (by omega) hi]; omega), if_neg c]
theorem blank_b (b : Int32) : fX4_isBlank b = tBl b := by
  unfold fX4_isBlank tBl
  by_cases h : b = 32
  · rw [if_pos h, decide_eq_true h, Bool.true_or]
  · rw [if_neg h, decide_eq_false h, Bool.false_or]
    by_cases h' : b = 10
    · rw [if_pos h', decide_eq_true h']
    · rw [if_neg h', decide_eq_false h']
theorem c_num_L {e : Nat} (he : e ≤ L) (n : Nat) : ∀ (i fu : Nat) (v : Int32) (τ : Sto), i + n = e → n < fu → TC B L τ → τ 5 6 = nI e → τ 5 7 = v → ∃ ρ, fX4_readNumber_L10 5 fu (nI i) τ = some ρ ∧ ρ 5 7 = nmN B n i v ∧ (∀ q, q ≠ 5 → ρ q = τ q) ∧ ∀ j, j ≠ 7 → ρ 5 j = τ 5 j := by
  induction n with
  | zero =>
    intro i fu v τ hi hf hT h6 h7
    match fu, hf with
    | fu + 1, _ =>
      rw [fX4_readNumber_L10.eq_2, h6, if_pos (by rw [show i = e by omega]; grind)]
      exact ⟨τ, rfl, h7, fun _ _ => rfl, fun _ _ => rfl⟩
  | succ n ih =>
    intro i fu v τ hi hf hT h6 h7
    have hL := hT.1
    match fu, hf with
    | fu + 1, hf =>
      rw [fX4_readNumber_L10.eq_2, h6, if_neg (by rw [dI_le (by omega) (by omega)]; omega), c_byteAt hT (by omega), if_pos (by omega), Option.bind_some, klet_eq, h7, nI_add1]
      obtain ⟨ρ, e1, a, b, c⟩ := ih (i + 1) fu (nmS v (B i)) (su τ 5 7 (nmS v (B i))) (by omega) (by omega) (tc_5 hT (f5_su (by decide))) (by rw [su_i (by decide)]; exact h6) su_eq
      exact ⟨ρ, e1, a, fun q hq => by rw [b q hq, su_k hq], fun j hj => by rw [c j hj, su_i hj]⟩
theorem c_next_97 {s e : Nat} {t : Int32} {τ : Sto} (hs : s ≤ e) (he : e ≤ L) (hT : TC B L τ) (h4 : τ 5 4 = t) (h5 : τ 5 5 = nI s) : ∃ ρ, fX4_nextToken_L97 5 (nI e) τ = some ρ ∧ (ρ 5 4 = t ∧ ρ 5 5 = nI s ∧ ρ 5 6 = nI e ∧ (t = 2 → ρ 5 7 = nmN B (e - s) s 0)) ∧ F5 τ ρ := by
  have hL := hT.1
  unfold fX4_nextToken_L97
  rw [klet_eq, su_i (show 4 ≠ 6 by decide), h4]
  by_cases h2 : t = 2
  · rw [if_pos h2]
    unfold fX4_readNumber
    rw [klet_eq, su_i (show 5 ≠ 7 by decide), su_i (show 5 ≠ 6 by decide), h5]
    obtain ⟨ρ, e1, a, b, c⟩ := c_num_L he (e - s) s kFU 0 (su (su τ 5 6 (nI e)) 5 7 0) (by omega) (by unfold kFU; omega) (tc_5 hT (f5_trans (f5_su (by decide)) (f5_su (by decide)))) (by rw [su_i (by decide), su_eq]) su_eq
    rw [e1, Option.bind_some]
    exact ⟨ρ, rfl, ⟨by rw [c 4 (by decide), su_i (by decide), su_i (by decide), h4], by rw [c 5 (by decide), su_i (by decide), su_i (by decide), h5], by rw [c 6 (by decide), su_i (by decide), su_eq], fun _ => a⟩, ⟨fun q hq => by rw [b q hq, su_k hq, su_k hq], fun i hi => by rw [c i (by omega), su_i (by omega), su_i (by omega)]⟩⟩
  · rw [if_neg h2]
    exact ⟨_, rfl, ⟨by rw [su_i (by decide), h4], by rw [su_i (by decide), h5], su_eq, fun c => absurd c h2⟩, f5_su (by decide)⟩
theorem c_next_58 {t : Int32} {τ : Sto} (hT : TC B L τ) (h4 : τ 5 4 = t) (n : Nat) : ∀ (i fu : Nat), i + n = L → n < fu → fX4_nextToken_L58 5 fu (nI i) τ = fX4_nextToken_L97 5 (nI (if fX4_isRun t = true then rnN B t n i else i)) τ := by
  have hL := hT.1
  induction n with
  | zero =>
    intro i fu hi hf
    match fu, hf with
    | fu + 1, _ =>
      rw [fX4_nextToken_L58.eq_2, hT.2.1, if_pos (by rw [show i = L by omega]; grind)]
      have : (if fX4_isRun t = true then rnN B t 0 i else i) = i := by split <;> rfl
      rw [this]
  | succ n ih =>
    intro i fu hi hf
    match fu, hf with
    | fu + 1, hf =>
      rw [fX4_nextToken_L58.eq_2, hT.2.1, if_neg (by rw [dI_le (by omega) (by omega)]; omega), h4]
      by_cases hr : fX4_isRun t = true
      · rw [if_pos hr, if_pos hr, c_byteAt hT (by omega), if_pos (by omega), Option.bind_some]
        have e : rnN B t (n + 1) i = if fX4_tokenOf (B i) = t then rnN B t n (i + 1) else i := rfl
        rw [e]
        by_cases ht : fX4_tokenOf (B i) = t
        · rw [if_pos ht, if_pos ht, nI_add1, ih (i + 1) fu (by omega) (by omega), if_pos hr]
        · rw [if_neg ht, if_neg ht]
      · rw [if_neg hr, if_neg hr]
theorem c_next_5 (hT : TC B L σ) (n : Nat) : ∀ (i fu : Nat), i + n = L → n < fu → fX4_nextToken_L5 5 fu (nI i) σ = fX4_nextToken_L30 5 (nI (skN B n i)) σ := by
  have hL := hT.1
  induction n with
  | zero =>
    intro i fu hi hf
    match fu, hf with
    | fu + 1, _ =>
      rw [fX4_nextToken_L5.eq_2, hT.2.1, if_pos (by rw [show i = L by omega]; grind)]
      rfl
  | succ n ih =>
    intro i fu hi hf
    match fu, hf with
    | fu + 1, hf =>
      rw [fX4_nextToken_L5.eq_2, hT.2.1, if_neg (by rw [dI_le (by omega) (by omega)]; omega), c_byteAt hT (by omega), if_pos (by omega), Option.bind_some, blank_b, nI_add1]
      have e : skN B (n + 1) i = if tBl (B i) = true then skN B n (i + 1) else i := rfl
      rw [e]
      by_cases hb : tBl (B i) = true
      · rw [if_pos hb, if_pos hb, ih (i + 1) fu (by omega) (by omega)]
      · rw [if_neg hb, if_neg hb]
theorem c_next (hT : TC B L σ) (h6 : σ 5 6 = nI p) (hp : p ≤ L) : ∃ τ, fX4_nextToken 5 σ = some τ ∧ TKC B L p τ ∧ F5 σ τ := by
  have hL := hT.1
  have hs := @tkS_le B L p hp
  have hE := @tkE_le B L p hp
  unfold fX4_nextToken
  rw [h6, c_next_5 hT (L - p) p kFU (by omega) (by unfold kFU; omega)]
  show ∃ τ, fX4_nextToken_L30 5 (nI (tkS B L p)) σ = some τ ∧ _
  unfold fX4_nextToken_L30
  have hT1 : TC B L (su σ 5 5 (nI (tkS B L p))) := tc_5 hT (f5_su (by decide))
  rw [klet_eq, c_byteAt hT1 (by omega), Option.bind_some, klet_eq]
  have et : fX4_tokenOf (if tkS B L p < L then B (tkS B L p) else -1) = tkT B L p := by
    unfold tkT
    by_cases c : tkS B L p < L
    · rw [if_pos c, if_neg (by omega)]
    · rw [if_neg c, if_pos (by omega)]; rfl
  rw [et]
  have hT2 : TC B L (su (su σ 5 5 (nI (tkS B L p))) 5 4 (tkT B L p)) := tc_5 hT1 (f5_su (by decide))
  have h4 : su (su σ 5 5 (nI (tkS B L p))) 5 4 (tkT B L p) 5 4 = tkT B L p := su_eq
  have h5 : su (su σ 5 5 (nI (tkS B L p))) 5 4 (tkT B L p) 5 5 = nI (tkS B L p) := by rw [su_i (by decide), su_eq]
  have fin : ∃ τ, fX4_nextToken_L97 5 (nI (tkE B L p)) (su (su σ 5 5 (nI (tkS B L p))) 5 4 (tkT B L p)) = some τ ∧ TKC B L p τ ∧ F5 σ τ := by
    obtain ⟨ρ, e1, a, b⟩ := c_next_97 hE.1 hE.2.1 hT2 h4 h5
    exact ⟨ρ, e1, a, f5_trans (f5_trans (f5_su (by decide)) (f5_su (by decide))) b⟩
  rw [hT2.2.1]
  by_cases c : L ≤ tkS B L p
  · rw [if_pos (by rw [dI_le (by omega) (by omega)]; exact c), c_next_58 hT2 h4 0 (tkS B L p) kFU (by omega) (by unfold kFU; omega)]
    have : (if fX4_isRun (tkT B L p) = true then rnN B (tkT B L p) 0 (tkS B L p) else tkS B L p) = tkE B L p := by
      have e : tkE B L p = tkS B L p := by unfold tkE; rw [if_pos c]
      rw [e]
      split <;> rfl
    rw [this]
    exact fin
  · rw [if_neg (by rw [dI_le (by omega) (by omega)]; exact c), nI_add1, c_next_58 hT2 h4 (L - (tkS B L p + 1)) (tkS B L p + 1) kFU (by omega) (by unfold kFU; omega)]
    have : (if fX4_isRun (tkT B L p) = true then rnN B (tkT B L p) (L - (tkS B L p + 1)) (tkS B L p + 1) else tkS B L p + 1) = tkE B L p := by
      conv => rhs; unfold tkE
      rw [if_neg c]
    rw [this]
    exact fin
/-- the word t stands at p -/
def WDt (B : Nat → Int32) (L t p : Nat) : Prop := tkT B L p = 1 ∧ tkE B L p - tkS B L p = (ksby t).length ∧ ∀ i, i < (ksby t).length → B (tkS B L p + i) = ksch t (nI i)
theorem ksby_len (t : Nat) : (ksby t).length ≤ 6 := by
  unfold ksby
  have : t % 9 < 9 := Nat.mod_lt _ (by decide)
  have h9 : ∀ j, j < 9 → (([[97, 110, 103, 108, 101], [114, 97, 100, 105, 117, 115], [103, 108, 97, 115, 115], [98, 101, 97, 100], [98, 117, 98, 98, 108, 101], [112, 105, 110], [100, 111, 119, 110], [107, 101, 101, 112], [99, 111, 118, 101, 114]] : List (List Int32)).getD j []).length ≤ 6 := by decide
  exact h9 _ this
theorem c_isWord (hT : TC B L σ) (hp : p ≤ L) (h : TKC B L p σ) {t : Nat} : fX4_isWord 5 t σ = some (dB (WDt B L t p)) := by
  have hL := hT.1
  have hs := @tkS_le B L p hp
  have hE := @tkE_le B L p hp
  have hl := ksby_len t
  unfold fX4_isWord
  rw [h.1, h.2.1, h.2.2.1, nI_subn hE.1]
  by_cases c1 : tkT B L p = 1
  · rw [if_pos c1]
    by_cases c2 : tkE B L p - tkS B L p = (ksby t).length
    · rw [if_pos (by rw [c2])]
      have hb : ∀ i, i < (ksby t).length → fX4_byteAt 5 (nI (tkS B L p) + nI i) σ = some (B (tkS B L p + i)) := fun i hi => by rw [nI_addn, c_byteAt hT (by omega), if_pos (by omega)]
      have h1 := all_loop (L := fun fu i => fX4_isWord_L28 5 t fu i σ) (T := some true) (F := some false) (N := (ksby t).length) (P := fun i => B (tkS B L p + i) = ksch t (nI i)) (by omega) (fun fu i hi hq => by
        show fX4_isWord_L28 5 t (fu + 1) (nI i) σ = _
        rw [fX4_isWord_L28.eq_2, if_neg (by rw [dI_le (by omega) (by omega)]; omega), h.2.1, hb i hi, Option.bind_some, if_pos (kin_nI hi (by omega)), if_pos hq, nI_add1]) (fun fu i hi hq => by
        show fX4_isWord_L28 5 t (fu + 1) (nI i) σ = _
        rw [fX4_isWord_L28.eq_2, if_neg (by rw [dI_le (by omega) (by omega)]; omega), h.2.1, hb i hi, Option.bind_some, if_pos (kin_nI hi (by omega)), if_neg hq]) (fun fu => by
        show fX4_isWord_L28 5 t (fu + 1) (nI (ksby t).length) σ = _
        rw [fX4_isWord_L28.eq_2, if_pos (by grind)])
      by_cases hb : WDt B L t p
      · rw [dB_t hb]; exact h1.1 hb.2.2
      · rw [dB_f hb]; exact h1.2 (fun c => hb ⟨c1, c2, c⟩)
    · rw [if_neg (fun c => c2 ((nI_inj (by omega) (by omega)).1 c)), dB_f (fun c => c2 c.2.1)]
  · rw [if_neg c1, dB_f (fun c => c1 c.1)]
end CTK
