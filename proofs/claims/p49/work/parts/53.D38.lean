/-! the Model's parser -/
section NUM
variable {B : Nat → Int32} {L p : Nat}
theorem rnN_all {t : Int32} (n : Nat) : ∀ p j, p ≤ j → j < rnN B t n p → fX4_tokenOf (B j) = t := by
  induction n with
  | zero => intro p j h1 h2; have : rnN B t 0 p = p := rfl; omega
  | succ n ih =>
    intro p j h1 h2
    have e : rnN B t (n + 1) p = if fX4_tokenOf (B p) = t then rnN B t n (p + 1) else p := rfl
    rw [e] at h2
    by_cases c : fX4_tokenOf (B p) = t
    · rw [if_pos c] at h2
      by_cases hj : j = p
      · subst hj; exact c
      · exact ih (p + 1) j (by omega) h2
    · rw [if_neg c] at h2; omega
theorem dig_fin : ∀ i, i < 256 → fX4_tokenOf (nI i) = 2 → 48 ≤ i ∧ i ≤ 57 := by decide +kernel
theorem nmS_r {v b : Int32} (hv : 0 ≤ v ∧ v ≤ 1000) (hb : 0 ≤ b ∧ b ≤ 255) (hd : fX4_tokenOf b = 2) : 0 ≤ nmS v b ∧ nmS v b ≤ 1000 := by
  have ev : nI v.toNatClampNeg = v := i32_nI hv.1
  have lv : v.toNatClampNeg < 1001 := i32_n hv.1 (by rw [show nI 1001 = 1001 from rfl]; have := hv.2; grind) (by decide)
  have eb : nI b.toNatClampNeg = b := i32_nI hb.1
  have lb : b.toNatClampNeg < 256 := i32_n hb.1 (by rw [show nI 256 = 256 from rfl]; have := hb.2; grind) (by decide)
  have hd' := dig_fin _ lb (by rw [eb]; exact hd)
  have e : v * 10 + b - 48 = nI (v.toNatClampNeg * 10 + b.toNatClampNeg - 48) := by
    conv => lhs; rw [← ev, ← eb]
    have h1 : nI v.toNatClampNeg * 10 = nI (v.toNatClampNeg * 10) := by unfold nI; rw [Int32.ofNat_mul]; rfl
    rw [h1, nI_addn]
    exact nI_subn (j := 48) (by omega)
  unfold nmS
  rw [e]
  by_cases c : (1000 : Int32) < nI (v.toNatClampNeg * 10 + b.toNatClampNeg - 48)
  · rw [if_pos c]; decide
  · rw [if_neg c]
    exact ⟨nI_lt0 (by omega), by grind⟩
theorem nmN_r (n : Nat) : ∀ i v, 0 ≤ v ∧ v ≤ 1000 → (∀ j, i ≤ j → j < i + n → (0 ≤ B j ∧ B j ≤ 255) ∧ fX4_tokenOf (B j) = 2) → 0 ≤ nmN B n i v ∧ nmN B n i v ≤ 1000 := by
  induction n with
  | zero => intro i v h _; exact h
  | succ n ih =>
    intro i v h hb
    have := hb i (by omega) (by omega)
    exact ih (i + 1) _ (nmS_r h this.1 this.2) (fun j h1 h2 => hb j (by omega) (by omega))
theorem tkT_c (hp : p ≤ L) (hB : BY B L) : tkT B L p = 0 ∨ (tkS B L p < L ∧ tkT B L p = fX4_tokenOf (B (tkS B L p)) ∧ 0 ≤ B (tkS B L p) ∧ B (tkS B L p) ≤ 255) := by
  have h := @tkS_le B L p hp
  by_cases c : tkS B L p < L
  · refine .inr ⟨c, ?_, hB _ c⟩
    unfold tkT
    rw [if_neg (by omega)]
  · exact .inl ((tkT_0 hp hB).2 (by omega))
theorem tkV_r (hp : p ≤ L) (hB : BY B L) (h2 : tkT B L p = 2) : 0 ≤ tkV B L p ∧ tkV B L p ≤ 1000 := by
  have hs := @tkS_le B L p hp
  have hE := @tkE_le B L p hp
  rcases tkT_c hp hB with h0 | ⟨hL, ht, _⟩
  · exact absurd (h0.symm.trans h2) (by decide)
  · unfold tkV
    refine nmN_r _ _ _ (by decide) (fun j h1 h3 => ⟨hB j (by omega), ?_⟩)
    by_cases hj : j = tkS B L p
    · subst hj; rw [← ht, h2]
    · have ee : tkE B L p = rnN B 2 (L - (tkS B L p + 1)) (tkS B L p + 1) := by
        unfold tkE
        rw [if_neg (by omega), h2, if_pos (by decide)]
      exact rnN_all (L - (tkS B L p + 1)) (tkS B L p + 1) j (by omega) (by omega)
end NUM
section ERR
variable {σ : Sto}
theorem e_good (h : ¬ σ 133 26 = 0) : fX7_isGood σ = false := by unfold fX7_isGood; rw [if_neg h]
theorem e_goesOn (h : ¬ σ 133 26 = 0) : fX7_goesOn σ = some σ := by unfold fX7_goesOn; rw [e_good h, if_neg Bool.false_ne_true]
theorem e_fails (h : ¬ σ 133 26 = 0) {a : Int32} : fX7_fails a σ = σ := by unfold fX7_fails; rw [if_neg h]
theorem wd_no {t : Nat} : fX7_isWord_L36 t 0 σ = some false := by
  unfold fX7_isWord_L36
  have : kFU = 3999999 + 1 := rfl
  rw [this, fX7_isWord_L39.eq_2, if_pos rfl, if_pos (by decide)]
  rfl
theorem e_isWord (h : ¬ σ 133 26 = 0) {t : Nat} : fX7_isWord t σ = some false := by
  unfold fX7_isWord fX7_isWord_L35
  rw [e_good h, if_neg Bool.false_ne_true, wd_no]
theorem e_isSign (h : ¬ σ 133 26 = 0) {a : Int32} : fX7_isSign a σ = some false := by
  unfold fX7_isSign
  rw [e_good h, if_neg Bool.false_ne_true]
theorem e_L13 (h : ¬ σ 133 26 = 0) {lo hi : Int32} : fX7_looks_L13 lo hi σ = some (lo, σ) := by
  have hL : fX7_looks_L30 lo hi σ = some (lo, σ) := by
    unfold fX7_looks_L30
    rw [e_good h, if_neg Bool.false_ne_true]
  unfold fX7_looks_L13
  rw [e_fails h, Option.bind_some, hL]
  split <;> rfl
theorem e_looks (h : ¬ σ 133 26 = 0) {lo hi : Int32} : fX7_looks lo hi σ = some (lo, σ) := by
  unfold fX7_looks
  rw [e_fails h, Option.bind_some, e_L13 h]
  split <;> rfl
theorem e_reads (h : ¬ σ 133 26 = 0) {lo hi : Int32} : fX7_reads lo hi σ = some (lo, σ) := by
  unfold fX7_reads
  rw [e_looks h, Option.bind_some, e_goesOn h, Option.bind_some]
theorem e_place (h : ¬ σ 133 26 = 0) : fX7_placeHere σ = some (0, σ) := by
  unfold fX7_placeHere fX7_placeHere_L15
  rw [e_isSign h, Option.bind_some, if_neg Bool.false_ne_true, e_looks h, Option.bind_some, if_pos (show kb false = 0 from rfl)]
theorem e_needs (h : ¬ σ 133 26 = 0) {t : Nat} : fX7_needs t σ = some σ := by
  unfold fX7_needs
  rw [e_isWord h, Option.bind_some, if_neg Bool.false_ne_true, e_fails h, Option.bind_some, e_goesOn h, Option.bind_some]
theorem e_ends (h : ¬ σ 133 26 = 0) : fX7_ends σ = some σ := by
  unfold fX7_ends
  rw [e_isSign h, Option.bind_some, if_neg Bool.false_ne_true, e_fails h, Option.bind_some, e_goesOn h, Option.bind_some]
theorem e_L87 (h : ¬ σ 133 26 = 0) {a1 v2 v3 v4 v5 : Int32} : fX7_readsChip_L87 a1 v2 v3 v4 v5 σ = some σ := by
  unfold fX7_readsChip_L87
  rw [e_goesOn h, Option.bind_some, e_good h, if_neg Bool.false_ne_true]
theorem e_L71 (h : ¬ σ 133 26 = 0) {fu : Nat} : fX7_readsAll_L71 (fu + 1) σ = some σ := by
  rw [fX7_readsAll_L71.eq_2, e_good h, if_neg Bool.false_ne_true]
end ERR
section MPA
variable {σ τ ρ : Sto} {B : Nat → Int32} {L p q : Nat} {m m' : Vc} {v lo hi c : Int32}
def MP (B : Nat → Int32) (L p : Nat) (m : Vc) (σ : Sto) : Prop := TM B L σ ∧ TKM B L p σ ∧ p ≤ L ∧ (σ 133 26 = 0 ∧ σ 133 27 = -1) ∧ σ 134 = m
def ME (c : Int32) (q : Nat) (σ : Sto) : Prop := σ 133 26 = c ∧ (¬ σ 133 26 = 0) ∧ σ 133 27 = nI q ∧ Zr (σ 134)
def FM (σ τ : Sto) : Prop := (∀ q, q ≠ 133 → q ≠ 134 → τ q = σ q) ∧ ∀ i, (i < 22 ∨ 27 < i) → τ 133 i = σ 133 i
theorem fm_refl : FM σ σ := ⟨fun _ _ _ => rfl, fun _ _ => rfl⟩
theorem fm_trans (h : FM σ τ) (h' : FM τ ρ) : FM σ ρ := ⟨fun q a b => by rw [h'.1 q a b, h.1 q a b], fun i hi => by rw [h'.2 i hi, h.2 i hi]⟩
theorem fm_22 (h : F22 σ τ) : FM σ τ := ⟨fun q a _ => h.1 q a, fun i hi => h.2 i (by omega)⟩
theorem fm_su {i : Nat} : FM σ (su σ 134 i v) := ⟨fun q _ b => su_k b, fun i _ => by rw [su_k (by decide)]⟩
theorem me_su (h : ME c q σ) {i : Nat} (hi : i < 220) : ME c q (su σ 134 i v) := by
  unfold ME
  rw [su_k (show 133 ≠ 134 by decide)]
  exact ⟨h.1, h.2.1, h.2.2.1, by rw [su_v]; exact zr_vset h.2.2.2 hi⟩
theorem mp_su (h : MP B L p m σ) {i : Nat} : MP B L p (vset m i v) (su σ 134 i v) := by
  obtain ⟨a, b, c, d, e⟩ := h
  have h1 : su σ 134 i v 133 = σ 133 := su_k (by decide)
  refine ⟨⟨a.1, by rw [h1]; exact a.2.1, fun j hj => by rw [su_k (by decide)]; exact a.2.2 j hj⟩, ?_, c, by rw [h1]; exact d, by rw [su_v, e]⟩
  unfold TKM
  rw [h1]
  exact b
theorem g_good (h : MP B L p m σ) : fX7_isGood σ = true := by unfold fX7_isGood; rw [if_pos h.2.2.2.1.1]
theorem m_goesOn (hB : BY B L) (h : MP B L p m σ) : ∃ τ, fX7_goesOn σ = some τ ∧ MP B L (tkE B L p) m τ ∧ FM σ τ := by
  have hp := tkE_p (B := B) h.2.2.1
  obtain ⟨τ, e, a, b⟩ := m_scans hB h.1 h.2.1.1 hp.2
  unfold fX7_goesOn
  rw [g_good h, if_pos rfl, e, Option.bind_some]
  exact ⟨τ, rfl, ⟨tm_22 h.1 b, a, hp.2, by rw [b.2 26 (by omega), b.2 27 (by omega)]; exact h.2.2.2.1, by rw [b.1 134 (by decide)]; exact h.2.2.2.2⟩, fm_22 b⟩
theorem m_fails (h : MP B L p m σ) (hz : Zr m) (hc : c ≠ 0) : ME c (tkS B L p) (fX7_fails c σ) ∧ FM σ (fX7_fails c σ) := by
  unfold fX7_fails
  rw [if_pos h.2.2.2.1.1, klet_eq, klet_eq, su_i (show 23 ≠ 26 by decide), h.2.1.2.1]
  refine ⟨⟨by rw [su_i (by decide), su_eq], by rw [su_i (by decide), su_eq]; exact hc, su_eq, by rw [su_k (by decide), su_k (by decide), h.2.2.2.2]; exact hz⟩, ⟨fun q a _ => by rw [su_k a, su_k a], fun i hi => by rw [su_i (by omega), su_i (by omega)]⟩⟩
theorem wdt_9 {t : Nat} : WDt B L (t + 9) p ↔ WDt B L t p := by
  unfold WDt ksch ksby
  rw [show (t + 9) % 9 = t % 9 by omega]
theorem m_wd_L {t : Nat} (h : MP B L p m σ) (hl : tkE B L p - tkS B L p = (ksby t).length) (n : Nat) : ∀ (i fu : Nat), i + n = (ksby t).length → n < fu → ∃ bb : Bool, fX7_isWord_L39 t fu 1 (nI i) σ = some bb ∧ (bb = true ↔ ∀ k, i ≤ k → k < (ksby t).length → B (tkS B L p + k) = ksch t (nI k)) := by
  have hk := ksby_len t
  have hE := @tkE_le B L p h.2.2.1
  have hL := h.1.1
  induction n with
  | zero =>
    intro i fu hi hf
    match fu, hf with
    | fu + 1, _ =>
      rw [fX7_isWord_L39.eq_2, if_neg (by decide), if_pos (by rw [dI_le (by omega) (by omega)]; omega), if_pos (by decide)]
      exact ⟨true, rfl, fun _ k a b => absurd b (by omega), fun _ => rfl⟩
  | succ n ih =>
    intro i fu hi hf
    match fu, hf with
    | fu + 1, hf =>
      rw [fX7_isWord_L39.eq_2, if_neg (by decide), if_neg (by rw [dI_le (by omega) (by omega)]; omega), h.2.1.2.1, nI_addn, if_pos (kin_nI (by omega) (by decide)), if_pos (kin_nI (by omega) (by omega)), nI_n (by omega), h.1.2.2 _ (by omega)]
      unfold fX7_isWord_L75
      rw [nI_add1]
      by_cases c : B (tkS B L p + i) = ksch t (nI i)
      · rw [if_pos c]
        obtain ⟨bb, e, k⟩ := ih (i + 1) fu (by omega) (by omega)
        refine ⟨bb, e, k.trans ⟨fun q k a b => ?_, fun q k a b => q k (by omega) b⟩⟩
        by_cases hki : k = i
        · subst hki; exact c
        · exact q k (by omega) b
      · rw [if_neg c]
        match fu, hf with
        | fu + 1, _ =>
          rw [fX7_isWord_L39.eq_2, if_pos rfl, if_pos (by decide)]
          exact ⟨false, rfl, fun q => absurd q (by decide), fun q => absurd (q i (Nat.le_refl _) (by omega)) c⟩
theorem mT_1 {t : Int32} : mT t = 1 ↔ t = 1 := by
  unfold mT
  by_cases h0 : t = 0
  · subst h0; decide
  · by_cases h1 : t = 1
    · subst h1; decide
    · rw [if_neg h0, if_neg h1]
      refine ⟨fun c => ?_, fun c => absurd c h1⟩
      split at c
      · exact absurd c (by decide)
      · split at c <;> exact absurd c (by decide)
theorem mT_2 {t : Int32} : mT t = 2 ↔ t = 2 := by
  unfold mT
  by_cases h0 : t = 0
  · subst h0; decide
  · by_cases h1 : t = 1
    · subst h1; decide
    · by_cases h2 : t = 2
      · subst h2; decide
      · rw [if_neg h0, if_neg h1, if_neg h2]
        refine ⟨fun c => ?_, fun c => absurd c h2⟩
        split at c <;> exact absurd c (by decide)
theorem mT_0 {t : Int32} : mT t = 0 ↔ t = 0 := by
  unfold mT
  by_cases h0 : t = 0
  · subst h0; decide
  · rw [if_neg h0]
    refine ⟨fun c => ?_, fun c => absurd c h0⟩
    split at c
    · exact absurd c (by decide)
    · split at c
      · exact absurd c (by decide)
      · split at c <;> exact absurd c (by decide)
theorem m_isWord (h : MP B L p m σ) {t : Nat} : fX7_isWord (t + 9) σ = some (dB (WDt B L t p)) := by
  have hk := ksby_len (t + 9)
  have hE := @tkE_le B L p h.2.2.1
  have hL := h.1.1
  have e9 : dB (WDt B L t p) = dB (WDt B L (t + 9) p) := by
    by_cases w : WDt B L t p
    · rw [dB_t w, dB_t (wdt_9.2 w)]
    · rw [dB_f w, dB_f (fun x => w (wdt_9.1 x))]
  rw [e9]
  unfold fX7_isWord fX7_isWord_L35
  rw [g_good h, if_pos rfl, h.2.1.2.2.1, h.2.1.1, h.2.1.2.1, nI_subn hE.1]
  by_cases c1 : tkT B L p = 1
  · rw [if_pos (mT_1.2 c1)]
    by_cases c2 : tkE B L p - tkS B L p = (ksby (t + 9)).length
    · rw [if_pos (by rw [c2])]
      obtain ⟨bb, e, k⟩ := m_wd_L h c2 (ksby (t + 9)).length 0 kFU (by omega) (by unfold kFU; omega)
      have e' : fX7_isWord_L39 (t + 9) kFU 1 0 σ = some bb := e
      unfold fX7_isWord_L36
      rw [e']
      by_cases w : WDt B L (t + 9) p
      · rw [dB_t w, k.2 (fun k _ hk => w.2.2 k hk)]
      · rw [dB_f w]
        cases hbb : bb with
        | false => rfl
        | true => exact absurd ⟨c1, c2, fun i hi => k.1 hbb i (by omega) hi⟩ w
    · rw [if_neg (fun x => c2 ((nI_inj (by omega) (by omega)).1 x)), wd_no, dB_f (fun x => c2 x.2.1)]
  · rw [if_neg (fun x => c1 (mT_1.1 x)), wd_no, dB_f (fun x => c1 x.1)]
theorem mT_3 (hp : p ≤ L) (hB : BY B L) : mT (tkT B L p) = 3 ↔ (tkT B L p = 3 ∨ tkT B L p = 4) := by
  rcases tkT_c hp hB with h | ⟨_, h, hb⟩
  · rw [h]; decide
  · have := (tok_b hb).1
    rw [← h] at this
    rcases this with g | g | g | g | g <;> rw [g] <;> decide
theorem m_isSign (hB : BY B L) (h : MP B L p m σ) {a k : Int32} (hak : (a = 45 ∧ k = 3) ∨ (a = 59 ∧ k = 4)) : fX7_isSign a σ = some (decide (tkT B L p = k)) := by
  have hL := h.1.1
  unfold fX7_isSign
  rw [g_good h, if_pos rfl, h.2.1.2.2.1]
  by_cases c : mT (tkT B L p) = 3
  · have c' := (mT_3 h.2.2.1 hB).1 c
    rw [if_pos c]
    rcases tkT_c h.2.2.1 hB with g | ⟨gL, g, hb⟩
    · rw [g] at c'; exact absurd c' (by decide)
    · have tb := tok_b hb
      rw [h.2.1.2.1, if_pos (kin_nI (by omega) (by decide)), nI_n (by omega), h.1.2.2 _ gL, g]
      rcases hak with ⟨ha, hk⟩ | ⟨ha, hk⟩
      · subst ha hk
        by_cases d : B (tkS B L p) = 45
        · rw [if_pos d, decide_eq_true (tb.2.2.2.1.1 d)]
        · rw [if_neg d, decide_eq_false (fun x => d (tb.2.2.2.1.2 x))]
      · subst ha hk
        by_cases d : B (tkS B L p) = 59
        · rw [if_pos d, decide_eq_true (tb.2.2.2.2.1.1 d)]
        · rw [if_neg d, decide_eq_false (fun x => d (tb.2.2.2.2.1.2 x))]
  · rw [if_neg c, decide_eq_false]
    intro x
    exact c ((mT_3 h.2.2.1 hB).2 (by rcases hak with ⟨_, hk⟩ | ⟨_, hk⟩ <;> subst hk <;> simp [x]))
theorem m_wd_t (hB : BY B L) {t : Nat} (h : MP B L p m σ) (e : gWd B L t p = .inl q) : ∃ τ, fX7_needs (t + 9) σ = some τ ∧ MP B L q m τ ∧ FM σ τ := by
  obtain ⟨w, eq⟩ := gWd_f e
  subst eq
  obtain ⟨τ, e1, a, b⟩ := m_goesOn hB h
  unfold fX7_needs
  rw [m_isWord h, Option.bind_some, dB_t w, if_pos rfl, e1, Option.bind_some]
  exact ⟨τ, rfl, a, b⟩
theorem m_wd_f {t : Nat} (h : MP B L p m σ) (hz : Zr m) (e : gWd B L t p = .inr (c, q)) : ∃ τ, fX7_needs (t + 9) σ = some τ ∧ ME c q τ ∧ FM σ τ := by
  unfold gWd at e
  by_cases w : WDt B L t p
  · rw [dB_t w, if_pos rfl] at e; cases e
  · rw [dB_f w, if_neg Bool.false_ne_true] at e
    cases e
    obtain ⟨a, b⟩ := m_fails h hz (c := 1) (by decide)
    unfold fX7_needs
    rw [m_isWord h, Option.bind_some, dB_f w, if_neg Bool.false_ne_true, Option.bind_some, e_goesOn a.2.1, Option.bind_some]
    exact ⟨_, rfl, a, b⟩
theorem m_en_t (hB : BY B L) (h : MP B L p m σ) (e : gTk B L 4 p = .inl q) : ∃ τ, fX7_ends σ = some τ ∧ MP B L q m τ ∧ FM σ τ := by
  obtain ⟨w, eq⟩ := gTk_f e
  subst eq
  obtain ⟨τ, e1, a, b⟩ := m_goesOn hB h
  unfold fX7_ends
  rw [m_isSign hB h (k := 4) (.inr ⟨rfl, rfl⟩), Option.bind_some, decide_eq_true w, if_pos rfl, e1, Option.bind_some]
  exact ⟨τ, rfl, a, b⟩
theorem m_en_f (hB : BY B L) (h : MP B L p m σ) (hz : Zr m) (e : gTk B L 4 p = .inr (c, q)) : ∃ τ, fX7_ends σ = some τ ∧ ME c q τ ∧ FM σ τ := by
  unfold gTk at e
  by_cases w : tkT B L p = 4
  · rw [if_pos w] at e; cases e
  · rw [if_neg w] at e
    cases e
    obtain ⟨a, b⟩ := m_fails h hz (c := 1) (by decide)
    unfold fX7_ends
    rw [m_isSign hB h (k := 4) (.inr ⟨rfl, rfl⟩), Option.bind_some, decide_eq_false w, if_neg Bool.false_ne_true, Option.bind_some, e_goesOn a.2.1, Option.bind_some]
    exact ⟨_, rfl, a, b⟩
theorem m_lk_t (h : MP B L p m σ) (e : gNu B L lo hi p = .inl (v, q)) : fX7_looks lo hi σ = some (v, σ) := by
  obtain ⟨w, r, ev, _⟩ := gNu_f e
  unfold fX7_looks fX7_looks_L13 fX7_looks_L30
  rw [h.2.1.2.2.1, if_pos (mT_2.2 w), h.2.1.2.2.2 w, ← ev, if_pos r, g_good h, if_pos rfl]
theorem m_lk_f (h : MP B L p m σ) (hz : Zr m) (e : gNu B L lo hi p = .inr (c, q)) : ∃ τ, fX7_looks lo hi σ = some (lo, τ) ∧ ME c q τ ∧ FM σ τ := by
  unfold gNu at e
  unfold fX7_looks
  rw [h.2.1.2.2.1]
  by_cases w : tkT B L p = 2
  · rw [if_pos w] at e
    by_cases r : fX7_isIn (tkV B L p) lo hi = true
    · rw [if_pos r] at e; cases e
    · rw [if_neg r] at e
      cases e
      obtain ⟨a, b⟩ := m_fails h hz (c := 2) (by decide)
      rw [if_pos (mT_2.2 w)]
      unfold fX7_looks_L13
      rw [h.2.1.2.2.2 w, if_neg r, Option.bind_some]
      unfold fX7_looks_L30
      rw [e_good a.2.1, if_neg Bool.false_ne_true]
      exact ⟨_, rfl, a, b⟩
  · rw [if_neg w] at e
    cases e
    obtain ⟨a, b⟩ := m_fails h hz (c := 1) (by decide)
    rw [if_neg (fun x => w (mT_2.1 x)), Option.bind_some, e_L13 a.2.1]
    exact ⟨_, rfl, a, b⟩
theorem m_nu_t (hB : BY B L) (h : MP B L p m σ) (e : gNu B L lo hi p = .inl (v, q)) : ∃ τ, fX7_reads lo hi σ = some (v, τ) ∧ MP B L q m τ ∧ FM σ τ := by
  obtain ⟨_, _, _, eq⟩ := gNu_f e
  obtain ⟨τ, e1, a, b⟩ := m_goesOn hB h
  unfold fX7_reads
  rw [m_lk_t h e, Option.bind_some, e1, Option.bind_some]
  subst eq
  exact ⟨τ, rfl, a, b⟩
theorem m_nu_f (h : MP B L p m σ) (hz : Zr m) (e : gNu B L lo hi p = .inr (c, q)) : ∃ τ, fX7_reads lo hi σ = some (lo, τ) ∧ ME c q τ ∧ FM σ τ := by
  obtain ⟨τ, e1, a, b⟩ := m_lk_f h hz e
  unfold fX7_reads
  rw [e1, Option.bind_some, e_goesOn a.2.1, Option.bind_some]
  exact ⟨τ, rfl, a, b⟩
theorem m_pl_q (hB : BY B L) (h : MP B L p m σ) : ∃ τ, fX7_placeHere σ = fX7_placeHere_L15 (kb (decide (tkT B L p = 3))) τ ∧ MP B L (gQ B L p) m τ ∧ FM σ τ := by
  have hp := tkE_p (B := B) h.2.2.1
  unfold fX7_placeHere gQ
  rw [m_isSign hB h (k := 3) (.inl ⟨rfl, rfl⟩), Option.bind_some]
  by_cases w : tkT B L p = 3
  · obtain ⟨τ, e, a, b⟩ := m_goesOn hB h
    unfold fX7_goesOn at e
    rw [g_good h, if_pos rfl] at e
    have e' : fX7_scans σ = some τ := by
      cases hs : fX7_scans σ with
      | none => rw [hs] at e; cases e
      | some x => rw [hs, Option.bind_some] at e; exact e
    rw [decide_eq_true w, if_pos rfl, e', Option.bind_some, if_pos w]
    exact ⟨τ, rfl, a, b⟩
  · rw [decide_eq_false w, if_neg Bool.false_ne_true, if_neg w]
    exact ⟨σ, rfl, h, fm_refl⟩
theorem gPl_nu (hp : p ≤ L) (hB : BY B L) : (∀ v q, gPl B L p = .inl (v, q) → gNu B L 0 6 (gQ B L p) = .inl (tkV B L (gQ B L p), q) ∧ v = (if tkT B L p = 3 then -(tkV B L (gQ B L p)) else tkV B L (gQ B L p))) ∧ ∀ c q, gPl B L p = .inr (c, q) → gNu B L 0 6 (gQ B L p) = .inr (c, q) := by
  have hq := (@gQ_le B L p hp).2
  constructor
  · intro v q e
    obtain ⟨w, r, ev, eq⟩ := gPl_f e
    refine ⟨?_, ev⟩
    unfold gNu
    rw [if_pos w, if_pos (isIn_iff.2 ⟨(tkV_r hq hB w).1, r⟩), eq]
  · intro c q e
    obtain ⟨w, ec, eq⟩ := gPl_r e
    unfold gNu
    by_cases h2 : tkT B L (gQ B L p) = 2
    · rw [if_pos h2] at ec
      rw [if_pos h2, if_neg (fun x => w ⟨h2, (isIn_iff.1 x).2⟩), ec, eq]
    · rw [if_neg h2] at ec
      rw [if_neg h2, ec, eq]
theorem m_pl_t (hB : BY B L) (h : MP B L p m σ) (e : gPl B L p = .inl (v, q)) : ∃ τ, fX7_placeHere σ = some (v, τ) ∧ MP B L (gQ B L p) m τ ∧ FM σ τ ∧ q = tkE B L (gQ B L p) := by
  obtain ⟨τ, e1, a, b⟩ := m_pl_q hB h
  obtain ⟨en, ev⟩ := (gPl_nu h.2.2.1 hB).1 v q e
  refine ⟨τ, ?_, a, b, (gPl_f e).2.2.2⟩
  rw [e1]
  unfold fX7_placeHere_L15
  rw [m_lk_t a en, Option.bind_some, ev]
  by_cases w : tkT B L p = 3
  · rw [decide_eq_true w, if_neg (show ¬ kb true = 0 by decide), if_pos w]
  · rw [decide_eq_false w, if_pos (show kb false = 0 from rfl), if_neg w]
theorem m_pl_f (hB : BY B L) (h : MP B L p m σ) (hz : Zr m) (e : gPl B L p = .inr (c, q)) : ∃ w τ, fX7_placeHere σ = some (w, τ) ∧ ME c q τ ∧ FM σ τ := by
  obtain ⟨τ, e1, a, b⟩ := m_pl_q hB h
  obtain ⟨ρ, e2, k1, k2⟩ := m_lk_f a hz ((gPl_nu h.2.2.1 hB).2 c q e)
  rw [e1]
  unfold fX7_placeHere_L15
  rw [e2, Option.bind_some]
  by_cases w : kb (decide (tkT B L p = 3)) = 0
  · rw [if_pos w]; exact ⟨_, ρ, rfl, k1, fm_trans b k2⟩
  · rw [if_neg w]; exact ⟨_, ρ, rfl, k1, fm_trans b k2⟩
end MPA
