def keyE (m : Vc) (bub : Bool) (k : Nat) : Int32 := if bub = true then nI (keyN m k) - 120 else -(nI (keyN m k) - 120)
theorem keyN_le {m : Vc} (ok : OKm m) {k : Nat} (hk : k < mN m) (hi : mC m k 6 = 1) : keyN m k ≤ 249 := by
  have hw := wN_ok ok hk
  have hd := dE_ok ok hk hi
  unfold keyN
  omega
theorem keyE_gt {m : Vc} (ok : OKm m) {k a : Nat} (hk : k < mN m) (hi : mC m k 6 = 1) (ha : a < mN m) (hia : mC m a 6 = 1) {bub : Bool} : keyE m bub a ≤ keyE m bub k ↔ gtF m bub k a = false := by
  have h1 := keyN_le ok hk hi
  have h2 := keyN_le ok ha hia
  have e249 : nI 249 = 249 := rfl
  have a1 : nI (keyN m k) ≤ 249 := by rw [← e249]; exact (dI_le (by omega) (by omega)).2 h1
  have a2 : nI (keyN m a) ≤ 249 := by rw [← e249]; exact (dI_le (by omega) (by omega)).2 h2
  have a3 := @nI_lt0 (keyN m k) (by omega)
  have a4 := @nI_lt0 (keyN m a) (by omega)
  unfold keyE gtF
  cases bub
  · simp only [Bool.false_eq_true, if_false, decide_eq_false_iff_not]
    have : (-(nI (keyN m a) - 120) ≤ -(nI (keyN m k) - 120)) ↔ nI (keyN m k) ≤ nI (keyN m a) := by constructor <;> intro h <;> grind
    rw [this, dI_le (by omega) (by omega)]
    omega
  · simp only [if_true, decide_eq_false_iff_not]
    have : (nI (keyN m a) - 120 ≤ nI (keyN m k) - 120) ↔ nI (keyN m a) ≤ nI (keyN m k) := by constructor <;> intro h <;> grind
    rw [this, dI_le (by omega) (by omega)]
    omega
def F67 (σ τ : Sto) : Prop := (∀ p, p ≠ 146 → p ≠ 147 → p ≠ 133 → τ p = σ p) ∧ ∀ i, i ≠ 18 → τ 133 i = σ 133 i
theorem f67_refl {σ : Sto} : F67 σ σ := ⟨fun _ _ _ _ => rfl, fun _ _ => rfl⟩
theorem f67_trans {σ τ ρ : Sto} (h : F67 σ τ) (h' : F67 τ ρ) : F67 σ ρ := ⟨fun p a b c => by rw [h'.1 p a b c, h.1 p a b c], fun i hi => by rw [h'.2 i hi, h.2 i hi]⟩
def LNM (m : Vc) (bub : Bool) (l : List Nat) (τ : Sto) : Prop := τ 133 18 = nI l.length ∧ AR (τ 147) (keyE m bub) l ∧ AR (τ 146) nI l
section MO
variable {σ : Sto} {m : Vc}
theorem m_ins_L {enc : Nat → Int32} {gt : Nat → Bool} {k : Nat} {l : List Nat} {a1 : Int32} {K : Int32 → Sto → Option Sto} (hl : l.length < 30) (hgt : ∀ i, i < l.length → (enc (l.getD i 0) ≤ enc k ↔ gt (l.getD i 0) = false)) : ∀ (at' fu : Nat) (τ : Sto), at' < fu → at' ≤ l.length → (∀ i, i < at' → τ 147 i = enc (l.getD i 0) ∧ τ 146 i = nI (l.getD i 0)) → (∀ i, at' ≤ i → i < l.length → τ 147 (i + 1) = enc (l.getD i 0) ∧ τ 146 (i + 1) = nI (l.getD i 0)) →
    ∃ ρ, fX7_arranges_L104 a1 K fu (nI k) (enc k) (nI at') τ = K (nI (k + 1)) ρ ∧ (∀ i, i < posL gt l at' → ρ 147 i = enc (l.getD i 0) ∧ ρ 146 i = nI (l.getD i 0)) ∧ (ρ 147 (posL gt l at') = enc k ∧ ρ 146 (posL gt l at') = nI k) ∧ (∀ i, posL gt l at' ≤ i → i < l.length → ρ 147 (i + 1) = enc (l.getD i 0) ∧ ρ 146 (i + 1) = nI (l.getD i 0)) ∧ ρ 133 18 = τ 133 18 + 1 ∧ F67 τ ρ := by
  have fin : ∀ (p : Nat) (τ : Sto), p ≤ l.length → (∀ i, i < p → τ 147 i = enc (l.getD i 0) ∧ τ 146 i = nI (l.getD i 0)) → (∀ i, p ≤ i → i < l.length → τ 147 (i + 1) = enc (l.getD i 0) ∧ τ 146 (i + 1) = nI (l.getD i 0)) →
      ∃ ρ, fX7_arranges_L161 a1 K (nI k) (enc k) (nI p) τ = K (nI (k + 1)) ρ ∧ (∀ i, i < p → ρ 147 i = enc (l.getD i 0) ∧ ρ 146 i = nI (l.getD i 0)) ∧ (ρ 147 p = enc k ∧ ρ 146 p = nI k) ∧ (∀ i, p ≤ i → i < l.length → ρ 147 (i + 1) = enc (l.getD i 0) ∧ ρ 146 (i + 1) = nI (l.getD i 0)) ∧ ρ 133 18 = τ 133 18 + 1 ∧ F67 τ ρ := by
    intro p τ hp h1 h2
    have hk30 : kin (nI p) 30 = true := kin_nI (by omega) (by decide)
    unfold fX7_arranges_L161 fX7_arranges_L188
    rw [if_pos hk30, klet_eq, if_pos hk30, klet_eq, klet_eq, nI_n (by omega), nI_add1]
    refine ⟨_, rfl, fun i hi => ?_, ⟨?_, ?_⟩, fun i hi1 hi2 => ?_, ?_, fun q q1 q2 q3 => ?_, fun i hi => ?_⟩
    · rw [su_k (by decide), su_k (by decide), su_i (by omega), su_k (by decide), su_i (by omega), su_k (by decide)]; exact h1 i hi
    · rw [su_k (by decide), su_k (by decide), su_eq]
    · rw [su_k (by decide), su_eq]
    · rw [su_k (by decide), su_k (by decide), su_i (by omega), su_k (by decide), su_i (by omega), su_k (by decide)]; exact h2 i hi1 hi2
    · rw [su_eq, su_k (by decide), su_k (by decide)]
    · rw [su_k q3, su_k q1, su_k q2]
    · rw [su_i hi, su_k (by decide), su_k (by decide)]
  intro at'
  induction at' with
  | zero =>
    intro fu τ hf hle h1 h2
    match fu, hf with
    | fu + 1, _ =>
      rw [fX7_arranges_L104.eq_2, if_pos (by decide)]
      exact fin 0 τ hle h1 h2
  | succ a ih =>
    intro fu τ hf hle h1 h2
    match fu, hf with
    | fu + 1, hf =>
      have e1 : nI (a + 1) - 1 = nI a := by rw [← nI_add1]; grind
      have e2 : nI (a + 1) + (-1) = nI a := sub1
      have ka : kin (nI a) 30 = true := kin_nI (by omega) (by decide)
      have ka1 : kin (nI (a + 1)) 30 = true := kin_nI (by omega) (by decide)
      rw [fX7_arranges_L104.eq_2, if_neg (show ¬ nI (a + 1) ≤ (0 : Int32) by rw [show (0 : Int32) = nI 0 from rfl, dI_le (by omega) (by omega)]; omega), e1, if_pos ka, nI_n (show a < 2147483648 by omega), (h1 a (by omega)).1]
      have hg := hgt a (by omega)
      rw [posL.eq_2]
      cases hga : gt (l.getD a 0) with
      | false =>
        rw [if_pos (hg.2 hga), if_neg Bool.false_ne_true]
        exact fin (a + 1) τ hle h1 h2
      | true =>
        rw [if_neg (fun c => by rw [hg.1 c] at hga; cases hga), if_pos rfl, if_pos ka, if_pos ka1, klet_eq, if_pos ka, if_pos ka1, klet_eq, nI_n (show a + 1 < 2147483648 by omega), e2, su_k (show 146 ≠ 147 by decide), (h1 a (by omega)).2]
        obtain ⟨ρ, g1, g2, g3, g4, g5, g6⟩ := ih fu (su (su τ 147 (a + 1) (enc (l.getD a 0))) 146 (a + 1) (nI (l.getD a 0))) (by omega) (by omega) (fun i hi => by rw [su_k (by decide), su_i (by omega), su_i (by omega), su_k (by decide)]; exact h1 i (by omega)) (fun i hi1 hi2 => by
          rw [su_k (show 147 ≠ 146 by decide), su_at, su_at, su_k (show 146 ≠ 147 by decide)]
          by_cases hia : i = a
          · subst hia; rw [if_pos rfl, if_pos rfl]; exact ⟨rfl, rfl⟩
          · rw [if_neg (by omega), if_neg (by omega)]; exact h2 i (by omega) hi2)
        refine ⟨ρ, g1, g2, g3, g4, by rw [g5, su_k (by decide), su_k (by decide)], fun q q1 q2 q3 => by rw [g6.1 q q1 q2 q3, su_k q1, su_k q2], fun i hi => by rw [g6.2 i hi, su_k (by decide), su_k (by decide)]⟩
theorem m_arr_L (ok : OKm m) {bub : Bool} (n : Nat) : ∀ (k fu : Nat) (τ : Sto), k + n = mN m → n < fu → τ 134 = m → MK τ → LNM m bub (ordL m bub k) τ →
    ∃ ρ, fX7_arranges_L7 (kb bub) fu (nI k) τ = some ρ ∧ LNM m bub (mOrd m bub) ρ ∧ F67 τ ρ := by
  have hn := came_le ok
  induction n with
  | zero =>
    intro k fu τ hk hf hm hK hL
    match fu, hf with
    | fu + 1, _ =>
      have : k = mN m := by omega
      subst this
      rw [fX7_arranges_L7.eq_2]
      simp only [w5, z5, if_true, hm, came_eq ok]
      rw [if_pos (by grind)]
      exact ⟨τ, rfl, hL, f67_refl⟩
  | succ n ih =>
    intro k fu τ hk hf hm hK hL
    match fu, hf with
    | fu + 1, hf =>
      have hkN : k < mN m := by omega
      have hk30 : k < 30 := by omega
      rw [fX7_arranges_L7.eq_2]
      simp only [w5, z5, if_true, hm, came_eq ok]
      rw [if_neg (by rw [dI_le (by omega) (by omega)]; omega), m_c hk30 (w := 0) (by decide) (W := 0) rfl, m_isInside hk30, Option.bind_some, Option.bind_some, hm]
      simp only [fX7_arranges_L188, fX7_arranges_L56, fX7_arranges_L96, nI_add1, m_c hk30 (w := 3) (by decide) (W := 3) rfl, m_c hk30 (w := 4) (by decide) (W := 4) rfl, m_c hk30 (w := 2) (by decide) (W := 2) rfl, Option.bind_some, hm, decide_eq_true_eq]
      have hno : sel m bub k = false → ∃ ρ, fX7_arranges_L7 (kb bub) fu (nI (k + 1)) τ = some ρ ∧ LNM m bub (mOrd m bub) ρ ∧ F67 τ ρ := by
        intro hs
        refine ih (k + 1) fu τ (by omega) (by omega) hm hK ?_
        rw [ordL.eq_2, hs, if_neg Bool.false_ne_true]
        exact hL
      by_cases hi : mC m k 6 = 1
      · rw [if_pos hi]
        have hde := dE_ok ok hkN hi
        have hw := wN_ok ok hkN
        have hdep : fX7_depthOf (mC m k 3) (mC m k 4) τ = some (nI (dE m k) - 12) := by
          have h0 : τ 134 2 = nI (mD m) := by rw [hm]; exact ok.2.2.1.1
          rw [m_dep hK h0 (by rw [hm]; exact ok.2.2.1.2), hm, hde.1]
        have hkey : 10 * (nI (dE m k) - 12) + nI (wN m k) = nI (keyN m k) - 120 := by
          unfold keyN
          rw [← nI_addn]
          have : nI (10 * dE m k) = 10 * nI (dE m k) := by unfold nI; rw [Int32.ofNat_mul]; rfl
          rw [this]
          grind
        have hyes : sel m bub k = true → ∃ ρ, ((fX7_depthOf (mC m k 3) (mC m k 4) τ).bind fun r14 => if kb bub = 0 then fX7_arranges_L104 (kb bub) (fX7_arranges_L7 (kb bub) fu) kFU (nI k) (-(10 * r14 + mC m k 2)) (τ 133 18) τ else fX7_arranges_L104 (kb bub) (fX7_arranges_L7 (kb bub) fu) kFU (nI k) (10 * r14 + mC m k 2) (τ 133 18) τ) = some ρ ∧ LNM m bub (mOrd m bub) ρ ∧ F67 τ ρ := by
          intro hs
          rw [hdep, Option.bind_some, hw.1, hkey, hL.1]
          have hlen := ordL_len m bub k
          obtain ⟨ρ, g1, g2, g3, g4, g5, g6⟩ := m_ins_L (enc := keyE m bub) (gt := gtF m bub k) (k := k) (a1 := kb bub) (K := fX7_arranges_L7 (kb bub) fu) (show (ordL m bub k).length < 30 by omega) (fun i hi' => by
            have hmm := ordL_mem m bub k _ (getD_mem hi')
            exact keyE_gt ok hkN hi (by omega) (sel_in hmm.2)) (ordL m bub k).length kFU τ (by unfold kFU; omega) (Nat.le_refl _) (fun i hi => ⟨hL.2.1 i hi, hL.2.2 i hi⟩) (fun i hi1 hi2 => by omega)
          have e3 : (if kb bub = 0 then fX7_arranges_L104 (kb bub) (fX7_arranges_L7 (kb bub) fu) kFU (nI k) (-(nI (keyN m k) - 120)) (nI (ordL m bub k).length) τ else fX7_arranges_L104 (kb bub) (fX7_arranges_L7 (kb bub) fu) kFU (nI k) (nI (keyN m k) - 120) (nI (ordL m bub k).length) τ) = fX7_arranges_L104 (kb bub) (fX7_arranges_L7 (kb bub) fu) kFU (nI k) (keyE m bub k) (nI (ordL m bub k).length) τ := by
            unfold keyE
            cases bub
            · rw [if_pos (show kb false = 0 from rfl), if_neg Bool.false_ne_true]
            · rw [if_neg (show ¬ kb true = 0 by decide), if_pos rfl]
          rw [e3, g1]
          obtain ⟨ρ', f1, f2, f3⟩ := ih (k + 1) fu ρ (by omega) (by omega) (by rw [g6.1 134 (by decide) (by decide) (by decide)]; exact hm) (by unfold MK; rw [g6.1 140 (by decide) (by decide) (by decide), g6.1 141 (by decide) (by decide) (by decide)]; exact hK) (by
            rw [ordL.eq_2, hs, if_pos rfl]
            exact ⟨by rw [g5, hL.1, insL_len, nI_add1], ar_ins (fun i hi => (g2 i hi).1) g3.1 (fun i h1 h2 => (g4 i h1 h2).1), ar_ins (fun i hi => (g2 i hi).2) g3.2 (fun i h1 h2 => (g4 i h1 h2).2)⟩)
          exact ⟨ρ', f1, f2, f67_trans g6 f3⟩
        cases bub with
        | false =>
          rw [if_pos (show kb false = 0 from rfl)]
          by_cases h0 : mC m k 0 = 0
          · rw [if_pos h0]
            exact hyes (by unfold sel; rw [if_neg Bool.false_ne_true, decide_eq_true h0, decide_eq_true hi]; rfl)
          · rw [if_neg h0]
            by_cases h1 : mC m k 0 = 1
            · rw [if_pos h1]
              exact hyes (by unfold sel; rw [if_neg Bool.false_ne_true, decide_eq_true h1, decide_eq_true hi, Bool.or_true]; rfl)
            · rw [if_neg h1]
              exact hno (by unfold sel; rw [if_neg Bool.false_ne_true, decide_eq_false h0, decide_eq_false h1, decide_eq_true hi]; rfl)
        | true =>
          rw [if_neg (show ¬ kb true = 0 by decide)]
          by_cases h2 : mC m k 0 = 2
          · rw [if_pos h2]
            exact hyes (by unfold sel; rw [if_pos rfl, decide_eq_true h2, decide_eq_true hi]; rfl)
          · rw [if_neg h2]
            exact hno (by unfold sel; rw [if_pos rfl, decide_eq_false h2, decide_eq_true hi]; rfl)
      · rw [if_neg hi]
        exact hno (by unfold sel; rw [decide_eq_false hi]; rfl)
theorem m_arranges (ok : OKm m) {bub : Bool} (hm : σ 134 = m) (hK : MK σ) : ∃ ρ, fX7_arranges (kb bub) σ = some ρ ∧ LNM m bub (mOrd m bub) ρ ∧ F67 σ ρ := by
  have hn := came_le ok
  unfold fX7_arranges
  rw [klet_eq]
  have h0 : F67 σ (su σ 133 18 0) := ⟨fun p _ _ h => su_k h, fun i hi => su_i hi⟩
  obtain ⟨ρ, f1, f2, f3⟩ := m_arr_L ok (bub := bub) (mN m) 0 kFU (su σ 133 18 0) (by omega) (by unfold kFU; omega) (by rw [su_k (by decide)]; exact hm) (by unfold MK; rw [su_k (by decide), su_k (by decide)]; exact hK) ⟨su_eq, fun i hi => absurd hi (by unfold ordL; simp), fun i hi => absurd hi (by unfold ordL; simp)⟩
  exact ⟨ρ, f1, f2, f67_trans h0 f3⟩
end MO
noncomputable def mPh (f : Vc → Nat → Bool × Vc) : List Nat → Vc → Nat × Vc
  | [], m => (0, m)
  | k :: t, m => ((mPh f t (f m k).2).1 + (if (f m k).1 = true then 1 else 0), (mPh f t (f m k).2).2)
def Inb (m : Vc) (l : List Nat) : Prop := ∀ k, k ∈ l → k < mN m ∧ mC m k 6 = 1
theorem inb_same {m m' : Vc} {l : List Nat} (h : Inb m l) (hG : Geo m m') (hS : Same m m') : Inb m' l := fun k hk => by
  rw [geo_N hG, hS k 6 (by omega)]
  exact h k hk
theorem inb_tl {m : Vc} {l : List Nat} {k : Nat} (h : Inb m (k :: l)) : Inb m l := fun j hj => h j (List.mem_cons_of_mem _ hj)
def PHX (m : Vc) (p : Nat × Vc) : Prop := OKm p.2 ∧ Geo m p.2 ∧ Same m p.2 ∧ (p.1 = 0 → p.2 = m) ∧ p.2 4 = m 4 ∧ p.2 7 = m 7 + nI p.1
theorem ph_facts {f : Vc → Nat → Bool × Vc} (hf : ∀ m k, OKm m → k < mN m → mC m k 6 = 1 → TFX m (f m k)) (l : List Nat) : ∀ m, OKm m → Inb m l → PHX m (mPh f l m) := by
  induction l with
  | nil => intro m ok _; exact ⟨ok, geo_refl, same_refl, fun _ => rfl, rfl, by show m 7 = m 7 + 0; rw [add0]⟩
  | cons k t ih =>
    intro m ok hI
    have hk := hI k List.mem_cons_self
    obtain ⟨a1, a2, a3, a4, a5, a6⟩ := hf m k ok hk.1 hk.2
    obtain ⟨b1, b2, b3, b4, b5, b6⟩ := ih (f m k).2 a1 (inb_same (inb_tl hI) a2 a3)
    refine ⟨b1, geo_trans a2 b2, same_trans a3 b3, fun h => ?_, ?_, ?_⟩
    · have h' : (mPh f t (f m k).2).1 + (if (f m k).1 = true then 1 else 0) = 0 := h
      have h1 : (f m k).1 = false := by
        cases hc : (f m k).1 with
        | false => rfl
        | true => rw [hc, if_pos rfl] at h'; omega
      have h2 : (mPh f t (f m k).2).1 = 0 := by omega
      have := b4 h2
      rw [a4 h1] at this
      show (mPh f t (f m k).2).2 = m
      rw [a4 h1]
      exact this
    · show (mPh f t (f m k).2).2 4 = m 4
      rw [b5, a5]
    · show (mPh f t (f m k).2).2 7 = m 7 + nI ((mPh f t (f m k).2).1 + (if (f m k).1 = true then 1 else 0))
      rw [b6]
      cases hc : (f m k).1 with
      | false => rw [a4 hc, if_neg Bool.false_ne_true]; rfl
      | true => rw [a6 hc, if_pos rfl, ← nI_add1]; grind
noncomputable def mP1 (m : Vc) : Nat × Vc := mPh mFall (mOrd m false) m
noncomputable def mP2 (m : Vc) : Nat × Vc := mPh mRise (mOrd (mP1 m).2 true) (mP1 m).2
noncomputable def mTkN (m : Vc) : Nat := (mP1 m).1 + (mP2 m).1
noncomputable def mTkV (m : Vc) : Vc := vset (mP2 m).2 4 ((mP2 m).2 4 + 1)
theorem ord_inb (m : Vc) (bub : Bool) : Inb m (mOrd m bub) := fun k hk => by
  have := ordL_mem m bub _ k hk
  exact ⟨this.1, sel_in this.2⟩
theorem p1_facts {m : Vc} (ok : OKm m) : PHX m (mP1 m) := ph_facts (fun _ _ o a b => fall_facts o a b) _ m ok (ord_inb m false)
theorem p2_facts {m : Vc} (ok : OKm m) : PHX (mP1 m).2 (mP2 m) := ph_facts (fun _ _ o a b => rise_facts o a b) _ _ (p1_facts ok).1 (ord_inb _ true)
theorem tk_ok {m : Vc} (ok : OKm m) : OKm (mTkV m) := okc_vset (.inl rfl) (p2_facts ok).1
theorem tk_0 {m : Vc} (ok : OKm m) (h : mTkN m = 0) : (mP2 m).2 = m := by
  unfold mTkN at h
  have h1 := (p1_facts ok).2.2.2.1 (by omega)
  have h2 := (p2_facts ok).2.2.2.1 (by omega)
  rw [h2, h1]
theorem tk_7 {m : Vc} (ok : OKm m) : (mP2 m).2 7 - m 7 = nI (mTkN m) := by
  have h1 := (p1_facts ok).2.2.2.2.2
  have h2 := (p2_facts ok).2.2.2.2.2
  unfold mTkN
  rw [h2, h1, ← nI_addn]
  grind
theorem ph_len (f : Vc → Nat → Bool × Vc) (l : List Nat) : ∀ m, (mPh f l m).1 ≤ l.length := by
  induction l with
  | nil => intro m; exact Nat.le_refl _
  | cons k t ih =>
    intro m
    show (mPh f t (f m k).2).1 + (if (f m k).1 = true then 1 else 0) ≤ t.length + 1
    have := ih (f m k).2
    split <;> omega
theorem tkN_le {m : Vc} (ok : OKm m) : mTkN m ≤ 60 := by
  have h1 := ph_len mFall (mOrd m false) m
  have h2 := ph_len mRise (mOrd (mP1 m).2 true) (mP1 m).2
  have h3 := ordL_len m false (mN m)
  have h4 := ordL_len (mP1 m).2 true (mN (mP1 m).2)
  have h5 := came_le ok
  have h6 := came_le (p1_facts ok).1
  unfold mTkN mP2
  unfold mOrd at *
  have e1 : (mP1 m).1 ≤ 30 := by
    show (mPh mFall (mOrd m false) m).1 ≤ 30
    unfold mOrd
    omega
  omega
