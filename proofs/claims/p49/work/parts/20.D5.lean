theorem gChk_at {a : Int32} (ha : gAng a) {v k : Nat} (hv : v < 4) (hk : k < 169) : gChk a v k = true := by
  have h := gChk_fin v hv k hk
  simp only [Bool.and_eq_true] at h
  obtain ⟨⟨⟨⟨h1, h2⟩, h3⟩, h4⟩, h5⟩ := h
  rcases ha with e | e | e | e | e <;> subst e <;> assumption
theorem near6 {a r x y : Int32} (hr : rOK r) (h : gNear a r x y = true) : gNear a 6 x y = true := by
  have h6 : rOK 6 := ⟨by decide, by decide⟩
  rw [near_iff hr] at h
  rw [near_iff h6]
  have h1 := hr.1
  have h2 := hr.2
  obtain ⟨⟨h4, h5⟩, ⟨h6, h7⟩, h8⟩ := h
  refine ⟨⟨?_, ?_⟩, ⟨?_, ?_⟩, fun c => ⟨?_, ?_⟩⟩
  · grind
  · grind
  · grind
  · grind
  · have := (h8 c).1; grind
  · have := (h8 c).2; grind
section SEE
variable {a r : Int32} {v : Nat}
theorem gChk_p (ha : gAng a) (hr : rOK r) (hv : v < 4) {p : Int32 × Int32} (hp : gNear a r p.1 p.2 = true) : (gChk1 a v p 0 = true ∧ gChk1 a v p 1 = true) ∧ gChk2 a v p = true := by
  have hS := near_S hr hp
  have h := gChk_at ha hv (mk_lt hS)
  unfold gChk at h
  rw [mx_mk hS, my_mk hS, near6 hr hp] at h
  simpa using h
theorem see_far (ha : gAng a) (hr : rOK r) (hv : v < 4) {p : Int32 × Int32} (hp : gNear a r p.1 p.2 = true) {s} (hs : gSee a v p = some s) : s.1 ≤ 6 := by
  have h := (gChk_p ha hr hv hp).2
  unfold gChk2 at h
  rw [hs] at h
  simp only [Bool.and_eq_true, decide_eq_true_eq] at h
  exact h.1
theorem see_next (ha : gAng a) (hr : rOK r) (hv : v < 4) {p : Int32 × Int32} (hp : gNear a r p.1 p.2 = true) {s} (hs : gSee a v p = some s) {m : Nat} (hm : gCan a v m = true) : ∃ t, gSee a v (gMir a m p) = some t ∧ t.1 ≤ s.1 + 1 ∧ (t.1 = s.1 + 1 → t.2 = s.2) := by
  have h := (gChk_p ha hr hv hp).1
  have hm2 : m < 2 := by
    unfold gCan gMany at hm
    simp only [Bool.and_eq_true, decide_eq_true_eq] at hm
    split at hm <;> omega
  have h1 : gChk1 a v p m = true := by
    match m, hm2 with
    | 0, _ => exact h.1
    | 1, _ => exact h.2
  unfold gChk1 at h1
  rw [hm, hs] at h1
  cases ht : gSee a v (gMir a m p) with
  | none => rw [ht] at h1; cases h1
  | some t =>
    rw [ht] at h1
    simp only [Bool.not_true, Bool.false_or, Bool.and_eq_true, decide_eq_true_eq, Bool.or_eq_true, Bool.not_eq_true', decide_eq_false_iff_not] at h1
    refine ⟨t, rfl, h1.1, fun e => ?_⟩
    rcases h1.2 with h2 | h2
    · exact absurd e h2
    · exact h2
theorem mir_mir (ha : gAng a) {m : Nat} (p : Int32 × Int32) : gMir a m (gMir a m p) = p := by
  obtain ⟨x, y⟩ := p
  unfold gMir
  by_cases hm : m = 0
  · simp only [if_pos hm]
    cases gHex a <;> simp only [Bool.false_eq_true, if_false, if_true, Prod.mk.injEq] <;> constructor <;> grind
  · simp only [if_neg hm]
    by_cases h1 : a = 90
    · simp only [if_pos h1, Prod.mk.injEq]; constructor <;> grind
    · by_cases h2 : a = 60
      · simp only [if_neg h1, if_pos h2, Prod.mk.injEq]; constructor <;> grind
      · simp only [if_neg h1, if_neg h2]
theorem see_prev (ha : gAng a) (hr : rOK r) (hv : v < 4) {p : Int32 × Int32} (hp : gNear a r p.1 p.2 = true) {s} (hs : gSee a v p = some s) {f : Nat} (hf : s.1 = f + 1) : ∃ (q : Int32 × Int32) (m : Nat) (t : Nat × Int32 × Int32), gCan a v m = true ∧ gNear a r q.1 q.2 = true ∧ gMir a m q = p ∧ gSee a v q = some t ∧ t.1 = f := by
  have h := (gChk_p ha hr hv hp).2
  unfold gChk2 at h
  rw [hs] at h
  simp only [Bool.and_eq_true, decide_eq_true_eq, Bool.or_eq_true] at h
  rcases h.2 with h0 | h1 | h1
  · omega
  · refine ⟨gMir a 0 p, 0, ?_⟩
    cases ht : gSee a v (gMir a 0 p) with
    | none => rw [ht] at h1; exact absurd h1.2 (by simp)
    | some t =>
      rw [ht] at h1
      simp only [decide_eq_true_eq] at h1
      exact ⟨t, h1.1, near_mir ha hr hp, mir_mir ha p, rfl, by omega⟩
  · refine ⟨gMir a 1 p, 1, ?_⟩
    cases ht : gSee a v (gMir a 1 p) with
    | none => rw [ht] at h1; exact absurd h1.2 (by simp)
    | some t =>
      rw [ht] at h1
      simp only [decide_eq_true_eq] at h1
      exact ⟨t, h1.1, near_mir ha hr hp, mir_mir ha p, rfl, by omega⟩
theorem fol_near (ha : gAng a) (hr : rOK r) (n : Nat) : ∀ (u m : Nat) (p : Int32 × Int32) s, gNear a r p.1 p.2 = true → gFol a v n u m p = some s → gBox a r s.2.1 s.2.2 = true := by
  induction n with
  | zero => intro u m p s _ h; cases h
  | succ n ih =>
    intro u m p s hp h
    unfold gFol at h
    have hn := near_mir (m := m) ha hr hp
    split at h
    · split at h
      · next hb =>
        cases h
        unfold gBox
        rw [hn, hb]; rfl
      · exact ih _ _ _ _ hn h
    · cases h
theorem see_box (ha : gAng a) (hr : rOK r) {p : Int32 × Int32} (hp : gNear a r p.1 p.2 = true) {s} (hs : gSee a v p = some s) : gBox a r s.2.1 s.2.2 = true := by
  unfold gSee at hs
  split at hs
  · next hb =>
    cases hs
    unfold gBox
    rw [hp, hb]; rfl
  · cases h0 : gFol a v 6 1 0 p with
    | none =>
      rw [h0] at hs
      exact fol_near ha hr 6 1 1 p s hp hs
    | some t0 =>
      rw [h0] at hs
      cases h1 : gFol a v 6 1 1 p with
      | none =>
        rw [h1] at hs
        simp only [gBest] at hs
        cases hs
        exact fol_near ha hr 6 1 0 p _ hp h0
      | some t1 =>
        rw [h1] at hs
        simp only [gBest] at hs
        split at hs
        · cases hs; exact fol_near ha hr 6 1 1 p _ hp h1
        · cases hs; exact fol_near ha hr 6 1 0 p _ hp h0
theorem fol_pos (n : Nat) : ∀ (u m : Nat) (p : Int32 × Int32) s, gFol a v n u m p = some s → u ≤ s.1 := by
  induction n with
  | zero => intro u m p s h; cases h
  | succ n ih =>
    intro u m p s h
    unfold gFol at h
    split at h
    · split at h
      · cases h; exact Nat.le_refl _
      · exact Nat.le_trans (Nat.le_succ u) (ih _ _ _ _ h)
    · cases h
theorem see_0 {p : Int32 × Int32} {s} (hs : gSee a v p = some s) (h0 : s.1 = 0) : gBet a p.1 p.2 = true ∧ s.2 = p := by
  unfold gSee at hs
  split at hs
  · next hb => cases hs; exact ⟨hb, rfl⟩
  · exfalso
    cases h0' : gFol a v 6 1 0 p with
    | none =>
      rw [h0'] at hs
      have := fol_pos 6 1 1 p s hs
      omega
    | some t0 =>
      rw [h0'] at hs
      have e0 := fol_pos 6 1 0 p t0 h0'
      cases h1 : gFol a v 6 1 1 p with
      | none => rw [h1] at hs; simp only [gBest] at hs; cases hs; omega
      | some t1 =>
        have e1 := fol_pos 6 1 1 p t1 h1
        rw [h1] at hs
        simp only [gBest] at hs
        split at hs <;> cases hs <;> omega
end SEE
def mSee (m : Vc) (x y : Int32) : Option (Nat × Int32 × Int32) := if gNear (m 0) (m 1) x y = true then gSee (m 0) (mV m) (x, y) else none
def mRef (m : Vc) (x y : Int32) : Int32 := match mSee m x y with | none => -1 | some s => nI s.1
noncomputable def mColC (m : Vc) (o : Option (Nat × Int32 × Int32)) : Int32 := match o with | none => 0 | some s => if mBd m s.2.1 s.2.2 = -1 then 0 else mC m (mBd m s.2.1 s.2.2).toNatClampNeg 1
noncomputable def mCol (m : Vc) (x y : Int32) : Int32 := mColC m (mSee m x y)
def StK (τ : Sto) (k : Nat) (s : Nat × Int32 × Int32) : Prop := τ 143 k = nI s.1 ∧ τ 144 k = fX7_cell s.2.1 s.2.2
def SI (m : Vc) (far : Nat) (τ : Sto) : Prop := ∀ k, k < 169 → match mSee m (mx k) (my k) with
  | none => τ 143 k = -1
  | some s => (s.1 ≤ far → StK τ k s) ∧ (s.1 = far + 1 → τ 143 k = -1 ∨ StK τ k s) ∧ (far + 1 < s.1 → τ 143 k = -1)
theorem nI_ne1 {n : Nat} (h : n < 2147483648) : nI n ≠ -1 := by
  intro c
  have : (nI n).toInt = n := nI_i h
  rw [c] at this
  have h1 : (-1 : Int32).toInt = -1 := by decide
  omega
theorem many_le {a : Int32} : 1 ≤ gMany a ∧ gMany a ≤ 2 := by unfold gMany; split <;> decide
theorem has_fin : ∀ v, v < 4 → ∀ m, m < 2 → fX7_has (nI v) (nI m) = v.testBit m := by decide
theorem see_near {m : Vc} {x y : Int32} {s} (h : mSee m x y = some s) : gNear (m 0) (m 1) x y = true ∧ gSee (m 0) (mV m) (x, y) = some s := by
  unfold mSee at h
  split at h
  · next h1 => exact ⟨h1, h⟩
  · cases h
theorem see_of {m : Vc} {x y : Int32} (h : gNear (m 0) (m 1) x y = true) : mSee m x y = gSee (m 0) (mV m) (x, y) := by
  unfold mSee
  rw [if_pos h]
def P3 (p : Nat) : Prop := p ≠ 133 ∧ p ≠ 143 ∧ p ≠ 144
def FR (S : Nat → Prop) (τ ρ : Sto) : Prop := (∀ p, S p → ρ p = τ p) ∧ ∀ i, i ≠ 10 → i ≠ 11 → ρ 133 i = τ 133 i
theorem fr_refl {S : Nat → Prop} {τ : Sto} : FR S τ τ := ⟨fun _ _ => rfl, fun _ _ _ => rfl⟩
theorem fr_trans {S : Nat → Prop} {τ ρ π : Sto} (h : FR S τ ρ) (h' : FR S ρ π) : FR S τ π := ⟨fun p hp => by rw [h'.1 p hp, h.1 p hp], fun i h1 h2 => by rw [h'.2 i h1 h2, h.2 i h1 h2]⟩
theorem mst_133 {τ : Sto} {q : Int32 × Int32} {i : Nat} (h1 : i ≠ 10) (h2 : i ≠ 11) : mst τ q 133 i = τ 133 i := by
  unfold mst
  rw [su_i h2, su_i h1]
theorem fr_mst {S : Nat → Prop} (hS : ∀ p, S p → p ≠ 133) {τ : Sto} {q : Int32 × Int32} : FR S τ (mst τ q) := ⟨fun p hp => mst_of (hS p hp), fun i h1 h2 => mst_133 h1 h2⟩
theorem fr_su {S : Nat → Prop} {k : Nat} (hk : k ≠ 133) (hS : ∀ p, S p → p ≠ k) {τ : Sto} {i : Nat} {v : Int32} : FR S τ (su τ k i v) := ⟨fun p hp => su_k (hS p hp), fun j _ _ => by rw [su_k (Ne.symm hk)]⟩
theorem p3a : ∀ p, P3 p → p ≠ 133 := fun _ h => h.1
theorem p3b : ∀ p, P3 p → p ≠ 143 := fun _ h => h.2.1
theorem p3c : ∀ p, P3 p → p ≠ 144 := fun _ h => h.2.2
theorem m_spread_L {m : Vc} (ok : OKm m) {far k : Nat} (hk : k < 169) (hfar : far ≤ 100) {s} (hs : mSee m (mx k) (my k) = some s) (hs1 : s.1 = far) (n : Nat) : ∀ (i fu : Nat) (v : Int32) (τ : Sto), i + n = gMany (m 0) → n < fu → (v = 0 ∨ v = 1) → τ 134 = m → SI m far τ →
    ∃ b ρ, fX7_spreadsFrom_L4 (nI k) fu v (nI i) τ = some (b, ρ) ∧ SI m far ρ ∧ (v = 1 → b = true) ∧ (b = false → ∀ j, j < 169 → ρ 143 j = τ 143 j) ∧ (∀ j, τ 143 j ≠ -1 → ρ 143 j ≠ -1) ∧ FR P3 τ ρ ∧
      ∀ j, i ≤ j → j < gMany (m 0) → gCan (m 0) (mV m) j = true → ρ 143 (mk (gMir (m 0) j (mx k, my k)).1 (gMir (m 0) j (mx k, my k)).2) ≠ -1 := by
  have ha := ok.1
  have hr := ok.2.1
  have hv := ok.2.2.2.2.2.1
  have hml := @many_le (m 0)
  have hnr := see_near hs
  induction n with
  | zero =>
    intro i fu v τ hi hf hv01 hτ hI
    match fu, hf with
    | fu + 1, _ =>
      unfold fX7_spreadsFrom_L4
      simp only [m_many, Option.bind_some, hτ]
      rw [if_pos ((dI_le (by omega) (by omega)).2 (by omega)), if_pos (by rcases hv01 with h | h <;> subst h <;> decide)]
      refine ⟨_, _, rfl, hI, fun h => by rw [h]; rfl, fun _ _ _ => rfl, fun _ h => h, fr_refl, fun j h1 h2 => absurd h2 (by omega)⟩
  | succ n ih =>
    intro i fu v τ hi hf hv01 hτ hI
    match fu, hf with
    | fu + 1, hf =>
      unfold fX7_spreadsFrom_L4
      have h6 : τ 134 6 = nI (mV m) := by rw [hτ]; exact hv.1
      simp only [m_many, Option.bind_some, hτ]
      rw [if_neg (by rw [dI_le (by omega) (by omega)]; omega), if_pos (by decide), z6, hv.1, has_fin _ hv.2 _ (by omega)]
      have hi2 : i < 2 := by omega
      cases hb : (mV m).testBit i with
      | true =>
        simp only [if_true, fX7_spreadsFrom_L100, nI_add1]
        obtain ⟨b, ρ, e, h1, h2, h3, h4, h5, h7⟩ := ih (i + 1) fu v τ (by omega) (by omega) hv01 hτ hI
        refine ⟨b, ρ, e, h1, h2, h3, h4, h5, fun j j1 j2 j3 => ?_⟩
        by_cases hj : j = i
        · subst hj
          unfold gCan at j3
          rw [hb] at j3
          simp at j3
        · exact h7 j (by omega) j2 j3
      | false =>
        have hcan : gCan (m 0) (mV m) i = true := by
          unfold gCan
          rw [hb]
          simp
          omega
        have e0 : fX7_stands (fX7_xOf (nI k)) (fX7_yOf (nI k)) τ = mst τ (mx k, my k) := rfl
        simp only [Bool.false_eq_true, if_false, e0, m_mirrors hi2, Option.bind_some, hτ, mst_px, mst_py]
        have hnear' := near_mir (m := i) ha hr (p := (mx k, my k)) hnr.1
        obtain ⟨t, ht, ht1, ht2⟩ := see_next (p := (mx k, my k)) ha hr hv.2 hnr.1 hnr.2 hcan
        generalize hq : gMir (m 0) i (mx k, my k) = q at *
        have hqS := near_S hr hnear'
        have hto := mk_lt hqS
        have hI' := hI _ hto
        rw [mx_mk hqS, my_mk hqS, see_of hnear', ht] at hI'
        simp only at hI'
        have hck : StK τ k s := by
          have := hI k hk
          rw [hs] at this
          exact this.1 (by omega)
        have hkin := mcell_kin hqS
        have e143 : (mst τ q) 143 = τ 143 := mst_of (by decide)
        have e144 : (mst τ q) 144 = τ 144 := mst_of (by decide)
        simp only [hkin, if_true, e143]
        rw [show (fX7_cell q.1 q.2).toNatClampNeg = mk q.1 q.2 from rfl]
        by_cases hset : τ 143 (mk q.1 q.2) = -1
        · have hkk : kin (nI k) 169 = true := kin_nI hk (by decide)
          rw [if_pos hset, if_pos hkk]
          simp only [hkk, if_true, klet_eq, nI_n (show k < 2147483648 by omega), fX7_spreadsFrom_L100, nI_add1]
          have ht3 : t.1 = far + 1 := by
            have := hI'.1
            by_cases hle : t.1 ≤ far
            · have := (this hle).1
              rw [hset] at this
              exact absurd this.symm (nI_ne1 (by omega))
            · omega
          have et2 : t.2 = s.2 := ht2 (by omega)
          have e1 : su (mst τ q) 143 (mk q.1 q.2) (τ 143 k + 1) 144 k = τ 144 k := by
            rw [su_k (by decide), e144]
          rw [e1, hck.1, hck.2, nI_add1]
          have hτ' : su (su (mst τ q) 143 (mk q.1 q.2) (nI (s.1 + 1))) 144 (mk q.1 q.2) (fX7_cell s.2.1 s.2.2) 134 = m := by
            rw [su_k (by decide), su_k (by decide), mst_of (by decide), hτ]
          have c3 : ∀ j, su (su (mst τ q) 143 (mk q.1 q.2) (nI (s.1 + 1))) 144 (mk q.1 q.2) (fX7_cell s.2.1 s.2.2) 143 j = if j = mk q.1 q.2 then nI (s.1 + 1) else τ 143 j := by
            intro j
            rw [su_k (by decide), su_at, e143]
          have c4 : ∀ j, su (su (mst τ q) 143 (mk q.1 q.2) (nI (s.1 + 1))) 144 (mk q.1 q.2) (fX7_cell s.2.1 s.2.2) 144 j = if j = mk q.1 q.2 then fX7_cell s.2.1 s.2.2 else τ 144 j := by
            intro j
            rw [su_at, su_k (by decide), e144]
          have hfr : FR P3 τ (su (su (mst τ q) 143 (mk q.1 q.2) (nI (s.1 + 1))) 144 (mk q.1 q.2) (fX7_cell s.2.1 s.2.2)) :=
            fr_trans (fr_trans (fr_mst p3a) (fr_su (by decide) p3b)) (fr_su (by decide) p3c)
          generalize su (su (mst τ q) 143 (mk q.1 q.2) (nI (s.1 + 1))) 144 (mk q.1 q.2) (fX7_cell s.2.1 s.2.2) = τ' at *
          have hI2 : SI m far τ' := by
            intro j hj
            by_cases hjq : j = mk q.1 q.2
            · subst hjq
              rw [mx_mk hqS, my_mk hqS, see_of hnear', ht]
              have : StK τ' (mk q.1 q.2) t := by
                unfold StK
                rw [c3, c4, if_pos rfl, if_pos rfl, et2, ht3, hs1]
                exact ⟨rfl, rfl⟩
              exact ⟨fun _ => this, fun _ => .inr this, fun c => by omega⟩
            · have h0 := hI j hj
              have d3 : τ' 143 j = τ 143 j := by rw [c3, if_neg hjq]
              have d4 : τ' 144 j = τ 144 j := by rw [c4, if_neg hjq]
              unfold StK at *
              rw [d3, d4]
              exact h0
          obtain ⟨b, ρ, e, h1, h2, h3, h4, h5, h7⟩ := ih (i + 1) fu 1 τ' (by omega) (by omega) (.inr rfl) hτ' hI2
          have hb1 := h2 rfl
          subst hb1
          refine ⟨true, ρ, e, h1, fun _ => rfl, Bool.noConfusion, fun j hj => h4 j ?_, fr_trans hfr h5, fun j j1 j2 j3 => ?_⟩
          · rw [c3]
            split
            · exact nI_ne1 (by omega)
            · exact hj
          · by_cases hj : j = i
            · subst hj
              rw [hq]
              apply h4
              rw [c3, if_pos rfl]
              exact nI_ne1 (by omega)
            · exact h7 j (by omega) j2 j3
        · rw [if_neg hset]
          simp only [fX7_spreadsFrom_L100, nI_add1]
          have hI2 : SI m far (mst τ q) := by
            intro j hj
            unfold StK
            rw [e143, e144]
            exact hI j hj
          obtain ⟨b, ρ, e, h1, h2, h3, h4, h5, h7⟩ := ih (i + 1) fu v (mst τ q) (by omega) (by omega) hv01 (by rw [mst_of (by decide)]; exact hτ) hI2
          refine ⟨b, ρ, e, h1, h2, fun c j hj => by rw [h3 c j hj, e143], fun j hj => h4 j (by rw [e143]; exact hj), fr_trans (fr_mst p3a) h5, fun j j1 j2 j3 => ?_⟩
          by_cases hj : j = i
          · subst hj
            rw [hq]
            apply h4
            rw [e143]
            exact hset
          · exact h7 j (by omega) j2 j3
theorem see_far' {m : Vc} (ok : OKm m) {x y : Int32} {s} (hs : mSee m x y = some s) : s.1 ≤ 6 :=
  see_far (p := (x, y)) ok.1 ok.2.1 ok.2.2.2.2.2.1.2 (see_near hs).1 (see_near hs).2
def SJ (m : Vc) (far i : Nat) (τ : Sto) : Prop := ∀ k, k < i → k < 169 → ∀ s, mSee m (mx k) (my k) = some s → s.1 = far → ∀ j, j < gMany (m 0) → gCan (m 0) (mV m) j = true → τ 143 (mk (gMir (m 0) j (mx k, my k)).1 (gMir (m 0) j (mx k, my k)).2) ≠ -1
theorem si_at {m : Vc} {far k : Nat} {τ : Sto} (ok : OKm m) (hfar : far ≤ 100) (hk : k < 169) (hI : SI m far τ) : τ 143 k = nI far ↔ ∃ s, mSee m (mx k) (my k) = some s ∧ s.1 = far := by
  have h := hI k hk
  cases hs : mSee m (mx k) (my k) with
  | none =>
    rw [hs] at h
    simp only at h
    constructor
    · intro c
      rw [h] at c
      exact absurd c.symm (nI_ne1 (by omega))
    · rintro ⟨s, h1, _⟩; cases h1
  | some s =>
    rw [hs] at h
    simp only at h
    have h6 := see_far' ok hs
    constructor
    · intro c
      refine ⟨s, rfl, ?_⟩
      by_cases h1 : s.1 ≤ far
      · have := (h.1 h1).1
        rw [c] at this
        exact ((nI_inj (by omega) (by omega)).1 this).symm
      · by_cases h2 : s.1 = far + 1
        · rcases h.2.1 h2 with h3 | h3
          · rw [h3] at c; exact absurd c.symm (nI_ne1 (by omega))
          · have := h3.1
            rw [c] at this
            have := (nI_inj (by omega) (by omega)).1 this
            omega
        · have := h.2.2 (by omega)
          rw [this] at c; exact absurd c.symm (nI_ne1 (by omega))
    · rintro ⟨s', h1, h2⟩
      cases h1
      rw [(h.1 (by omega)).1, h2]
theorem m_pass {m : Vc} (ok : OKm m) {far : Nat} (hfar : far ≤ 100) {K : Int32 → Int32 → Sto → Option Sto} (n : Nat) : ∀ (i fu : Nat) (v : Int32) (τ : Sto), i + n = 169 → n < fu → (v = 0 ∨ v = 1) → τ 134 = m → SI m far τ → (v = 0 → ∀ j, j < 169 → τ 143 j ≠ nI (far + 1)) → SJ m far i τ →
    ∃ v' ρ, fX7_laysSeen_L53 K fu v (nI far) (nI i) τ = K v' (nI (far + 1)) ρ ∧ (v' = 0 ∨ v' = 1) ∧ SI m far ρ ∧ (v' = 0 → ∀ j, j < 169 → ρ 143 j ≠ nI (far + 1)) ∧ SJ m far 169 ρ ∧ (7 ≤ far → v' = v) ∧ FR P3 τ ρ := by
  induction n with
  | zero =>
    intro i fu v τ hi hf hv hτ hI hF hJ
    match fu, hf with
    | fu + 1, _ =>
      unfold fX7_laysSeen_L53
      rw [← e169, if_pos ((dI_le (by omega) (by omega)).2 (by omega)), nI_add1]
      have : i = 169 := by omega
      subst this
      exact ⟨v, τ, rfl, hv, hI, hF, hJ, fun _ => rfl, fr_refl⟩
  | succ n ih =>
    intro i fu v τ hi hf hv hτ hI hF hJ
    match fu, hf with
    | fu + 1, hf =>
      unfold fX7_laysSeen_L53
      have hk : i < 169 := by omega
      rw [← e169, if_neg (by rw [dI_le (by omega) (by omega)]; omega), if_pos (kin_nI hk (by decide)), nI_n (by omega)]
      simp only [fX7_laysSeen_L80, nI_add1]
      by_cases hc : τ 143 i = nI far
      · rw [if_pos hc]
        obtain ⟨s, hs, hs1⟩ := (si_at ok hfar hk hI).1 hc
        have h6 := see_far' ok hs
        have hml := @many_le (m 0)
        obtain ⟨b, ρ, e, h1, h2, h3, h4, h5, h7⟩ := m_spread_L ok hk hfar hs hs1 (gMany (m 0)) 0 kFU 0 τ (by omega) (by unfold kFU; omega) (.inl rfl) hτ hI
        have e' : fX7_spreadsFrom (nI i) τ = some (b, ρ) := e
        rw [e', Option.bind_some]
        have hτ' : ρ 134 = m := by rw [h5.1 134 ⟨by decide, by decide, by decide⟩, hτ]
        have hJ' : SJ m far (i + 1) ρ := by
          intro k k1 k2 s' s1 s2 j j1 j2
          by_cases hki : k = i
          · subst hki
            exact h7 j (by omega) j1 j2
          · exact h4 _ (hJ k (by omega) k2 s' s1 s2 j j1 j2)
        cases b with
        | true =>
          rw [if_pos rfl]
          obtain ⟨v', ρ', e2, g1, g2, g3, g4, g5, g6⟩ := ih (i + 1) fu 1 ρ (by omega) (by omega) (.inr rfl) hτ' h1 (fun c => absurd c (by decide)) hJ'
          exact ⟨v', ρ', e2, g1, g2, g3, g4, fun c => by omega, fr_trans h5 g6⟩
        | false =>
          rw [if_neg Bool.false_ne_true]
          obtain ⟨v', ρ', e2, g1, g2, g3, g4, g5, g6⟩ := ih (i + 1) fu v ρ (by omega) (by omega) hv hτ' h1 (fun c j hj => by rw [h3 rfl j hj]; exact hF c j hj) hJ'
          exact ⟨v', ρ', e2, g1, g2, g3, g4, fun c => by omega, fr_trans h5 g6⟩
      · rw [if_neg hc]
        have hJ' : SJ m far (i + 1) τ := by
          intro k k1 k2 s' s1 s2 j j1 j2
          by_cases hki : k = i
          · subst hki
            exact absurd ((si_at ok hfar k2 hI).2 ⟨s', s1, s2⟩) hc
          · exact hJ k (by omega) k2 s' s1 s2 j j1 j2
        exact ih (i + 1) fu v τ (by omega) (by omega) hv hτ hI hF hJ'
def SEEN (m : Vc) (τ : Sto) : Prop := ∀ k, k < 169 → match mSee m (mx k) (my k) with
  | none => τ 143 k = -1
  | some s => StK τ k s
theorem see_prev' {m : Vc} (ok : OKm m) {k : Nat} (hk : k < 169) {s} (hs : mSee m (mx k) (my k) = some s) {f : Nat} (hf : s.1 = f + 1) : ∃ k' j t, k' < 169 ∧ j < gMany (m 0) ∧ gCan (m 0) (mV m) j = true ∧ mSee m (mx k') (my k') = some t ∧ t.1 = f ∧ mk (gMir (m 0) j (mx k', my k')).1 (gMir (m 0) j (mx k', my k')).2 = k := by
  obtain ⟨q, j, t, h1, h2, h3, h4, h5⟩ := see_prev (p := (mx k, my k)) ok.1 ok.2.1 ok.2.2.2.2.2.1.2 (see_near hs).1 (see_near hs).2 hf
  have hS := near_S ok.2.1 h2
  refine ⟨mk q.1 q.2, j, t, mk_lt hS, ?_, h1, ?_, h5, ?_⟩
  · unfold gCan at h1
    rw [Bool.and_eq_true, decide_eq_true_eq] at h1
    exact h1.1
  · rw [mx_mk hS, my_mk hS, see_of h2]
    exact h4
  · rw [mx_mk hS, my_mk hS, h3]
    exact mxy_mk hk
def SZ (m : Vc) (far : Nat) (τ : Sto) : Prop := ∀ k, k < 169 → match mSee m (mx k) (my k) with
  | none => τ 143 k = -1
  | some s => (s.1 ≤ far → StK τ k s) ∧ (far < s.1 → τ 143 k = -1)
theorem sz_si {m : Vc} {far : Nat} {τ : Sto} (h : SZ m far τ) : SI m far τ := by
  intro k hk
  have h := h k hk
  cases hs : mSee m (mx k) (my k) with
  | none => rw [hs] at h; exact h
  | some s =>
    rw [hs] at h
    exact ⟨h.1, fun c => .inl (h.2 (by omega)), fun c => h.2 (by omega)⟩
theorem sz_no {m : Vc} (ok : OKm m) {far : Nat} (hfar : far ≤ 100) {τ : Sto} (h : SZ m far τ) {j : Nat} (hj : j < 169) : τ 143 j ≠ nI (far + 1) := by
  intro c
  have h := h j hj
  cases hs : mSee m (mx j) (my j) with
  | none => rw [hs] at h; simp only at h; rw [h] at c; exact nI_ne1 (by omega) c.symm
  | some s =>
    rw [hs] at h
    simp only at h
    by_cases h1 : s.1 ≤ far
    · have h2 := (h.1 h1).1
      rw [c] at h2
      have := (nI_inj (by omega) (by omega)).1 h2
      omega
    · rw [h.2 (by omega)] at c
      exact nI_ne1 (by omega) c.symm
theorem si_next {m : Vc} (ok : OKm m) {far : Nat} {τ : Sto} (hI : SI m far τ) (hJ : SJ m far 169 τ) : SZ m (far + 1) τ := by
  intro k hk
  have h := hI k hk
  cases hs : mSee m (mx k) (my k) with
  | none => rw [hs] at h; exact h
  | some s =>
    rw [hs] at h
    simp only at h ⊢
    refine ⟨fun h1 => ?_, fun h1 => h.2.2 (by omega)⟩
    by_cases h2 : s.1 ≤ far
    · exact h.1 h2
    · obtain ⟨k', j, t, a1, a2, a3, a4, a5, a6⟩ := see_prev' ok hk hs (f := far) (by omega)
      have h3 := hJ k' a1 a1 t a4 a5 j a2 a3
      rw [a6] at h3
      rcases h.2.1 (by omega) with h4 | h4
      · exact absurd h4 h3
      · exact h4
theorem si_no {m : Vc} (ok : OKm m) {far : Nat} {τ : Sto} (hI : SZ m far τ) (hF : ∀ j, j < 169 → τ 143 j ≠ nI far) (d : Nat) : ∀ k s, k < 169 → mSee m (mx k) (my k) = some s → s.1 ≠ far + d := by
  induction d with
  | zero =>
    intro k s hk hs c
    have h := hI k hk
    rw [hs] at h
    have := (h.1 (by omega)).1
    rw [c] at this
    exact hF k hk this
  | succ d ih =>
    intro k s hk hs c
    obtain ⟨k', j, t, a1, a2, a3, a4, a5, a6⟩ := see_prev' ok hk hs (f := far + d) (by omega)
    exact ih k' t a1 a4 a5
theorem si_end {m : Vc} (ok : OKm m) {far : Nat} {τ : Sto} (hI : SZ m far τ) (hF : ∀ j, j < 169 → τ 143 j ≠ nI far) : SEEN m τ := by
  intro k hk
  have h := hI k hk
  cases hs : mSee m (mx k) (my k) with
  | none => rw [hs] at h; exact h
  | some s =>
    rw [hs] at h
    simp only at h ⊢
    refine h.1 (Nat.le_of_not_lt fun c => ?_)
    exact si_no ok hI hF (s.1 - far) k s hk hs (by omega)
theorem m_levels {m : Vc} (ok : OKm m) (n : Nat) : ∀ (far fu : Nat) (v : Int32) (τ : Sto), far + n = 9 → n < fu → (v = 0 ∨ v = 1) → τ 134 = m → SZ m far τ → (v = 0 → ∀ j, j < 169 → τ 143 j ≠ nI far) → (8 ≤ far → v = 0) →
    ∃ ρ, fX7_laysSeen_L45 fu v (nI far) τ = some ρ ∧ SEEN m ρ ∧ FR P3 τ ρ := by
  induction n with
  | zero =>
    intro far fu v τ hi hf hv hτ hI hF h8
    match fu, hf with
    | fu + 1, _ =>
      unfold fX7_laysSeen_L45
      rw [if_pos (h8 (by omega))]
      exact ⟨τ, rfl, si_end ok hI (hF (h8 (by omega))), fr_refl⟩
  | succ n ih =>
    intro far fu v τ hi hf hv hτ hI hF h8
    match fu, hf with
    | fu + 1, hf =>
      unfold fX7_laysSeen_L45
      by_cases h0 : v = 0
      · rw [if_pos h0]
        exact ⟨τ, rfl, si_end ok hI (hF h0), fr_refl⟩
      · rw [if_neg h0]
        obtain ⟨v', ρ, e, g1, g2, g3, g4, g5, g6⟩ := m_pass (K := fX7_laysSeen_L45 fu) ok (far := far) (by omega) 169 0 kFU 0 τ (by omega) (by unfold kFU; omega) (.inl rfl) hτ (sz_si hI) (fun _ j hj => sz_no ok (by omega) hI hj) (fun k hk => absurd hk (by omega))
        have e' : fX7_laysSeen_L53 (fX7_laysSeen_L45 fu) kFU 0 (nI far) 0 τ = fX7_laysSeen_L45 fu v' (nI (far + 1)) ρ := e
        rw [e']
        obtain ⟨ρ', e2, f1, f2⟩ := ih (far + 1) fu v' ρ (by omega) (by omega) g1 (by rw [g6.1 134 ⟨by decide, by decide, by decide⟩, hτ]) (si_next ok g2 g4) g3 (fun c => g5 (by omega))
        exact ⟨ρ', e2, f1, fr_trans g6 f2⟩
theorem see_box0 {m : Vc} {x y : Int32} (h : gBox (m 0) (m 1) x y = true) : mSee m x y = some (0, x, y) := by
  rw [see_of (box_near h)]
  unfold gSee
  unfold gBox at h
  rw [Bool.and_eq_true] at h
  rw [if_pos h.2]
theorem see_nbox {m : Vc} {x y : Int32} {s} (h : ¬ gBox (m 0) (m 1) x y = true) (hs : mSee m x y = some s) : 0 < s.1 := by
  rcases Nat.eq_zero_or_pos s.1 with c | c
  · exfalso
    have h1 := see_near hs
    have := (see_0 h1.2 c).1
    apply h
    unfold gBox
    rw [h1.1, this]; rfl
  · exact c
theorem m_laysSeen_L2 {m : Vc} (ok : OKm m) (n : Nat) : ∀ (i fu : Nat) (τ : Sto), i + n = 169 → n < fu → τ 134 = m → (∀ k, k < i → τ 143 k = (if gBox (m 0) (m 1) (mx k) (my k) = true then 0 else -1) ∧ τ 144 k = nI k) →
    ∃ ρ, fX7_laysSeen_L2 fu (nI i) τ = some ρ ∧ SEEN m ρ ∧ FR P3 τ ρ := by
  induction n with
  | zero =>
    intro i fu τ hi hf hτ hx
    match fu, hf with
    | fu + 1, _ =>
      unfold fX7_laysSeen_L2
      rw [← e169, if_pos ((dI_le (by omega) (by omega)).2 (by omega))]
      refine m_levels ok 9 0 kFU 1 τ rfl (by unfold kFU; omega) (.inr rfl) hτ (fun k hk => ?_) (fun c => absurd c (by decide)) (fun c => by omega)
      have h := hx k (by omega)
      cases hs : mSee m (mx k) (my k) with
      | none =>
        simp only
        rw [h.1, if_neg]
        intro c
        rw [see_box0 c] at hs
        cases hs
      | some s =>
        simp only
        by_cases hb : gBox (m 0) (m 1) (mx k) (my k) = true
        · rw [see_box0 hb] at hs
          cases hs
          rw [if_pos hb] at h
          exact ⟨fun _ => ⟨h.1, by rw [h.2]; exact (mxy_at hk).symm⟩, fun c => absurd c (by simp)⟩
        · have := see_nbox hb hs
          rw [if_neg hb] at h
          exact ⟨fun c => by omega, fun _ => h.1⟩
  | succ n ih =>
    intro i fu τ hi hf hτ hx
    match fu, hf with
    | fu + 1, hf =>
      unfold fX7_laysSeen_L2
      have hkk : kin (nI i) 169 = true := kin_nI (by omega) (by decide)
      rw [← e169, if_neg (by rw [dI_le (by omega) (by omega)]; omega), m_boxCell]
      simp only [Option.bind_some, hkk, if_true, klet_eq, nI_add1, nI_n (show i < 2147483648 by omega), hτ]
      have hx' : ∀ v : Int32, v = (if gBox (m 0) (m 1) (mx i) (my i) = true then 0 else -1) → ∀ k, k < i + 1 → su (su τ 143 i v) 144 i (nI i) 143 k = (if gBox (m 0) (m 1) (mx k) (my k) = true then 0 else -1) ∧ su (su τ 143 i v) 144 i (nI i) 144 k = nI k := by
        intro v hv k hk
        rw [su_k (show 143 ≠ 144 by decide), su_at, su_at, su_k (show 144 ≠ 143 by decide)]
        by_cases hki : k = i
        · subst hki
          rw [if_pos rfl, if_pos rfl]
          exact ⟨hv, rfl⟩
        · rw [if_neg hki, if_neg hki]
          exact hx k (by omega)
      have hfr : ∀ v : Int32, FR P3 τ (su (su τ 143 i v) 144 i (nI i)) := fun v => fr_trans (fr_su (by decide) p3b) (fr_su (by decide) p3c)
      have h134 : P3 134 := ⟨by decide, by decide, by decide⟩
      by_cases hb : gBox (m 0) (m 1) (mx i) (my i) = true
      · rw [if_pos hb]
        obtain ⟨ρ, e, h1, h2⟩ := ih (i + 1) fu _ (by omega) (by omega) (by rw [(hfr 0).1 134 h134, hτ]) (hx' 0 (by rw [if_pos hb]))
        exact ⟨ρ, e, h1, fr_trans (hfr 0) h2⟩
      · rw [if_neg hb]
        obtain ⟨ρ, e, h1, h2⟩ := ih (i + 1) fu _ (by omega) (by omega) (by rw [(hfr (-1)).1 134 h134, hτ]) (hx' (-1) (by rw [if_neg hb]))
        exact ⟨ρ, e, h1, fr_trans (hfr (-1)) h2⟩
theorem m_laysSeen {σ : Sto} (ok : OKm (σ 134)) : ∃ ρ, fX7_laysSeen σ = some ρ ∧ SEEN (σ 134) ρ ∧ FR P3 σ ρ :=
  m_laysSeen_L2 ok 169 0 kFU σ (by omega) (by unfold kFU; omega) rfl (fun k hk => absurd hk (by omega))
