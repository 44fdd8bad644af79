theorem j_fill_L {q0 n0 : Nat} (hn : n0 < 1000) {v : Int32} (n : Nat) : ∀ (i fu : Nat) (τ : Sto), i + n = n0 → n < fu → (∀ j, j < i → τ q0 j = v) →
    ∃ ρ, fJ7_fill_53178_L5 q0 n0 v fu (nI i) (nI n0) τ = some ρ ∧ (∀ j, j < n0 → ρ q0 j = v) ∧ ∀ p, p ≠ q0 → ρ p = τ p := by
  induction n with
  | zero =>
    intro i fu τ hi hf hx
    match fu, hf with
    | fu + 1, _ =>
      unfold fJ7_fill_53178_L5
      rw [if_pos ((dI_le (by omega) (by omega)).2 (by omega))]
      have : i = n0 := by omega
      subst this
      exact ⟨τ, rfl, hx, fun _ _ => rfl⟩
  | succ n ih =>
    intro i fu τ hi hf hx
    match fu, hf with
    | fu + 1, hf =>
      unfold fJ7_fill_53178_L5
      rw [if_neg (by rw [dI_le (by omega) (by omega)]; omega), if_pos (kin_nI (by omega) (by omega)), klet_eq, nI_n (by omega), nI_add1]
      obtain ⟨ρ, e, h1, h2⟩ := ih (i + 1) fu (su τ q0 i v) (by omega) (by omega) (fun j hj => by
        rw [su_at]
        split
        · rfl
        · exact hx j (by omega))
      exact ⟨ρ, e, h1, fun p hp => by rw [h2 p hp, su_k hp]⟩
theorem j_fill {q0 n0 : Nat} (hn : n0 < 1000) {v : Int32} {σ : Sto} : ∃ ρ, fJ7_fill_53178 q0 n0 v σ = some ρ ∧ (∀ j, j < n0 → ρ q0 j = v) ∧ ∀ p, p ≠ q0 → ρ p = σ p :=
  j_fill_L hn n0 0 kFU σ (by omega) (by unfold kFU; omega) (fun j hj => absurd hj (by omega))
theorem see_box' {m : Vc} (ok : OKm m) {x y : Int32} {s} (hs : mSee m x y = some s) : gBox (m 0) (m 1) s.2.1 s.2.2 = true :=
  see_box (p := (x, y)) ok.1 ok.2.1 (see_near hs).1 (see_near hs).2
theorem nI_lt0 {k : Nat} (hk : k < 2147483648) : (0 : Int32) ≤ nI k := (dI_le (a := 0) (by omega) hk).2 (by omega)
theorem mCol_rng {m : Vc} (ok : OKm m) (x y : Int32) : 0 ≤ mCol m x y ∧ mCol m x y ≤ 9 := by
  unfold mCol mColC
  cases mSee m x y with
  | none => show (0 : Int32) ≤ 0 ∧ (0 : Int32) ≤ 9; decide
  | some s =>
    simp only
    split
    · decide
    · next h =>
      rcases mBd_cases m s.2.1 s.2.2 with ⟨h1, _⟩ | ⟨k, h1, h2, h3⟩
      · exact absurd h1 h
      · have h4 := (ok_chip ok h1).2.2.1
        have hn := came_le ok
        rw [h3, nI_n (by omega)]
        constructor
        · have := h4.1; grind
        · exact h4.2
noncomputable def pC (m : Vc) (x y : Int32) : Int32 := if gNear (m 0) (m 1) x y = true then mCol m x y else -1
noncomputable def lC (m : Vc) (x y : Int32) : Int32 := if gNear (m 0) (m 1) x y = true then mCol m x y else 0
def PX (q : Nat) (m : Vc) (τ : Sto) : Prop := (∀ c, c < 225 → τ (q + 1) c = mSrc m (cx c) (cy c) ∧ τ (q + 2) c = mRef m (cx c) (cy c) ∧ τ (q + 3) c = pC m (cx c) (cy c)) ∧ ∀ j, j < 10 → τ (q + 4) j = sm (fun c => kb (decide (pC m (cx c) (cy c) = nI j))) 225
def LPic (m : Vc) (τ : Sto) : Prop := SEEN m τ ∧ ∀ k, k < 169 → τ 145 k = lC m (mx k) (my k)
section PIC2
variable {σ : Sto} {b q0 : Nat} {m : Vc}
theorem c_colourOn (ok : OKm m) (h : BX σ b m) {x y : Int32} : fX5_colourOn b (mSrc m x y) σ = some (mCol m x y) := by
  unfold fX5_colourOn mSrc mCol mColC
  cases hs : mSee m x y with
  | none => rfl
  | some s =>
    simp only
    have hb := see_box' ok hs
    rw [c_chipOn h (near_R ok.2.1 (box_near hb)), Option.bind_some]
    rcases mBd_cases m s.2.1 s.2.2 with ⟨h1, _⟩ | ⟨k, h1, h2, h3⟩
    · rw [h1, if_pos rfl]
      rfl
    · have hn := came_le ok
      rw [h3, if_neg (nI_ne1 (by omega)), c_colourOf ok h h1, nI_n (by omega)]
      rfl
theorem countCell {v : Int32} (h0 : 0 ≤ v) (h9 : v ≤ 9) : fX3_countCell q0 v σ = some (su σ (q0 + 4) v.toNatClampNeg (σ (q0 + 4) v.toNatClampNeg + 1)) := by
  unfold fX3_countCell
  have hk : kin v 10 = true := (kin_iff (by decide)).2 ⟨h0, by rw [show nI 10 = 10 from rfl]; grind⟩
  rw [if_neg (by grind), if_neg (by grind), if_pos hk, if_pos hk]
  rfl
def PXi (q : Nat) (m : Vc) (i : Nat) (τ : Sto) : Prop := (∀ c, c < i → τ (q + 1) c = mSrc m (cx c) (cy c) ∧ τ (q + 2) c = mRef m (cx c) (cy c) ∧ τ (q + 3) c = pC m (cx c) (cy c)) ∧ ∀ j, j < 10 → τ (q + 4) j = sm (fun c => kb (decide (pC m (cx c) (cy c) = nI j))) i
def F14 (q p : Nat) : Prop := p ≤ q ∨ q + 4 < p
theorem c_look_L (ok : OKm m) (hq : q0 + 4 < b ∨ b + 8 < q0) (n : Nat) : ∀ (i fu : Nat) (τ : Sto), i + n = 225 → n < fu → BX τ b m → PXi q0 m i τ →
    ∃ ρ, fX3_look_L10 q0 b fu (nI i) τ = some ρ ∧ PX q0 m ρ ∧ ∀ p, F14 q0 p → ρ p = τ p := by
  induction n with
  | zero =>
    intro i fu τ hi hf hb hx
    match fu, hf with
    | fu + 1, _ =>
      unfold fX3_look_L10
      rw [← e225, if_pos ((dI_le (by omega) (by omega)).2 (by omega))]
      have : i = 225 := by omega
      subst this
      exact ⟨τ, rfl, hx, fun _ _ => rfl⟩
  | succ n ih =>
    intro i fu τ hi hf hb hx
    match fu, hf with
    | fu + 1, hf =>
      unfold fX3_look_L10
      have hi2 : i < 225 := by omega
      have hk : kin (nI i) 225 = true := kin_nI hi2 (by decide)
      rw [← e225, if_neg (by rw [dI_le (by omega) (by omega)]; omega)]
      simp only [hk, if_true, klet_eq, nI_n (show i < 2147483648 by omega), fX3_look_L81, nI_add1]
      have hR := cxy_in hi2
      have hfr : ∀ p, F14 q0 p → su (su (su τ (q0 + 1) i (-1)) (q0 + 2) i (-1)) (q0 + 3) i (-1) p = τ p := fun p hp => by
        unfold F14 at hp
        rw [su_k (by omega), su_k (by omega), su_k (by omega)]
      have hb' : BX (su (su (su τ (q0 + 1) i (-1)) (q0 + 2) i (-1)) (q0 + 3) i (-1)) b m := bx_frame hb (fun p h1 h2 => hfr p (by unfold F14; omega))
      have e1 : ∀ j, j ≠ i → ∀ w, w = q0 + 1 ∨ w = q0 + 2 ∨ w = q0 + 3 → su (su (su τ (q0 + 1) i (-1)) (q0 + 2) i (-1)) (q0 + 3) i (-1) w j = τ w j := by
        intro j hj w hw
        unfold su
        rcases hw with h | h | h <;> subst h <;> simp [hj]
      have e2 : ∀ w, w = q0 + 1 ∨ w = q0 + 2 ∨ w = q0 + 3 → su (su (su τ (q0 + 1) i (-1)) (q0 + 2) i (-1)) (q0 + 3) i (-1) w i = -1 := by
        intro w hw
        unfold su
        rcases hw with h | h | h <;> subst h <;> simp
      have e4 : su (su (su τ (q0 + 1) i (-1)) (q0 + 2) i (-1)) (q0 + 3) i (-1) (q0 + 4) = τ (q0 + 4) := by
        rw [su_k (by omega), su_k (by omega), su_k (by omega)]
      generalize su (su (su τ (q0 + 1) i (-1)) (q0 + 2) i (-1)) (q0 + 3) i (-1) = τ1 at *
      have hip := c_isInPicture hb'.1 hR
      rw [cxy_at hi2] at hip
      rw [hip, Option.bind_some]
      cases hnear : gNear (m 0) (m 1) (cx i) (cy i) with
      | false =>
        simp only [Bool.false_eq_true, if_false]
        have hsee : mSee m (cx i) (cy i) = none := by unfold mSee; rw [hnear]; simp
        have hsrc : mSrc m (cx i) (cy i) = -1 := by unfold mSrc; rw [hsee]
        have href : mRef m (cx i) (cy i) = -1 := by unfold mRef; rw [hsee]
        have hpc : pC m (cx i) (cy i) = -1 := by unfold pC; rw [hnear]; simp
        obtain ⟨ρ, e, g1, g2⟩ := ih (i + 1) fu τ1 (by omega) (by omega) hb' ⟨fun c hc => by
          by_cases hci : c = i
          · subst hci
            rw [e2 _ (.inl rfl), e2 _ (.inr (.inl rfl)), e2 _ (.inr (.inr rfl)), hsrc, href, hpc]
            exact ⟨rfl, rfl, rfl⟩
          · rw [e1 c hci _ (.inl rfl), e1 c hci _ (.inr (.inl rfl)), e1 c hci _ (.inr (.inr rfl))]
            exact hx.1 c (by omega), fun j hj => by
          rw [e4, hx.2 j hj]
          show _ = sm _ i + kb (decide (pC m (cx i) (cy i) = nI j))
          rw [hpc, decide_eq_false (by intro c; exact nI_ne1 (by omega) c.symm)]
          show _ = _ + 0
          grind⟩
        exact ⟨ρ, e, g1, fun p hp => by rw [g2 p hp, hfr p hp]⟩
      | true =>
        simp only [if_true]
        have htr := c_trace ok hb' hq hnear
        rw [cxy_at hi2, cxy_ci hi2] at htr
        rw [htr, Option.bind_some]
        have hpc : pC m (cx i) (cy i) = mCol m (cx i) (cy i) := by unfold pC; rw [hnear]; simp
        have hb2 : BX (setP τ1 q0 i (mSrc m (cx i) (cy i)) (mRef m (cx i) (cy i))) b m := bx_frame hb' (fun p h1 h2 => setP_k (by omega) (by omega))
        have ee : setP τ1 q0 i (mSrc m (cx i) (cy i)) (mRef m (cx i) (cy i)) (q0 + 1) i = mSrc m (cx i) (cy i) := by rw [setP_1, if_pos rfl]
        rw [ee, c_colourOn ok hb2, Option.bind_some, su_eq, countCell (mCol_rng ok _ _).1 (mCol_rng ok _ _).2, Option.bind_some]
        have hrng := mCol_rng ok (cx i) (cy i)
        generalize hV : mCol m (cx i) (cy i) = V at *
        have hVk : V.toNatClampNeg < 10 := i32_n hrng.1 (by rw [show nI 10 = 10 from rfl]; have := hrng.2; grind) (by decide)
        have hVn : nI V.toNatClampNeg = V := i32_nI hrng.1
        generalize hT : su (su (setP τ1 q0 i (mSrc m (cx i) (cy i)) (mRef m (cx i) (cy i))) (q0 + 3) i V) (q0 + 4) V.toNatClampNeg (su (setP τ1 q0 i (mSrc m (cx i) (cy i)) (mRef m (cx i) (cy i))) (q0 + 3) i V (q0 + 4) V.toNatClampNeg + 1) = τ2
        have hfr2 : ∀ p, F14 q0 p → τ2 p = τ1 p := fun p hp => by
          unfold F14 at hp
          rw [← hT, su_k (by omega), su_k (by omega), setP_k (by omega) (by omega)]
        obtain ⟨ρ, e, g1, g2⟩ := ih (i + 1) fu τ2 (by omega) (by omega) (bx_frame hb' (fun p h1 h2 => hfr2 p (by unfold F14; omega))) ⟨fun c hc => by
          rw [← hT, su_k (show q0 + 1 ≠ q0 + 4 by omega), su_k (show q0 + 1 ≠ q0 + 3 by omega), su_k (show q0 + 2 ≠ q0 + 4 by omega), su_k (show q0 + 2 ≠ q0 + 3 by omega), su_k (show q0 + 3 ≠ q0 + 4 by omega), setP_1, setP_2, su_at, setP_k (p := q0 + 3) (by omega) (by omega)]
          by_cases hci : c = i
          · subst hci
            rw [if_pos rfl, if_pos rfl, if_pos rfl, hpc]
            exact ⟨rfl, rfl, rfl⟩
          · rw [if_neg hci, if_neg hci, if_neg hci, e1 c hci _ (.inl rfl), e1 c hci _ (.inr (.inl rfl)), e1 c hci _ (.inr (.inr rfl))]
            exact hx.1 c (by omega), fun j hj => by
          show _ = sm _ i + kb (decide (pC m (cx i) (cy i) = nI j))
          rw [← hx.2 j hj, ← e4, ← hT, su_at, su_k (show q0 + 4 ≠ q0 + 3 by omega), setP_k (show q0 + 4 ≠ q0 + 1 by omega) (by omega), hpc]
          by_cases hjv : j = V.toNatClampNeg
          · subst hjv
            rw [if_pos rfl, hVn, decide_eq_true rfl]
            rfl
          · rw [if_neg hjv, decide_eq_false (by
              intro c
              rw [c, nI_n (by omega)] at hjv
              exact hjv rfl)]
            show _ = _ + 0
            grind⟩
        exact ⟨ρ, e, g1, fun p hp => by rw [g2 p hp, hfr2 p hp, hfr p hp]⟩
theorem c_look (ok : OKm m) (hq : q0 + 4 < b ∨ b + 8 < q0) (h : BX σ b m) : ∃ ρ, fX3_look q0 b σ = some ρ ∧ PX q0 m ρ ∧ ∀ p, F14 q0 p → ρ p = σ p := by
  unfold fX3_look
  obtain ⟨τ, e, h1, h2⟩ := @j_fill (q0 + 4) 10 (by decide) 0 σ
  rw [e, Option.bind_some]
  obtain ⟨ρ, e', g1, g2⟩ := c_look_L ok hq 225 0 kFU τ (by omega) (by unfold kFU; omega) (bx_frame h (fun p a1 a2 => h2 p (by omega))) ⟨fun c hc => absurd hc (by omega), fun j hj => by rw [h1 j hj]; rfl⟩
  exact ⟨ρ, e', g1, fun p hp => by rw [g2 p hp, h2 p (by unfold F14 at hp; omega)]⟩
end PIC2
section LAYS
variable {σ : Sto}
theorem m_laysPic_L {m : Vc} (ok : OKm m) (n : Nat) : ∀ (i fu : Nat) (τ : Sto), i + n = 169 → n < fu → τ 134 = m → SEEN m τ → (∀ x y, inS x y → τ 142 (mk x y) = mBd m x y) → (∀ k, k < i → τ 145 k = lC m (mx k) (my k)) →
    ∃ ρ, fX7_laysPicture_L10 fu (nI i) τ = some ρ ∧ LPic m ρ ∧ ∀ p, p ≠ 145 → ρ p = τ p := by
  induction n with
  | zero =>
    intro i fu τ hi hf hτ hS hB hx
    match fu, hf with
    | fu + 1, _ =>
      unfold fX7_laysPicture_L10
      rw [← e169, if_pos ((dI_le (by omega) (by omega)).2 (by omega))]
      have : i = 169 := by omega
      subst this
      exact ⟨τ, rfl, ⟨hS, hx⟩, fun _ _ => rfl⟩
  | succ n ih =>
    intro i fu τ hi hf hτ hS hB hx
    match fu, hf with
    | fu + 1, hf =>
      unfold fX7_laysPicture_L10
      have hi2 : i < 169 := by omega
      have hk : kin (nI i) 169 = true := kin_nI hi2 (by decide)
      rw [← e169, if_neg (by rw [dI_le (by omega) (by omega)]; omega), m_picCell]
      have hin : nI i + 1 = nI (i + 1) := nI_add1 i
      have hstep : ∀ v, v = lC m (mx i) (my i) → ∃ ρ, fX7_laysPicture_L10 fu (nI (i + 1)) (su τ 145 i v) = some ρ ∧ LPic m ρ ∧ ∀ p, p ≠ 145 → ρ p = τ p := by
        intro v hv
        have hS' : SEEN m (su τ 145 i v) := by
          intro k hk'
          have := hS k hk'
          unfold StK at *
          rw [su_k (show 143 ≠ 145 by decide), su_k (show 144 ≠ 145 by decide)]
          exact this
        obtain ⟨ρ, e, g1, g2⟩ := ih (i + 1) fu (su τ 145 i v) (by omega) (by omega) (by rw [su_k (by decide), hτ]) hS' (fun x y h => by rw [su_k (by decide)]; exact hB x y h) (fun k hk' => by
          rw [su_at]
          split
          · next h => subst h; exact hv
          · exact hx k (by omega))
        exact ⟨ρ, e, g1, fun p hp => by rw [g2 p hp, su_k hp]⟩
      simp only [Option.bind_some, hk, if_true, fX7_laysPicture_L54, fX7_laysPicture_L55, klet_eq, nI_n (show i < 2147483648 by omega), nI_add1, hτ]
      have hSi := hS i hi2
      cases hnear : gNear (m 0) (m 1) (mx i) (my i) with
      | false =>
        simp only [Bool.false_eq_true, if_false]
        exact hstep 0 (by unfold lC; rw [hnear]; simp)
      | true =>
        simp only [if_true]
        have hl : lC m (mx i) (my i) = mCol m (mx i) (my i) := by unfold lC; rw [hnear]; simp
        cases hs : mSee m (mx i) (my i) with
        | none =>
          rw [hs] at hSi
          simp only at hSi
          rw [if_pos hSi]
          exact hstep 0 (by rw [hl]; unfold mCol mColC; rw [hs])
        | some s =>
          rw [hs] at hSi
          simp only at hSi
          have hbx := see_box' ok hs
          have hSS := near_S ok.2.1 (box_near hbx)
          have h6 := see_far' ok hs
          have hcol : mCol m (mx i) (my i) = if mBd m s.2.1 s.2.2 = -1 then 0 else mC m (mBd m s.2.1 s.2.2).toNatClampNeg 1 := by unfold mCol mColC; rw [hs]
          rw [if_neg (by rw [hSi.1]; exact nI_ne1 (by omega)), hSi.2, if_pos (mcell_kin hSS)]
          rw [show (fX7_cell s.2.1 s.2.2).toNatClampNeg = mk s.2.1 s.2.2 from rfl, hB _ _ hSS]
          rcases mBd_cases m s.2.1 s.2.2 with ⟨h1, _⟩ | ⟨k, h1, h2, h3⟩
          · rw [if_pos h1]
            exact hstep 0 (by rw [hl, hcol, if_pos h1])
          · have hn := came_le ok
            have hne : ¬ mBd m s.2.1 s.2.2 = -1 := by rw [h3]; exact nI_ne1 (by omega)
            rw [if_neg hne, if_neg (by decide), if_pos (mcell_kin hSS), h3, m_c (show k < 30 by omega) (w := 1) (by decide) (W := 1) rfl, Option.bind_some, hτ]
            exact hstep (mC m k 1) (by rw [hl, hcol, if_neg hne, h3, nI_n (by omega)])
def P5 (p : Nat) : Prop := p ≠ 133 ∧ p ≠ 142 ∧ p ≠ 143 ∧ p ≠ 144 ∧ p ≠ 145
theorem m_laysPicture (ok : OKm (σ 134)) : ∃ ρ, fX7_laysPicture σ = some ρ ∧ LPic (σ 134) ρ ∧ FR P5 σ ρ := by
  unfold fX7_laysPicture
  obtain ⟨τ, e, h1, h2⟩ := m_laysChips ok
  have e134 : τ 134 = σ 134 := h2 134 (by decide)
  have ok' : OKm (τ 134) := by rw [e134]; exact ok
  obtain ⟨τ2, e2, h3, h4⟩ := m_laysSeen ok'
  have e2' : τ2 134 = σ 134 := by rw [h4.1 134 ⟨by decide, by decide, by decide⟩, e134]
  rw [e, Option.bind_some, e2, Option.bind_some]
  rw [e134] at h3
  obtain ⟨ρ, e3, g1, g2⟩ := m_laysPic_L ok 169 0 kFU τ2 (by omega) (by unfold kFU; omega) e2' h3 (fun x y h => by rw [h4.1 142 ⟨by decide, by decide, by decide⟩]; exact h1 x y h) (fun k hk => absurd hk (by omega))
  exact ⟨ρ, e3, g1, fun p hp => by rw [g2 p hp.2.2.2.2, h4.1 p ⟨hp.1, hp.2.2.1, hp.2.2.2.1⟩, h2 p hp.2.1], fun i i1 i2 => by rw [g2 133 (by decide), h4.2 i i1 i2, h2 133 (by decide)]⟩
end LAYS
