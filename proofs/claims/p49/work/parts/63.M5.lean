/-! the law's look at the whole picture -/
noncomputable def aF (m : Vc) : Nat → Int32 → Int32 → Int32
  | 0 => fun x y => kb (gNear (m 0) (m 1) x y)
  | 1 => fun x y => kb (gBox (m 0) (m 1) x y)
  | 2 => fun x y => kb (isSeen m x y)
  | 3 => aImg m
  | 4 => aChp m
  | 5 => lgt m
  | c + 6 => fun x y => kb (gNear (m 0) (m 1) x y && decide (mCol m x y = nI c))
noncomputable def acc (m : Vc) (R a i j : Nat) : Int32 := gridS (aF m a) R i + rowS (aF m a) (nI i - nI R) R j
section M5
variable {σ τ ρ : Sto} {m : Vc} {ps : List Vc} {R : Nat}
theorem acc_s {a i j : Nat} : acc m R a i (j + 1) = acc m R a i j + aF m a (nI i - nI R) (nI j - nI R) := by
  show gridS (aF m a) R i + (rowS (aF m a) (nI i - nI R) R j + aF m a (nI i - nI R) (nI j - nI R)) = (gridS (aF m a) R i + rowS (aF m a) (nI i - nI R) R j) + _
  grind
theorem acc_e {a i : Nat} : acc m R a i (2 * R + 1) = acc m R a (i + 1) 0 := by
  show gridS (aF m a) R i + rowS (aF m a) (nI i - nI R) R (2 * R + 1) = (gridS (aF m a) R i + rowS (aF m a) (nI i - nI R) R (2 * R + 1)) + 0
  rw [add0]
theorem acc_0 {a : Nat} : acc m R a 0 0 = 0 := by
  show (0 : Int32) + 0 = 0
  rw [add0]
theorem gco_next (i R : Nat) : nI i - nI R + 1 = nI (i + 1) - nI R := by
  rw [← nI_add1]
  grind
def COL (m : Vc) (R i j : Nat) (σ : Sto) : Prop := ∀ c, c < 10 → σ 134 c = acc m R (c + 6) i j
theorem gco7 (hR : R < 7) {i : Nat} (hi : i < 2 * R + 1) : -7 ≤ nI i - nI R ∧ nI i - nI R ≤ 7 := by
  have := gco_fin R hR i hi
  exact ⟨by have := this.1; grind, by have := this.2; grind⟩
theorem i_row (hR : R < 7) {i : Nat} (hi : i < 2 * R + 1) {K32 : Int32 → Int32 → Int32 → Int32 → Int32 → Int32 → Int32 → Int32 → Sto → Option (Bool × Sto)} (n : Nat) : ∀ (j fu : Nat) (τ : Sto), j + n = 2 * R + 1 → n < fu → NW m τ → COL m R i j τ → ∃ τ', fL_isPicture_L42 K32 fu (nI R) (acc m R 0 i j) (acc m R 1 i j) (acc m R 2 i j) (acc m R 3 i j) (acc m R 4 i j) (acc m R 5 i j) (nI i - nI R) (nI j - nI R) τ = K32 (nI R) (acc m R 0 (i + 1) 0) (acc m R 1 (i + 1) 0) (acc m R 2 (i + 1) 0) (acc m R 3 (i + 1) 0) (acc m R 4 (i + 1) 0) (acc m R 5 (i + 1) 0) (nI (i + 1) - nI R) τ' ∧ DX τ τ' ∧ COL m R (i + 1) 0 τ' := by
  induction n with
  | zero =>
    intro j fu τ hj hf h hc
    obtain ⟨fu, rfl⟩ : ∃ k, fu = k + 1 := ⟨fu - 1, by omega⟩
    obtain rfl : j = 2 * R + 1 := by omega
    refine ⟨τ, ?_, fun _ _ _ => rfl, fun c h9 => by rw [hc c h9, acc_e]⟩
    rw [fL_isPicture_L42.eq_2, if_pos ((wx_fin R hR (2 * R + 1) (by omega)).1.2 (by omega)), gco_next]
    simp only [acc_e]
  | succ n ih =>
    intro j fu τ hj hf h hc
    obtain ⟨fu, rfl⟩ : ∃ k, fu = k + 1 := ⟨fu - 1, by omega⟩
    obtain ⟨τ1, e1, d1, c1⟩ := @i_cell τ m (nI i - nI R) (nI j - nI R) K32 (nI R) (acc m R 0 i j) (acc m R 1 i j) (acc m R 2 i j) (acc m R 3 i j) (acc m R 4 i j) (acc m R 5 i j) h (gco7 hR hi) (gco7 hR (by omega)) (fun c => by have := (wx_fin R hR j (by omega)).1.1 c; omega) fu
    obtain ⟨τ2, e2, d2, c2⟩ := ih (j + 1) fu τ1 (by omega) (by omega) (nw_dx h d1) (fun c h9 => by rw [c1 c h9, hc c h9, acc_s]; rfl)
    refine ⟨τ2, ?_, dx_trans d1 d2, c2⟩
    rw [e1, gco_next, ← e2]
    simp only [acc_s]
    rfl
theorem i_613 (a b : Int32) (h : b = a) : fL_isPicture_L613 a b σ = some (true, σ) := by
  unfold fL_isPicture_L613
  rw [if_pos h]
theorem i_582 (h : NW m σ) : ∃ τ, fL_isPicture_L582 (nI (nRegs m 0)) (gCom m 0 9 1) σ = some (true, τ) ∧ CX σ τ := by
  obtain ⟨τ, e1, f1⟩ := k_regions h (k := 0) (by omega)
  have hle := regs_le (m := m) 0
  obtain ⟨-, h2, -⟩ := com_ok h.1
  refine ⟨τ, ?_, f1⟩
  unfold fL_isPicture_L582
  have e1' : fX6_regions 0 σ = some (0, nI (nRegs m 0), τ) := e1
  rw [e1', Option.bind_some, if_pos rfl]
  dsimp only
  rw [if_pos rfl]
  unfold fL_isPicture_L603
  by_cases hc : gCom m 0 9 1 = -1
  · rw [if_pos hc, if_pos (show nI (nRegs m 0) = 0 by rw [h2.1 hc]; rfl)]
    exact i_613 _ _ rfl
  · rw [if_neg hc, if_neg (show ¬ nI (nRegs m 0) = 0 from fun e => hc (h2.2 ((nI_inj (b := 0) (by omega) (by omega)).1 e)))]
    exact i_613 _ _ rfl
def CNS (m : Vc) (σ : Sto) : Prop := ∀ c, c < 10 → σ 134 c = nCol m (nI c)
theorem i_549 (h : NW m σ) (hc : CNS m σ) (n : Nat) : ∀ (j fu : Nat), 1 ≤ j → j + n = 10 → n < fu → ∃ τ, fL_isPicture_L549 fu (nI (nRegs m 0)) (gCom m 0 9 1) (nI j) σ = some (true, τ) ∧ CX σ τ := by
  obtain ⟨h1, -, h3⟩ := com_ok h.1
  induction n with
  | zero =>
    intro j fu hj hn hf
    obtain ⟨fu, rfl⟩ : ∃ k, fu = k + 1 := ⟨fu - 1, by omega⟩
    rw [fL_isPicture_L549.eq_2, if_pos (show (10 : Int32) ≤ nI j from (dI_le (a := 10) (by omega) (by omega)).2 (by omega))]
    exact i_582 h
  | succ n ih =>
    intro j fu hj hn hf
    obtain ⟨fu, rfl⟩ : ∃ k, fu = k + 1 := ⟨fu - 1, by omega⟩
    rw [fL_isPicture_L549.eq_2, if_neg (show ¬ (10 : Int32) ≤ nI j from fun c => by have := (dI_le (a := 10) (by omega) (by omega)).1 c; omega)]
    rcases h3 with h3 | ⟨c, c1, c9, h3⟩
    · rw [if_pos (show gCom m 0 9 1 ≤ 0 by rw [h3]; decide)]
      exact i_582 h
    · have hp : 0 < gCom m 0 9 1 := by rw [h3]; exact (dI_lt (a := 0) (by omega) (by omega)).2 (by omega)
      have hle := h1 j hj (by omega) hp
      rw [if_neg (show ¬ gCom m 0 9 1 ≤ 0 by grind), if_pos (kin_nI (show j < 10 by omega) (by decide)), if_pos (by rw [h3]; exact kin_nI (by omega) (by decide)), nI_n (by omega), if_pos (by
        rw [hc j (by omega), h3, nI_n (by omega), hc c (by omega), ← h3]
        exact hle), nI_add1]
      exact ih (j + 1) fu (by omega) (by omega) (by omega)
theorem cns_cx (h : CNS m σ) (hf : CX σ τ) : CNS m τ := fun c hc => by rw [hf 134 (by unfold KP2; omega)]; exact h c hc
theorem i_494 (n : Nat) : ∀ (c fu : Nat) (σ : Sto), NW m σ → CNS m σ → c + n = 10 → n < fu → ∃ τ, fL_isPicture_L494 fu (nI (regsUp m (List.range 169) (fun _ => False) (c - 1))) (nI c) σ = some (true, τ) ∧ CX σ τ := by
  induction n with
  | zero =>
    intro c fu σ h hc hn hf
    obtain ⟨fu, rfl⟩ : ∃ k, fu = k + 1 := ⟨fu - 1, by omega⟩
    obtain rfl : c = 10 := by omega
    obtain ⟨τ, e1, f1⟩ := k_commonest h
    obtain ⟨ρ, e2, f2⟩ := i_549 (nw_cx h f1) (cns_cx hc f1) 9 1 kFU (by omega) (by omega) (by unfold kFU; omega)
    refine ⟨ρ, ?_, cx_trans f1 f2⟩
    rw [fL_isPicture_L494.eq_2, if_pos (show (10 : Int32) ≤ nI 10 by decide), e1, Option.bind_some, if_pos rfl]
    dsimp only
    rw [← regs_all h.1]
    exact e2
  | succ n ih =>
    intro c fu σ h hc hn hf
    obtain ⟨fu, rfl⟩ : ∃ k, fu = k + 1 := ⟨fu - 1, by omega⟩
    obtain ⟨τ, e1, f1⟩ := k_cellsOf h (k := c) (by omega)
    rw [fL_isPicture_L494.eq_2, if_neg (show ¬ (10 : Int32) ≤ nI c from fun d => by have := (dI_le (a := 10) (by omega) (by omega)).1 d; omega), e1, Option.bind_some, if_pos rfl]
    dsimp only
    rw [if_pos (kin_nI (show c < 10 by omega) (by decide)), nI_n (by omega), if_pos (cns_cx hc f1 c (by omega)).symm]
    by_cases h0 : c = 0
    · subst h0
      rw [if_pos (show nI 0 ≤ 0 by decide)]
      obtain ⟨ρ, e2, f2⟩ := ih 1 fu τ (nw_cx h f1) (cns_cx hc f1) (by omega) (by omega)
      refine ⟨ρ, ?_, cx_trans f1 f2⟩
      unfold fL_isPicture_L533
      rw [nI_add1]
      exact e2
    · rw [if_neg (show ¬ nI c ≤ 0 from fun d => h0 (by have := (dI_le (b := 0) (by omega) (by omega)).1 d; omega))]
      obtain ⟨κ, e3, f3⟩ := k_regions (nw_cx h f1) (k := c) (by omega)
      obtain ⟨ρ, e2, f2⟩ := ih (c + 1) fu κ (nw_cx (nw_cx h f1) f3) (cns_cx (cns_cx hc f1) f3) (by omega) (by omega)
      refine ⟨ρ, ?_, cx_trans f1 (cx_trans f3 f2)⟩
      rw [e3, Option.bind_some, if_pos rfl]
      dsimp only
      unfold fL_isPicture_L533
      rw [nI_add1, nI_addn]
      obtain ⟨d, rfl⟩ : ∃ d, c = d + 1 := ⟨c - 1, by omega⟩
      exact e2
theorem cx_dx (h : DX σ τ) : ∀ p, KP2 p → p ≠ 134 → τ p = σ p := h
theorem acc_all (hR : R < 7) (a : Nat) (h0 : ∀ x y, ¬ ((-(nI R) ≤ x ∧ x ≤ nI R) ∧ -(nI R) ≤ y ∧ y ≤ nI R) → aF m a x y = 0) : acc m R a (2 * R + 1) 0 = sm (fun k => aF m a (mx k) (my k)) 169 := by
  show gridS (aF m a) R (2 * R + 1) + 0 = _
  rw [add0, grid_all hR h0]
theorem aF_0 (ok : OKm m) (hr : m 1 = nI R) (a : Nat) (x y : Int32) (h : ¬ ((-(nI R) ≤ x ∧ x ≤ nI R) ∧ -(nI R) ≤ y ∧ y ≤ nI R)) : aF m a x y = 0 := by
  have hn : gNear (m 0) (m 1) x y = false := by
    cases hn : gNear (m 0) (m 1) x y with
    | false => rfl
    | true =>
      have h1 := (near_iff ok.2.1).1 hn
      rw [hr] at h1
      exact absurd ⟨h1.1, h1.2.1⟩ h
  have hb : gBox (m 0) (m 1) x y = false := by unfold gBox; rw [hn]; rfl
  match a with
  | 0 => show kb _ = 0; rw [hn]; rfl
  | 1 => show kb _ = 0; rw [hb]; rfl
  | 2 => show kb (isSeen m x y) = 0; unfold isSeen mSee; rw [hn, if_neg Bool.false_ne_true]; rfl
  | 3 => show aImg m x y = 0; unfold aImg; rw [hb, if_neg Bool.false_ne_true]
  | 4 => show aChp m x y = 0; unfold aChp; rw [hb]; rfl
  | 5 => show lgt m x y = 0; unfold lgt; rw [if_neg (fun c => by rw [hn] at c; cases c.1)]
  | c + 6 => show kb _ = 0; rw [hn]; rfl
theorem i_32 (hr : m 1 = nI R) (hR : R < 7) (n : Nat) : ∀ (i fu : Nat) (τ : Sto), i + n = 2 * R + 1 → n < fu → NW m τ → COL m R i 0 τ → ∃ τ', fL_isPicture_L32 fu (nI R) (acc m R 0 i 0) (acc m R 1 i 0) (acc m R 2 i 0) (acc m R 3 i 0) (acc m R 4 i 0) (acc m R 5 i 0) (nI i - nI R) τ = some (true, τ') ∧ DX τ τ' := by
  induction n with
  | zero =>
    intro i fu τ hi hf h hc
    have ok := h.1
    obtain ⟨fu, rfl⟩ : ∃ k, fu = k + 1 := ⟨fu - 1, by omega⟩
    obtain rfl : i = 2 * R + 1 := by omega
    have hA : ∀ a, acc m R a (2 * R + 1) 0 = sm (fun k => aF m a (mx k) (my k)) 169 := fun a => acc_all hR a (aF_0 ok hr a)
    have e0 : acc m R 0 (2 * R + 1) 0 = nPic m := hA 0
    have e1 : acc m R 1 (2 * R + 1) 0 = nBox m := hA 1
    have e2 : acc m R 2 (2 * R + 1) 0 = nSeen m := hA 2
    have e3 : acc m R 3 (2 * R + 1) 0 = nSeen m := (hA 3).trans (img_sum ok)
    have e4 : acc m R 4 (2 * R + 1) 0 = nIns m := (hA 4).trans (chp_sum ok)
    have e5 : acc m R 5 (2 * R + 1) 0 = nLight m := hA 5
    have hcns : CNS m τ := fun c h9 => (hc c h9).trans (hA (c + 6))
    obtain ⟨τ1, q1, f1⟩ := k_count_9 h
    obtain ⟨τ2, q2, f2⟩ := k_light (nw_cx h f1)
    obtain ⟨τ3, q3, f3⟩ := i_494 10 0 kFU τ2 (nw_cx (nw_cx h f1) f2) (cns_cx (cns_cx hcns f1) f2) (by omega) (by unfold kFU; omega)
    refine ⟨τ3, ?_, dx_cx (cx_trans f1 (cx_trans f2 f3))⟩
    rw [fL_isPicture_L32.eq_2, if_pos ((wx_fin R hR (2 * R + 1) (by omega)).1.2 (by omega)), e0, e1, e2, e3, e4, e5, k_count_8 h, Option.bind_some, if_pos rfl]
    dsimp only
    rw [if_pos rfl, k_count_7 h, Option.bind_some, if_pos rfl]
    dsimp only
    rw [if_pos rfl, q1, Option.bind_some, if_pos rfl]
    dsimp only
    rw [if_pos rfl, if_pos rfl, k_count_6 (nw_cx h f1), Option.bind_some, if_pos rfl]
    dsimp only
    rw [if_pos rfl, q2, Option.bind_some]
    dsimp only
    rw [if_pos rfl]
    exact q3
  | succ n ih =>
    intro i fu τ hi hf h hc
    obtain ⟨fu, rfl⟩ : ∃ k, fu = k + 1 := ⟨fu - 1, by omega⟩
    obtain ⟨τ1, e1, d1, c1⟩ := @i_row m R hR i (by omega) (fL_isPicture_L32 fu) (2 * R + 1) 0 kFU τ (by omega) (by unfold kFU; omega) h hc
    obtain ⟨τ2, e2, d2⟩ := ih (i + 1) fu τ1 (by omega) (by omega) (nw_dx h d1) c1
    refine ⟨τ2, ?_, dx_trans d1 d2⟩
    rw [fL_isPicture_L32.eq_2, if_neg (fun c => by have := (wx_fin R hR i (by omega)).1.1 c; omega), show -(nI R) = nI 0 - nI R by rw [show nI 0 = 0 from rfl]; grind, e1]
    exact e2
theorem rg_dx (h : RG ps σ) (hf : DX σ τ) : RG ps τ := rg_of h (fun p hp => hf p (by unfold KP2; omega) (by omega))
theorem k_isPicture (h : INV m ps σ) : ∃ τ, fL_isPicture σ = some (true, τ) ∧ INV m ps τ ∧ τ 133 = σ 133 := by
  have ok := h.1.1
  obtain ⟨R, r1, r6, hr⟩ := rad_n ok
  have d0 : DX σ (sur σ 134 (fun _ => 0)) := fun p _ h9 => sur_o p h9
  obtain ⟨τ, e1, d1⟩ := i_32 (m := m) hr (by omega) (2 * R + 1) 0 kFU (sur σ 134 (fun _ => 0)) (by omega) (by unfold kFU; omega) (nw_dx h.1 d0) (fun c _ => by rw [sur_s, acc_0])
  have d := dx_trans d0 d1
  refine ⟨τ, ?_, ⟨nw_dx h.1 d, rg_dx h.2 d⟩, d 133 (by unfold KP2; omega) (by omega)⟩
  unfold fL_isPicture
  rw [k_count_1 h.1, Option.bind_some, if_pos rfl]
  dsimp only
  unfold fL_isPicture_L28
  rw [hr, show -(nI R) = nI 0 - nI R by rw [show nI 0 = 0 from rfl]; grind]
  simp only [acc_0] at e1
  exact e1
end M5
