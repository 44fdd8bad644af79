def nIns (m : Vc) : Int32 := sm (fun k => kb (decide (mC m k 6 = 1))) (mN m)
section INS
variable {σ : Sto} {b : Nat} {m : Vc}
theorem c_chipsInBox (ok : OKm m) (h : BX σ b m) : fX5_chipsInBox b σ = some (nIns m) := by
  have hn := came_le ok
  have h1 := sum_loop (L := fun fu v i => fX5_chipsInBox_L4 b fu v i σ) (R := some) (f := fun k => kb (decide (mC m k 6 = 1))) (N := mN m) (v := 0) (by omega) (fun fu v i hi => by
    show fX5_chipsInBox_L4 b (fu + 1) v (nI i) σ = _
    rw [fX5_chipsInBox_L4.eq_2, bx8 h, came_eq ok, if_neg (by rw [dI_le (by omega) (by omega)]; omega), c_cellOf ok h hi, Option.bind_some]
    simp only [fX5_chipsInBox_L24, nI_add1, mCell_no ok hi]
    by_cases h6 : mC m i 6 = 1
    · rw [if_neg (fun c => c h6), decide_eq_true h6]; rfl
    · rw [if_pos h6, decide_eq_false h6]
      show _ = fX5_chipsInBox_L4 b fu (v + 0) _ σ
      rw [add0]) (fun fu v => by
    show fX5_chipsInBox_L4 b (fu + 1) v (nI (mN m)) σ = _
    rw [fX5_chipsInBox_L4.eq_2, bx8 h, came_eq ok, if_pos (by grind)])
  refine h1.trans ?_
  rw [zadd]
  rfl
theorem m_insideMany (ok : OKm m) (hm : σ 134 = m) : fX7_insideMany σ = some (nIns m) := by
  have hn := came_le ok
  have h1 := sum_loop (L := fun fu v i => fX7_insideMany_L4 fu v i σ) (R := some) (f := fun k => kb (decide (mC m k 6 = 1))) (N := mN m) (v := 0) (by omega) (fun fu v i hi => by
    show fX7_insideMany_L4 (fu + 1) v (nI i) σ = _
    rw [fX7_insideMany_L4.eq_2]
    simp only [w5, z5, if_true, hm, came_eq ok]
    rw [if_neg (by rw [dI_le (by omega) (by omega)]; omega), m_c (show i < 30 by omega) (w := 6) (by decide) (W := 6) rfl, Option.bind_some, hm, nI_add1]
    rcases (ok_chip ok hi).1 with h6 | h6
    · rw [h6]; rfl
    · rw [h6]; rfl) (fun fu v => by
    show fX7_insideMany_L4 (fu + 1) v (nI (mN m)) σ = _
    rw [fX7_insideMany_L4.eq_2]
    simp only [w5, z5, if_true, hm, came_eq ok]
    rw [if_pos (by grind)])
  refine h1.trans ?_
  rw [zadd]
  rfl
end INS
section CHIP
variable {σ : Sto} {m : Vc}
theorem chip_cases (ok : OKm m) (a : Int32) : (∃ k, k < mN m ∧ a = nI k ∧ fX7_isIn a 0 (m 5 - 1) = true) ∨ ((a < 0 ∨ m 5 ≤ a) ∧ fX7_isIn a 0 (m 5 - 1) = false) := by
  have hn := came_le ok
  rw [came_eq ok]
  have h5 : nI (mN m) ≤ nI 30 := (dI_le (by omega) (by omega)).2 hn
  have h5' := @nI_lt0 (mN m) (by omega)
  rw [show nI 30 = 30 from rfl] at h5
  cases h : fX7_isIn a 0 (nI (mN m) - 1) with
  | true =>
    left
    have h1 := isIn_iff.1 h
    have h2 : a < nI (mN m) := by have := h1.2; grind
    exact ⟨a.toNatClampNeg, i32_n h1.1 h2 (by omega), (i32_nI h1.1).symm, rfl⟩
  | false =>
    right
    refine ⟨?_, rfl⟩
    by_cases h1 : a < 0
    · exact .inl h1
    · right
      have : ¬ (0 ≤ a ∧ a ≤ nI (mN m) - 1) := fun c => by rw [isIn_iff.2 c] at h; cases h
      by_cases h2 : nI (mN m) ≤ a
      · exact h2
      · exact absurd ⟨by grind, by grind⟩ this
theorem m_isChip {a : Int32} (hm : σ 134 = m) : fX7_isChip a σ = some (fX7_isIn a 0 (m 5 - 1)) := by
  unfold fX7_isChip
  simp only [w5, z5, if_true, hm]
theorem c_needChip (ok : OKm m) (h : BX σ 25 m) {a : Int32} : fX6_needChip a σ = some (if fX7_isIn a 0 (m 5 - 1) = true then 0 else 3) := by
  have hn := came_le ok
  unfold fX6_needChip fX6_needChip_L15
  rw [bx8 h]
  rcases chip_cases ok a with ⟨k, h1, h2, h3⟩ | ⟨h1, h2⟩
  · subst h2
    rw [h3, if_neg (show ¬ nI k < 0 by have := @nI_lt0 k (by omega); grind), if_pos (show nI k < m 5 by rw [came_eq ok]; exact (dI_lt (by omega) (by omega)).2 h1), if_pos rfl]
  · rw [h2, if_neg Bool.false_ne_true]
    rcases h1 with h1 | h1
    · rw [if_pos h1]
    · by_cases h0 : a < 0
      · rw [if_pos h0]
      · rw [if_neg h0, if_neg (by grind)]
end CHIP
def chipV (m : Vc) (k w : Nat) : Int32 := if (w = 3 ∨ w = 4) ∧ ¬ mC m k 6 = 1 then -100 else mC m k w
theorem told_m {m : Vc} (ok : OKm m) {k : Nat} (hk : k < mN m) {a : Int32} {w : Nat} (hw : (a = 0 ∧ w = 3) ∨ (a = 1 ∧ w = 4)) : fX6_told (mCell m k) a = chipV m k w := by
  unfold chipV
  by_cases h6 : mC m k 6 = 1
  · rw [mCell_in h6, told_cell (ok_in ok hk h6)]
    rcases hw with ⟨h1, h2⟩ | ⟨h1, h2⟩
    · subst h1 h2; rw [if_pos rfl, if_neg (fun c => c.2 h6)]
    · subst h1 h2; rw [if_neg (show ¬ (1 : Int32) = 0 by decide), if_neg (fun c => c.2 h6)]
  · rw [(mCell_no ok hk).2 h6, if_pos ⟨by omega, h6⟩]
    rfl
theorem q_chip (a w : Int32) : CALL (fun σ => liN (fX6_chip a w σ) σ) (fX7_chip a w) [3, 1] := by
  refine call_q (fun σ h => ?_)
  have ok := rel_ok h
  have bx := rel_bx h
  have hn := came_le ok
  have hMb : ∀ σ', (∀ p, KeepR p → p ≠ 154 → σ' p = σ p) → fX7_chip a w σ' = (if fX7_isIn a 0 (σ 134 5 - 1) = true ∧ fX7_isIn w 0 5 = true then (if w = 3 then fX7_chip_L30 a w (th σ' 0) else if w = 4 then fX7_chip_L30 a w (th σ' 0) else (fX7_c a w (th σ' 0)).bind fun r13 => some (r13, th σ' 0)) else some (0, th σ' (if fX7_isIn a 0 (σ 134 5 - 1) = true then 2 else 1))) := by
    intro σ' hk
    unfold fX7_chip
    rw [m_isChip (m := σ 134) (hk 134 (by unfold KeepR; omega) (by decide)), Option.bind_some, m_both, Option.bind_some]
    cases fX7_isIn a 0 (σ 134 5 - 1) <;> cases fX7_isIn w 0 5 <;> simp
  unfold fX6_chip liN
  rw [c_needChip ok bx, Option.bind_some]
  rcases chip_cases ok a with ⟨k, h1, h2, h3⟩ | ⟨h1, h2⟩
  · subst h2
    rw [h3, if_pos rfl, if_pos rfl, isIn_kb, Option.bind_some]
    cases hw : fX7_isIn w 0 5 with
    | false =>
      refine ⟨1, 0, σ, by simp, fx_refl, fun σ' h' hK h3' => ?_⟩
      rw [hMb σ' hK, hw, h3, if_neg (by simp), if_pos rfl]
      exact ⟨_, _, rfl, fx_th, by show THR _ _ (th σ' 2 133 7); rw [th_7]; exact thr_2 (by decide), fun c => absurd c (by decide)⟩
    | true =>
      obtain ⟨v, hv, ew⟩ := isIn_lo (hi := 5) (by decide) hw
      subst ew
      have hM : ∀ σ', (∀ p, KeepR p → p ≠ 154 → σ' p = σ p) → fX7_chip (nI k) (nI v) σ' = some (chipV (σ 134) k v, th σ' 0) := by
        intro σ' hK
        have e : th σ' 0 134 = σ 134 := by rw [th_p (by decide), hK 134 (by unfold KeepR; omega) (by decide)]
        rw [hMb σ' hK, hw, h3, if_pos ⟨rfl, rfl⟩]
        have hc : fX7_c (nI k) (nI v) (th σ' 0) = some (mC (σ 134) k v) := by rw [m_c (show k < 30 by omega) (w := v) (by omega) rfl, e]
        unfold fX7_chip_L30 chipV
        rw [m_isInside (show k < 30 by omega), Option.bind_some, e, hc, Option.bind_some]
        have e3 : (nI v = 3) ↔ v = 3 := nI_inj (b := 3) (by omega) (by omega)
        have e4 : (nI v = 4) ↔ v = 4 := nI_inj (b := 4) (by omega) (by omega)
        simp only [e3, e4, decide_eq_true_eq]
        by_cases v3 : v = 3
        · rw [if_pos v3]
          by_cases h6 : mC (σ 134) k 6 = 1
          · rw [if_pos h6, if_neg (fun c => c.2 h6)]
          · rw [if_neg h6, if_pos ⟨.inl v3, h6⟩]
        · rw [if_neg v3]
          by_cases v4 : v = 4
          · rw [if_pos v4]
            by_cases h6 : mC (σ 134) k 6 = 1
            · rw [if_pos h6, if_neg (fun c => c.2 h6)]
            · rw [if_neg h6, if_pos ⟨.inr v4, h6⟩]
          · rw [if_neg v4, if_neg (fun c => c.1.elim v3 v4)]
      refine ⟨0, chipV (σ 134) k v, σ, ?_, fx_refl, fun σ' h' hK h3' => ⟨_, _, hM σ' hK, fx_th, by rw [th_7]; exact thr_0, fun _ => rfl⟩⟩
      rw [if_pos rfl, if_pos rfl, c_kindOf ok bx h1, c_colourOf ok bx h1, c_weightOf ok bx h1, c_cellOf ok bx h1, c_ownMovesOf ok bx h1]
      simp only [Option.bind_some]
      rw [told_m ok h1 (w := 3) (.inl ⟨rfl, rfl⟩), told_m ok h1 (w := 4) (.inr ⟨rfl, rfl⟩)]
      match v, hv with
      | 0, _ => rfl
      | 1, _ => rfl
      | 2, _ => rfl
      | 3, _ => rfl
      | 4, _ => rfl
      | 5, _ => rfl
  · rw [h2, if_neg Bool.false_ne_true]
    refine ⟨3, 0, σ, by simp, fx_refl, fun σ' h' hK h3' => ?_⟩
    rw [hMb σ' hK, h2, if_neg (by simp), if_neg Bool.false_ne_true]
    exact ⟨_, _, rfl, fx_th, by show THR _ _ (th σ' 1 133 7); rw [th_7]; exact thr_1 (by decide), fun c => absurd c (by decide)⟩
theorem q_account (a : Int32) : CALL (fun σ => liN (fX6_account a σ) σ) (fX7_account a) [1] := by
  refine range_call (lo := 0) (hi := 5) (fun σ => if kin a 6 = true then some (0, σ 4 a.toNatClampNeg, σ) else none) (fun σ => if kin a 6 = true then some (σ 138 a.toNatClampNeg, σ) else none) (fun σ => ?_) (fun σ => rfl) (fun σ h hn => ?_)
  · unfold fX6_account liN
    rw [isIn_kb, Option.bind_some, Option.bind_some]
    cases fX7_isIn a 0 5
    · rfl
    · rw [if_pos rfl, if_pos rfl, if_pos rfl]
      cases kin a 6 <;> rfl
  · obtain ⟨k, hk, ea⟩ := isIn_lo (hi := 5) (by decide) hn
    subst ea
    refine ⟨σ 4 k, σ, by rw [if_pos (kin_nI (by omega) (by decide)), nI_n (by omega)], fx_refl, fun σ' h' hK h3 => ?_⟩
    rw [if_pos (kin_nI (by omega) (by decide)), nI_n (by omega), th_p (by decide), hK 138 (by unfold KeepR; omega) (by decide), ← h.2.2.2.1 k (by omega)]
    exact ⟨_, rfl, f7_refl⟩
theorem q_errorCode : CALL (fun σ => some (0, fX6_errorCode σ, σ)) (fun σ => some (fX7_errorCode σ)) [] := by
  refine plain_call (fun σ => some (σ 133 28, σ)) (fun σ => rfl) (fun σ h => ?_)
  refine ⟨σ 133 28, σ, ?_, fx_refl, fun σ' h' hK h3 => ?_⟩
  · obtain ⟨L, _, _, _, _, e, _⟩ := h.2.2.2.2.1
    unfold fX6_errorCode
    rw [e]
  · rw [th_i (by decide), h3 28 (by unfold K33; omega)]
    exact ⟨_, rfl, f7_refl⟩
theorem q_errorPosition : CALL (fun σ => some (0, fX6_errorPosition σ, σ)) (fun σ => some (fX7_errorPosition σ)) [] := by
  refine plain_call (fun σ => some (σ 133 29, σ)) (fun σ => rfl) (fun σ h => ?_)
  refine ⟨σ 133 29, σ, ?_, fx_refl, fun σ' h' hK h3 => ?_⟩
  · obtain ⟨L, _, _, _, _, _, e⟩ := h.2.2.2.2.1
    unfold fX6_errorPosition
    rw [e]
  · rw [th_i (by decide), h3 29 (by unfold K33; omega)]
    exact ⟨_, rfl, f7_refl⟩
theorem q_output (a : Int32) : CALL (fun σ => liI (fX6_output a σ) σ) (fX7_output a) [] := by
  refine plain_call (fun σ1 => if (fX7_isIn a 0 ((σ1 133 34) - 1)) = true then (if kin a 200 = true then some ((σ1 153 a.toNatClampNeg), σ1) else none) else some ((-1), σ1)) (fun σ => rfl) (fun σ h => ?_)
  obtain ⟨L, hL, e1, e2, e3⟩ := h.2.2.2.2.2
  have c5 : nI L ≤ nI 200 := (dI_le (by omega) (by omega)).2 hL
  rw [show nI 200 = 200 from rfl] at c5
  have c0 := @nI_lt0 L (by omega)
  cases hn : fX7_isIn a 0 (nI L - 1) with
  | true =>
    have h1 := isIn_iff.1 hn
    have h2 : a < nI L := by have := h1.2; grind
    have hk := i32_n h1.1 h2 (by omega)
    have ea := i32_nI h1.1
    refine ⟨σ 24 a.toNatClampNeg, σ, ?_, fx_refl, fun σ' h' hK h3 => ?_⟩
    · unfold liI fX6_output fX2_byteAt
      rw [if_neg (by grind), e1, if_neg (by grind), if_neg (by grind), if_pos ((kin_iff (by decide)).2 ⟨h1.1, by rw [e225]; grind⟩), Option.bind_some, Option.bind_some]
    · rw [th_i (by decide), h3 34 (by unfold K33; omega), e2, if_pos hn, if_pos ((kin_iff (by decide)).2 ⟨h1.1, by rw [show nI 200 = 200 from rfl]; grind⟩), th_p (by decide), hK 153 (by unfold KeepR; omega) (by decide), ← e3 _ hk]
      exact ⟨_, rfl, f7_refl⟩
  | false =>
    refine ⟨-1, σ, ?_, fx_refl, fun σ' h' hK h3 => ?_⟩
    · unfold liI fX6_output fX2_byteAt
      have h1 : ¬ (0 ≤ a ∧ a ≤ nI L - 1) := fun c => by rw [isIn_iff.2 c] at hn; cases hn
      by_cases h0 : a < 0
      · rw [if_pos h0]; rfl
      · rw [if_neg h0, e1]
        by_cases h2 : nI L ≤ a
        · rw [if_pos h2]; rfl
        · exact absurd ⟨by grind, by grind⟩ h1
    · rw [th_i (by decide), h3 34 (by unfold K33; omega), e2, hn, if_neg Bool.false_ne_true]
      exact ⟨_, rfl, f7_refl⟩
theorem q_mapped (a x y w : Int32) : CALL (fun σ => liN (fX6_mapped a x y w σ) σ) (fX7_mapped a x y w) [3] := by
  refine call_q (fun σ h => ?_)
  have ok := rel_ok h
  have bx := rel_bx h
  have hh := @half_le (σ 134 0)
  unfold fX6_mapped fX6_mapped_L18 liN
  rw [c_maps bx.1, c_needP h]
  have c1 : nI (2 * gHalf (σ 134 0)) ≤ nI 12 := (dI_le (by omega) (by omega)).2 (by omega)
  rw [show nI 12 = 12 from rfl] at c1
  have c0 := @nI_lt0 (2 * gHalf (σ 134 0)) (by omega)
  have hbad : ∀ σ', REL σ' → (∀ p, KeepR p → p ≠ 154 → σ' p = σ p) → ¬ (fX7_isIn a 0 (nI (2 * gHalf (σ 134 0)) - 1) = true ∧ gNear (σ 134 0) (σ 134 1) x y = true) → ∃ w', fX7_mapped a x y w σ' = some (w', th σ' 1) := by
    intro σ' h' hK hno
    have e : σ' 134 = σ 134 := hK 134 (by unfold KeepR; omega) (by decide)
    unfold fX7_mapped
    rw [m_half, Option.bind_some, e, two_half, m_near, e]
    cases h1 : fX7_isIn a 0 (nI (2 * gHalf (σ 134 0)) - 1) with
    | false => rw [if_neg Bool.false_ne_true, m_goes0, Option.bind_some, if_neg Bool.false_ne_true]; exact ⟨_, rfl⟩
    | true =>
      cases h2 : gNear (σ 134 0) (σ 134 1) x y with
      | false => rw [if_pos rfl, Option.bind_some, if_neg Bool.false_ne_true, m_goes0, Option.bind_some, if_neg Bool.false_ne_true]; exact ⟨_, rfl⟩
      | true => exact absurd ⟨h1, h2⟩ hno
  cases h1 : fX7_isIn a 0 (nI (2 * gHalf (σ 134 0)) - 1) with
  | false =>
    have h3 : ¬ (0 ≤ a ∧ a ≤ nI (2 * gHalf (σ 134 0)) - 1) := fun c => by rw [isIn_iff.2 c] at h1; cases h1
    refine ⟨3, 0, σ, ?_, fx_refl, fun σ' h' hK h3' => ?_⟩
    · by_cases h0 : a < 0
      · rw [if_pos h0]; rfl
      · rw [if_neg h0, if_neg (fun c => h3 ⟨by grind, by grind⟩)]; rfl
    · obtain ⟨w', e⟩ := hbad σ' h' hK (fun c => by rw [h1] at c; cases c.1)
      exact ⟨w', _, e, fx_th, by rw [th_7]; exact thr_1 (by decide), fun c => absurd c (by decide)⟩
  | true =>
    have h3 := isIn_iff.1 h1
    have h2 : a < nI (2 * gHalf (σ 134 0)) := by have := h3.2; grind
    have hk := i32_n h3.1 h2 (by omega)
    have ea := i32_nI h3.1
    rw [if_neg (by grind), if_pos h2, Option.bind_some]
    cases hn : gNear (σ 134 0) (σ 134 1) x y with
    | false =>
      refine ⟨3, 0, σ, by simp, fx_refl, fun σ' h' hK h3' => ?_⟩
      obtain ⟨w', e⟩ := hbad σ' h' hK (fun c => by rw [hn] at c; cases c.2)
      exact ⟨w', _, e, fx_th, by rw [th_7]; exact thr_1 (by decide), fun c => absurd c (by decide)⟩
    | true =>
      have hmp := c_map bx.1 ok.1 ok.2.1 hk hn
      rw [ea] at hmp
      have hnm := near_map (k := a.toNatClampNeg) ok.1 ok.2.1 (p := (x, y)) hn
      refine ⟨0, if w = 0 then (gMap (σ 134 0) a.toNatClampNeg (x, y)).1 else (gMap (σ 134 0) a.toNatClampNeg (x, y)).2, σ, ?_, fx_refl, fun σ' h' hK h3' => ?_⟩
      · simp only [if_true]
        rw [hmp, Option.bind_some, Option.bind_some, told_cell (near_R ok.2.1 hnm)]
      · have e : σ' 134 = σ 134 := hK 134 (by unfold KeepR; omega) (by decide)
        have e2 : th σ' 0 134 = σ 134 := by rw [th_p (by decide), e]
        have hm := @m_maps (th σ' 0) a.toNatClampNeg (by rw [e2]; exact hk) (x, y)
        rw [e2, ea] at hm
        unfold fX7_mapped
        rw [m_half, Option.bind_some, e, two_half, m_near, e, h1, hn, if_pos rfl, Option.bind_some, if_pos rfl, m_goes1, Option.bind_some, if_pos rfl, Option.bind_some, m_stands, hm, Option.bind_some, mst_px, mst_py]
        have hms : F7 (th σ' 0) (mst (th σ' 0) (gMap (σ 134 0) a.toNatClampNeg (x, y))) := f7_ms (ms_mst ms_refl)
        have g := f7_th hms
        by_cases hw : w = 0
        · rw [if_pos hw, if_pos hw]
          exact ⟨_, _, rfl, g.1, by rw [g.2]; exact thr_0, fun _ => rfl⟩
        · rw [if_neg hw, if_neg hw]
          exact ⟨_, _, rfl, g.1, by rw [g.2]; exact thr_0, fun _ => rfl⟩
def cntC (a1 : Int32) (σ : Sto) : Option KP :=
    if a1 = 0 then
      some (0, (σ 26 0), σ)
    else
      if a1 = 1 then
        some (0, (σ 26 1), σ)
      else
        if a1 = 2 then
          some (0, (σ 25 1), σ)
        else
          if a1 = 3 then
            some (0, (σ 25 2), σ)
          else
            if a1 = 4 then
              some (0, (σ 25 3), σ)
            else
              if a1 = 5 then
                some (0, (σ 25 8), σ)
              else
                if a1 = 6 then
                  (fX5_chipsInBox 25 σ).bind fun r11 =>
                  some (0, r11, σ)
                else
                  if a1 = 7 then
                    (fX1_boxCells 26 σ).bind fun r15 =>
                    some (0, r15, σ)
                  else
                    if a1 = 8 then
                      (fX1_pictureCells 26 σ).bind fun r19 =>
                      some (0, r19, σ)
                    else
                      if a1 = 9 then
                        (fX6_seenNow σ).bind fun r23 =>
                        some (0, r23.1, r23.2)
                      else
                        if a1 = 10 then
                          some (0, (σ 25 4), σ)
                        else
                          if a1 = 11 then
                            some (0, (σ 25 5), σ)
                          else
                            if a1 = 12 then
                              some (0, (σ 25 6), σ)
                            else
                              if a1 = 13 then
                                some (0, (σ 25 7), σ)
                              else
                                if a1 = 14 then
                                  some (0, (fX1_directions 26 σ), σ)
                                else
                                  some (0, (σ 0 4), σ)
def cntM (a1 : Int32) (σ : Sto) : Option (Int32 × Sto) :=
    if a1 = 0 then
      if kin 0 220 = true then
        some ((σ 134 (Int32.toNatClampNeg 0)), σ)
      else none
    else
      if a1 = 1 then
        if kin 1 220 = true then
          some ((σ 134 (Int32.toNatClampNeg 1)), σ)
        else none
      else
        if a1 = 2 then
          if kin 2 220 = true then
            some ((σ 134 (Int32.toNatClampNeg 2)), σ)
          else none
        else
          if a1 = 3 then
            if kin 3 220 = true then
              some ((σ 134 (Int32.toNatClampNeg 3)), σ)
            else none
          else
            if a1 = 4 then
              if kin 4 220 = true then
                some ((σ 134 (Int32.toNatClampNeg 4)), σ)
              else none
            else
              if a1 = 5 then
                if kin 5 220 = true then
                  some ((σ 134 (Int32.toNatClampNeg 5)), σ)
                else none
              else
                if a1 = 6 then
                  (fX7_insideMany σ).bind fun r11 =>
                  some (r11, σ)
                else
                  if a1 = 7 then
                    (fX7_boxMany σ).bind fun r15 =>
                    some (r15, σ)
                  else
                    if a1 = 8 then
                      (fX7_pictureMany σ).bind fun r19 =>
                      some (r19, σ)
                    else
                      if a1 = 9 then
                        (fX7_seenMany σ).bind fun r23 =>
                        some (r23.1, r23.2)
                      else
                        if a1 = 10 then
                          if kin 6 220 = true then
                            some ((σ 134 (Int32.toNatClampNeg 6)), σ)
                          else none
                        else
                          if a1 = 11 then
                            if kin 7 220 = true then
                              some ((σ 134 (Int32.toNatClampNeg 7)), σ)
                            else none
                          else
                            if a1 = 12 then
                              if kin 8 220 = true then
                                some ((σ 134 (Int32.toNatClampNeg 8)), σ)
                              else none
                            else
                              if a1 = 13 then
                                if kin 9 220 = true then
                                  some ((σ 134 (Int32.toNatClampNeg 9)), σ)
                                else none
                              else
                                if a1 = 14 then
                                  (fX7_directions σ).bind fun r31 =>
                                  some (r31, σ)
                                else
                                  some ((σ 133 6), σ)
def COUNT (k : Nat) : Prop := ∀ σ, REL σ → ∃ v σ1, cntC (nI k) σ = some (0, v, σ1) ∧ FX σ σ1 ∧ ∀ σ', REL σ' → (∀ p, KeepR p → p ≠ 154 → σ' p = σ p) → (∀ i, K33 i → σ' 133 i = σ 133 i) → ∃ σ2, cntM (nI k) (th σ' 0) = some (v, σ2) ∧ F7 (th σ' 0) σ2
theorem q_count_0 : COUNT 0 := by
  intro σ h
  have ok := rel_ok h
  refine ⟨σ 134 0, σ, ?_, fx_refl, fun σ' h' hK h3 => ?_⟩
  · unfold cntC
    rw [if_pos (show nI 0 = (0 : Int32) by decide), (rel_bx h).1.1.1]
  · unfold cntM
    have e : th σ' 0 134 = σ 134 := by rw [th_p (by decide), hK 134 (by unfold KeepR; omega) (by decide)]
    rw [if_pos (show nI 0 = (0 : Int32) by decide), if_pos (by decide), e]
    exact ⟨_, rfl, f7_refl⟩
theorem q_count_1 : COUNT 1 := by
  intro σ h
  have ok := rel_ok h
  refine ⟨σ 134 1, σ, ?_, fx_refl, fun σ' h' hK h3 => ?_⟩
  · unfold cntC
    rw [if_neg (show ¬ nI 1 = (0 : Int32) by decide), if_pos (show nI 1 = (1 : Int32) by decide), (rel_bx h).1.1.2.1]
  · unfold cntM
    have e : th σ' 0 134 = σ 134 := by rw [th_p (by decide), hK 134 (by unfold KeepR; omega) (by decide)]
    rw [if_neg (show ¬ nI 1 = (0 : Int32) by decide), if_pos (show nI 1 = (1 : Int32) by decide), if_pos (by decide), e]
    exact ⟨_, rfl, f7_refl⟩
theorem q_count_2 : COUNT 2 := by
  intro σ h
  have ok := rel_ok h
  refine ⟨σ 134 2, σ, ?_, fx_refl, fun σ' h' hK h3 => ?_⟩
  · unfold cntC
    rw [if_neg (show ¬ nI 2 = (0 : Int32) by decide), if_neg (show ¬ nI 2 = (1 : Int32) by decide), if_pos (show nI 2 = (2 : Int32) by decide), (rel_bx h).2.1.1]
  · unfold cntM
    have e : th σ' 0 134 = σ 134 := by rw [th_p (by decide), hK 134 (by unfold KeepR; omega) (by decide)]
    rw [if_neg (show ¬ nI 2 = (0 : Int32) by decide), if_neg (show ¬ nI 2 = (1 : Int32) by decide), if_pos (show nI 2 = (2 : Int32) by decide), if_pos (by decide), e]
    exact ⟨_, rfl, f7_refl⟩
theorem q_count_3 : COUNT 3 := by
  intro σ h
  have ok := rel_ok h
  refine ⟨σ 134 3, σ, ?_, fx_refl, fun σ' h' hK h3 => ?_⟩
  · unfold cntC
    rw [if_neg (show ¬ nI 3 = (0 : Int32) by decide), if_neg (show ¬ nI 3 = (1 : Int32) by decide), if_neg (show ¬ nI 3 = (2 : Int32) by decide), if_pos (show nI 3 = (3 : Int32) by decide), (rel_bx h).2.1.2.1]
  · unfold cntM
    have e : th σ' 0 134 = σ 134 := by rw [th_p (by decide), hK 134 (by unfold KeepR; omega) (by decide)]
    rw [if_neg (show ¬ nI 3 = (0 : Int32) by decide), if_neg (show ¬ nI 3 = (1 : Int32) by decide), if_neg (show ¬ nI 3 = (2 : Int32) by decide), if_pos (show nI 3 = (3 : Int32) by decide), if_pos (by decide), e]
    exact ⟨_, rfl, f7_refl⟩
theorem q_count_4 : COUNT 4 := by
  intro σ h
  have ok := rel_ok h
  refine ⟨σ 134 4, σ, ?_, fx_refl, fun σ' h' hK h3 => ?_⟩
  · unfold cntC
    rw [if_neg (show ¬ nI 4 = (0 : Int32) by decide), if_neg (show ¬ nI 4 = (1 : Int32) by decide), if_neg (show ¬ nI 4 = (2 : Int32) by decide), if_neg (show ¬ nI 4 = (3 : Int32) by decide), if_pos (show nI 4 = (4 : Int32) by decide), (rel_bx h).2.1.2.2.1]
  · unfold cntM
    have e : th σ' 0 134 = σ 134 := by rw [th_p (by decide), hK 134 (by unfold KeepR; omega) (by decide)]
    rw [if_neg (show ¬ nI 4 = (0 : Int32) by decide), if_neg (show ¬ nI 4 = (1 : Int32) by decide), if_neg (show ¬ nI 4 = (2 : Int32) by decide), if_neg (show ¬ nI 4 = (3 : Int32) by decide), if_pos (show nI 4 = (4 : Int32) by decide), if_pos (by decide), e]
    exact ⟨_, rfl, f7_refl⟩
theorem q_count_5 : COUNT 5 := by
  intro σ h
  have ok := rel_ok h
  refine ⟨σ 134 5, σ, ?_, fx_refl, fun σ' h' hK h3 => ?_⟩
  · unfold cntC
    rw [if_neg (show ¬ nI 5 = (0 : Int32) by decide), if_neg (show ¬ nI 5 = (1 : Int32) by decide), if_neg (show ¬ nI 5 = (2 : Int32) by decide), if_neg (show ¬ nI 5 = (3 : Int32) by decide), if_neg (show ¬ nI 5 = (4 : Int32) by decide), if_pos (show nI 5 = (5 : Int32) by decide), (rel_bx h).2.1.2.2.2.2.2.2.2]
  · unfold cntM
    have e : th σ' 0 134 = σ 134 := by rw [th_p (by decide), hK 134 (by unfold KeepR; omega) (by decide)]
    rw [if_neg (show ¬ nI 5 = (0 : Int32) by decide), if_neg (show ¬ nI 5 = (1 : Int32) by decide), if_neg (show ¬ nI 5 = (2 : Int32) by decide), if_neg (show ¬ nI 5 = (3 : Int32) by decide), if_neg (show ¬ nI 5 = (4 : Int32) by decide), if_pos (show nI 5 = (5 : Int32) by decide), if_pos (by decide), e]
    exact ⟨_, rfl, f7_refl⟩
theorem q_count_6 : COUNT 6 := by
  intro σ h
  have ok := rel_ok h
  refine ⟨nIns (σ 134), σ, ?_, fx_refl, fun σ' h' hK h3 => ?_⟩
  · unfold cntC
    rw [if_neg (show ¬ nI 6 = (0 : Int32) by decide), if_neg (show ¬ nI 6 = (1 : Int32) by decide), if_neg (show ¬ nI 6 = (2 : Int32) by decide), if_neg (show ¬ nI 6 = (3 : Int32) by decide), if_neg (show ¬ nI 6 = (4 : Int32) by decide), if_neg (show ¬ nI 6 = (5 : Int32) by decide), if_pos (show nI 6 = (6 : Int32) by decide), c_chipsInBox ok (rel_bx h), Option.bind_some]
  · unfold cntM
    have e : th σ' 0 134 = σ 134 := by rw [th_p (by decide), hK 134 (by unfold KeepR; omega) (by decide)]
    rw [if_neg (show ¬ nI 6 = (0 : Int32) by decide), if_neg (show ¬ nI 6 = (1 : Int32) by decide), if_neg (show ¬ nI 6 = (2 : Int32) by decide), if_neg (show ¬ nI 6 = (3 : Int32) by decide), if_neg (show ¬ nI 6 = (4 : Int32) by decide), if_neg (show ¬ nI 6 = (5 : Int32) by decide), if_pos (show nI 6 = (6 : Int32) by decide), m_insideMany (m := σ 134) ok e, Option.bind_some]
    exact ⟨_, rfl, f7_refl⟩
theorem q_count_7 : COUNT 7 := by
  intro σ h
  have ok := rel_ok h
  refine ⟨nBox (σ 134), σ, ?_, fx_refl, fun σ' h' hK h3 => ?_⟩
  · unfold cntC
    rw [if_neg (show ¬ nI 7 = (0 : Int32) by decide), if_neg (show ¬ nI 7 = (1 : Int32) by decide), if_neg (show ¬ nI 7 = (2 : Int32) by decide), if_neg (show ¬ nI 7 = (3 : Int32) by decide), if_neg (show ¬ nI 7 = (4 : Int32) by decide), if_neg (show ¬ nI 7 = (5 : Int32) by decide), if_neg (show ¬ nI 7 = (6 : Int32) by decide), if_pos (show nI 7 = (7 : Int32) by decide), c_boxCells ok (rel_bx h).1, Option.bind_some]
  · unfold cntM
    have e : th σ' 0 134 = σ 134 := by rw [th_p (by decide), hK 134 (by unfold KeepR; omega) (by decide)]
    rw [if_neg (show ¬ nI 7 = (0 : Int32) by decide), if_neg (show ¬ nI 7 = (1 : Int32) by decide), if_neg (show ¬ nI 7 = (2 : Int32) by decide), if_neg (show ¬ nI 7 = (3 : Int32) by decide), if_neg (show ¬ nI 7 = (4 : Int32) by decide), if_neg (show ¬ nI 7 = (5 : Int32) by decide), if_neg (show ¬ nI 7 = (6 : Int32) by decide), if_pos (show nI 7 = (7 : Int32) by decide), m_boxMany, Option.bind_some, e]
    exact ⟨_, rfl, f7_refl⟩
theorem q_count_8 : COUNT 8 := by
  intro σ h
  have ok := rel_ok h
  refine ⟨nPic (σ 134), σ, ?_, fx_refl, fun σ' h' hK h3 => ?_⟩
  · unfold cntC
    rw [if_neg (show ¬ nI 8 = (0 : Int32) by decide), if_neg (show ¬ nI 8 = (1 : Int32) by decide), if_neg (show ¬ nI 8 = (2 : Int32) by decide), if_neg (show ¬ nI 8 = (3 : Int32) by decide), if_neg (show ¬ nI 8 = (4 : Int32) by decide), if_neg (show ¬ nI 8 = (5 : Int32) by decide), if_neg (show ¬ nI 8 = (6 : Int32) by decide), if_neg (show ¬ nI 8 = (7 : Int32) by decide), if_pos (show nI 8 = (8 : Int32) by decide), c_pictureCells ok (rel_bx h).1, Option.bind_some]
  · unfold cntM
    have e : th σ' 0 134 = σ 134 := by rw [th_p (by decide), hK 134 (by unfold KeepR; omega) (by decide)]
    rw [if_neg (show ¬ nI 8 = (0 : Int32) by decide), if_neg (show ¬ nI 8 = (1 : Int32) by decide), if_neg (show ¬ nI 8 = (2 : Int32) by decide), if_neg (show ¬ nI 8 = (3 : Int32) by decide), if_neg (show ¬ nI 8 = (4 : Int32) by decide), if_neg (show ¬ nI 8 = (5 : Int32) by decide), if_neg (show ¬ nI 8 = (6 : Int32) by decide), if_neg (show ¬ nI 8 = (7 : Int32) by decide), if_pos (show nI 8 = (8 : Int32) by decide), m_pictureMany, Option.bind_some, e]
    exact ⟨_, rfl, f7_refl⟩
theorem q_count_9 : COUNT 9 := by
  intro σ h
  have ok := rel_ok h
  obtain ⟨ρ, e1, g1, g2, g3, g4⟩ := c_look' h
  refine ⟨nSeen (σ 134), ρ, ?_, g4, fun σ' h' hK h3 => ?_⟩
  · unfold cntC fX6_seenNow
    rw [if_neg (show ¬ nI 9 = (0 : Int32) by decide), if_neg (show ¬ nI 9 = (1 : Int32) by decide), if_neg (show ¬ nI 9 = (2 : Int32) by decide), if_neg (show ¬ nI 9 = (3 : Int32) by decide), if_neg (show ¬ nI 9 = (4 : Int32) by decide), if_neg (show ¬ nI 9 = (5 : Int32) by decide), if_neg (show ¬ nI 9 = (6 : Int32) by decide), if_neg (show ¬ nI 9 = (7 : Int32) by decide), if_neg (show ¬ nI 9 = (8 : Int32) by decide), if_pos (show nI 9 = (9 : Int32) by decide), e1, Option.bind_some, c_countSeen ok g1, Option.bind_some, Option.bind_some]
  · unfold cntM
    have e : th σ' 0 134 = σ 134 := by rw [th_p (by decide), hK 134 (by unfold KeepR; omega) (by decide)]
    obtain ⟨τ, e2, _, f⟩ := @m_seenMany (th σ' 0) (by rw [e]; exact ok)
    rw [e] at e2
    rw [if_neg (show ¬ nI 9 = (0 : Int32) by decide), if_neg (show ¬ nI 9 = (1 : Int32) by decide), if_neg (show ¬ nI 9 = (2 : Int32) by decide), if_neg (show ¬ nI 9 = (3 : Int32) by decide), if_neg (show ¬ nI 9 = (4 : Int32) by decide), if_neg (show ¬ nI 9 = (5 : Int32) by decide), if_neg (show ¬ nI 9 = (6 : Int32) by decide), if_neg (show ¬ nI 9 = (7 : Int32) by decide), if_neg (show ¬ nI 9 = (8 : Int32) by decide), if_pos (show nI 9 = (9 : Int32) by decide), e2, Option.bind_some]
    exact ⟨τ, rfl, f7_fr3 f⟩
theorem q_count_10 : COUNT 10 := by
  intro σ h
  have ok := rel_ok h
  refine ⟨σ 134 6, σ, ?_, fx_refl, fun σ' h' hK h3 => ?_⟩
  · unfold cntC
    rw [if_neg (show ¬ nI 10 = (0 : Int32) by decide), if_neg (show ¬ nI 10 = (1 : Int32) by decide), if_neg (show ¬ nI 10 = (2 : Int32) by decide), if_neg (show ¬ nI 10 = (3 : Int32) by decide), if_neg (show ¬ nI 10 = (4 : Int32) by decide), if_neg (show ¬ nI 10 = (5 : Int32) by decide), if_neg (show ¬ nI 10 = (6 : Int32) by decide), if_neg (show ¬ nI 10 = (7 : Int32) by decide), if_neg (show ¬ nI 10 = (8 : Int32) by decide), if_neg (show ¬ nI 10 = (9 : Int32) by decide), if_pos (show nI 10 = (10 : Int32) by decide), (rel_bx h).2.1.2.2.2.1]
  · unfold cntM
    have e : th σ' 0 134 = σ 134 := by rw [th_p (by decide), hK 134 (by unfold KeepR; omega) (by decide)]
    rw [if_neg (show ¬ nI 10 = (0 : Int32) by decide), if_neg (show ¬ nI 10 = (1 : Int32) by decide), if_neg (show ¬ nI 10 = (2 : Int32) by decide), if_neg (show ¬ nI 10 = (3 : Int32) by decide), if_neg (show ¬ nI 10 = (4 : Int32) by decide), if_neg (show ¬ nI 10 = (5 : Int32) by decide), if_neg (show ¬ nI 10 = (6 : Int32) by decide), if_neg (show ¬ nI 10 = (7 : Int32) by decide), if_neg (show ¬ nI 10 = (8 : Int32) by decide), if_neg (show ¬ nI 10 = (9 : Int32) by decide), if_pos (show nI 10 = (10 : Int32) by decide), if_pos (by decide), e]
    exact ⟨_, rfl, f7_refl⟩
theorem q_count_11 : COUNT 11 := by
  intro σ h
  have ok := rel_ok h
  refine ⟨σ 134 7, σ, ?_, fx_refl, fun σ' h' hK h3 => ?_⟩
  · unfold cntC
    rw [if_neg (show ¬ nI 11 = (0 : Int32) by decide), if_neg (show ¬ nI 11 = (1 : Int32) by decide), if_neg (show ¬ nI 11 = (2 : Int32) by decide), if_neg (show ¬ nI 11 = (3 : Int32) by decide), if_neg (show ¬ nI 11 = (4 : Int32) by decide), if_neg (show ¬ nI 11 = (5 : Int32) by decide), if_neg (show ¬ nI 11 = (6 : Int32) by decide), if_neg (show ¬ nI 11 = (7 : Int32) by decide), if_neg (show ¬ nI 11 = (8 : Int32) by decide), if_neg (show ¬ nI 11 = (9 : Int32) by decide), if_neg (show ¬ nI 11 = (10 : Int32) by decide), if_pos (show nI 11 = (11 : Int32) by decide), (rel_bx h).2.1.2.2.2.2.1]
  · unfold cntM
    have e : th σ' 0 134 = σ 134 := by rw [th_p (by decide), hK 134 (by unfold KeepR; omega) (by decide)]
    rw [if_neg (show ¬ nI 11 = (0 : Int32) by decide), if_neg (show ¬ nI 11 = (1 : Int32) by decide), if_neg (show ¬ nI 11 = (2 : Int32) by decide), if_neg (show ¬ nI 11 = (3 : Int32) by decide), if_neg (show ¬ nI 11 = (4 : Int32) by decide), if_neg (show ¬ nI 11 = (5 : Int32) by decide), if_neg (show ¬ nI 11 = (6 : Int32) by decide), if_neg (show ¬ nI 11 = (7 : Int32) by decide), if_neg (show ¬ nI 11 = (8 : Int32) by decide), if_neg (show ¬ nI 11 = (9 : Int32) by decide), if_neg (show ¬ nI 11 = (10 : Int32) by decide), if_pos (show nI 11 = (11 : Int32) by decide), if_pos (by decide), e]
    exact ⟨_, rfl, f7_refl⟩
theorem q_count_12 : COUNT 12 := by
  intro σ h
  have ok := rel_ok h
  refine ⟨σ 134 8, σ, ?_, fx_refl, fun σ' h' hK h3 => ?_⟩
  · unfold cntC
    rw [if_neg (show ¬ nI 12 = (0 : Int32) by decide), if_neg (show ¬ nI 12 = (1 : Int32) by decide), if_neg (show ¬ nI 12 = (2 : Int32) by decide), if_neg (show ¬ nI 12 = (3 : Int32) by decide), if_neg (show ¬ nI 12 = (4 : Int32) by decide), if_neg (show ¬ nI 12 = (5 : Int32) by decide), if_neg (show ¬ nI 12 = (6 : Int32) by decide), if_neg (show ¬ nI 12 = (7 : Int32) by decide), if_neg (show ¬ nI 12 = (8 : Int32) by decide), if_neg (show ¬ nI 12 = (9 : Int32) by decide), if_neg (show ¬ nI 12 = (10 : Int32) by decide), if_neg (show ¬ nI 12 = (11 : Int32) by decide), if_pos (show nI 12 = (12 : Int32) by decide), (rel_bx h).2.1.2.2.2.2.2.1]
  · unfold cntM
    have e : th σ' 0 134 = σ 134 := by rw [th_p (by decide), hK 134 (by unfold KeepR; omega) (by decide)]
    rw [if_neg (show ¬ nI 12 = (0 : Int32) by decide), if_neg (show ¬ nI 12 = (1 : Int32) by decide), if_neg (show ¬ nI 12 = (2 : Int32) by decide), if_neg (show ¬ nI 12 = (3 : Int32) by decide), if_neg (show ¬ nI 12 = (4 : Int32) by decide), if_neg (show ¬ nI 12 = (5 : Int32) by decide), if_neg (show ¬ nI 12 = (6 : Int32) by decide), if_neg (show ¬ nI 12 = (7 : Int32) by decide), if_neg (show ¬ nI 12 = (8 : Int32) by decide), if_neg (show ¬ nI 12 = (9 : Int32) by decide), if_neg (show ¬ nI 12 = (10 : Int32) by decide), if_neg (show ¬ nI 12 = (11 : Int32) by decide), if_pos (show nI 12 = (12 : Int32) by decide), if_pos (by decide), e]
    exact ⟨_, rfl, f7_refl⟩
theorem q_count_13 : COUNT 13 := by
  intro σ h
  have ok := rel_ok h
  refine ⟨σ 134 9, σ, ?_, fx_refl, fun σ' h' hK h3 => ?_⟩
  · unfold cntC
    rw [if_neg (show ¬ nI 13 = (0 : Int32) by decide), if_neg (show ¬ nI 13 = (1 : Int32) by decide), if_neg (show ¬ nI 13 = (2 : Int32) by decide), if_neg (show ¬ nI 13 = (3 : Int32) by decide), if_neg (show ¬ nI 13 = (4 : Int32) by decide), if_neg (show ¬ nI 13 = (5 : Int32) by decide), if_neg (show ¬ nI 13 = (6 : Int32) by decide), if_neg (show ¬ nI 13 = (7 : Int32) by decide), if_neg (show ¬ nI 13 = (8 : Int32) by decide), if_neg (show ¬ nI 13 = (9 : Int32) by decide), if_neg (show ¬ nI 13 = (10 : Int32) by decide), if_neg (show ¬ nI 13 = (11 : Int32) by decide), if_neg (show ¬ nI 13 = (12 : Int32) by decide), if_pos (show nI 13 = (13 : Int32) by decide), (rel_bx h).2.1.2.2.2.2.2.2.1]
  · unfold cntM
    have e : th σ' 0 134 = σ 134 := by rw [th_p (by decide), hK 134 (by unfold KeepR; omega) (by decide)]
    rw [if_neg (show ¬ nI 13 = (0 : Int32) by decide), if_neg (show ¬ nI 13 = (1 : Int32) by decide), if_neg (show ¬ nI 13 = (2 : Int32) by decide), if_neg (show ¬ nI 13 = (3 : Int32) by decide), if_neg (show ¬ nI 13 = (4 : Int32) by decide), if_neg (show ¬ nI 13 = (5 : Int32) by decide), if_neg (show ¬ nI 13 = (6 : Int32) by decide), if_neg (show ¬ nI 13 = (7 : Int32) by decide), if_neg (show ¬ nI 13 = (8 : Int32) by decide), if_neg (show ¬ nI 13 = (9 : Int32) by decide), if_neg (show ¬ nI 13 = (10 : Int32) by decide), if_neg (show ¬ nI 13 = (11 : Int32) by decide), if_neg (show ¬ nI 13 = (12 : Int32) by decide), if_pos (show nI 13 = (13 : Int32) by decide), if_pos (by decide), e]
    exact ⟨_, rfl, f7_refl⟩
theorem q_count_14 : COUNT 14 := by
  intro σ h
  have ok := rel_ok h
  refine ⟨nI (gDirs (σ 134 0)), σ, ?_, fx_refl, fun σ' h' hK h3 => ?_⟩
  · unfold cntC
    rw [if_neg (show ¬ nI 14 = (0 : Int32) by decide), if_neg (show ¬ nI 14 = (1 : Int32) by decide), if_neg (show ¬ nI 14 = (2 : Int32) by decide), if_neg (show ¬ nI 14 = (3 : Int32) by decide), if_neg (show ¬ nI 14 = (4 : Int32) by decide), if_neg (show ¬ nI 14 = (5 : Int32) by decide), if_neg (show ¬ nI 14 = (6 : Int32) by decide), if_neg (show ¬ nI 14 = (7 : Int32) by decide), if_neg (show ¬ nI 14 = (8 : Int32) by decide), if_neg (show ¬ nI 14 = (9 : Int32) by decide), if_neg (show ¬ nI 14 = (10 : Int32) by decide), if_neg (show ¬ nI 14 = (11 : Int32) by decide), if_neg (show ¬ nI 14 = (12 : Int32) by decide), if_neg (show ¬ nI 14 = (13 : Int32) by decide), if_pos (show nI 14 = (14 : Int32) by decide), c_dirs (rel_bx h).1]
  · unfold cntM
    have e : th σ' 0 134 = σ 134 := by rw [th_p (by decide), hK 134 (by unfold KeepR; omega) (by decide)]
    rw [if_neg (show ¬ nI 14 = (0 : Int32) by decide), if_neg (show ¬ nI 14 = (1 : Int32) by decide), if_neg (show ¬ nI 14 = (2 : Int32) by decide), if_neg (show ¬ nI 14 = (3 : Int32) by decide), if_neg (show ¬ nI 14 = (4 : Int32) by decide), if_neg (show ¬ nI 14 = (5 : Int32) by decide), if_neg (show ¬ nI 14 = (6 : Int32) by decide), if_neg (show ¬ nI 14 = (7 : Int32) by decide), if_neg (show ¬ nI 14 = (8 : Int32) by decide), if_neg (show ¬ nI 14 = (9 : Int32) by decide), if_neg (show ¬ nI 14 = (10 : Int32) by decide), if_neg (show ¬ nI 14 = (11 : Int32) by decide), if_neg (show ¬ nI 14 = (12 : Int32) by decide), if_neg (show ¬ nI 14 = (13 : Int32) by decide), if_pos (show nI 14 = (14 : Int32) by decide), m_dirs, Option.bind_some, e]
    exact ⟨_, rfl, f7_refl⟩
theorem q_count_15 : COUNT 15 := by
  intro σ h
  have ok := rel_ok h
  obtain ⟨u, e, hu⟩ := h.2.1
  refine ⟨nI u, σ, ?_, fx_refl, fun σ' h' hK h3 => ?_⟩
  · unfold cntC
    rw [if_neg (show ¬ nI 15 = (0 : Int32) by decide), if_neg (show ¬ nI 15 = (1 : Int32) by decide), if_neg (show ¬ nI 15 = (2 : Int32) by decide), if_neg (show ¬ nI 15 = (3 : Int32) by decide), if_neg (show ¬ nI 15 = (4 : Int32) by decide), if_neg (show ¬ nI 15 = (5 : Int32) by decide), if_neg (show ¬ nI 15 = (6 : Int32) by decide), if_neg (show ¬ nI 15 = (7 : Int32) by decide), if_neg (show ¬ nI 15 = (8 : Int32) by decide), if_neg (show ¬ nI 15 = (9 : Int32) by decide), if_neg (show ¬ nI 15 = (10 : Int32) by decide), if_neg (show ¬ nI 15 = (11 : Int32) by decide), if_neg (show ¬ nI 15 = (12 : Int32) by decide), if_neg (show ¬ nI 15 = (13 : Int32) by decide), if_neg (show ¬ nI 15 = (14 : Int32) by decide), hu.2.1.2.1]
  · unfold cntM
    rw [if_neg (show ¬ nI 15 = (0 : Int32) by decide), if_neg (show ¬ nI 15 = (1 : Int32) by decide), if_neg (show ¬ nI 15 = (2 : Int32) by decide), if_neg (show ¬ nI 15 = (3 : Int32) by decide), if_neg (show ¬ nI 15 = (4 : Int32) by decide), if_neg (show ¬ nI 15 = (5 : Int32) by decide), if_neg (show ¬ nI 15 = (6 : Int32) by decide), if_neg (show ¬ nI 15 = (7 : Int32) by decide), if_neg (show ¬ nI 15 = (8 : Int32) by decide), if_neg (show ¬ nI 15 = (9 : Int32) by decide), if_neg (show ¬ nI 15 = (10 : Int32) by decide), if_neg (show ¬ nI 15 = (11 : Int32) by decide), if_neg (show ¬ nI 15 = (12 : Int32) by decide), if_neg (show ¬ nI 15 = (13 : Int32) by decide), if_neg (show ¬ nI 15 = (14 : Int32) by decide), th_i (by decide), h3 6 (by unfold K33; omega), hu.2.1.1]
    exact ⟨_, rfl, f7_refl⟩
theorem q_count (a : Int32) : CALL (fX6_count a) (fX7_count a) [1] := by
  refine range_call (lo := 0) (hi := 15) (cntC a) (cntM a) (fun σ => rfl) (fun σ => rfl) (fun σ h hn => ?_)
  obtain ⟨k, hk, ea⟩ := isIn_lo (hi := 15) (by decide) hn
  subst ea
  match k, hk with
  | 0, _ => exact q_count_0 σ h
  | 1, _ => exact q_count_1 σ h
  | 2, _ => exact q_count_2 σ h
  | 3, _ => exact q_count_3 σ h
  | 4, _ => exact q_count_4 σ h
  | 5, _ => exact q_count_5 σ h
  | 6, _ => exact q_count_6 σ h
  | 7, _ => exact q_count_7 σ h
  | 8, _ => exact q_count_8 σ h
  | 9, _ => exact q_count_9 σ h
  | 10, _ => exact q_count_10 σ h
  | 11, _ => exact q_count_11 σ h
  | 12, _ => exact q_count_12 σ h
  | 13, _ => exact q_count_13 σ h
  | 14, _ => exact q_count_14 σ h
  | 15, _ => exact q_count_15 σ h
