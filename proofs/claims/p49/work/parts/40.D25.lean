section BXV
variable {σ : Sto} {b : Nat} {m : Vc}
theorem bx_down {v : Int32} (h : BX σ b m) : BX (su σ b 1 v) b (vset m 2 v) := by
  obtain ⟨h1, h2, h3, h4⟩ := h
  refine ⟨⟨?_, fun c hc => ?_⟩, ?_, fun j hj => ?_, fun c hc => ?_⟩
  · rw [su_k (by omega), vset_ne (by decide), vset_ne (by decide)]; exact h1.1
  · rw [su_k (by omega), vset_ne (by decide), vset_ne (by decide)]; exact h1.2 c hc
  · rw [vset_eq, vset_ne (show 3 ≠ 2 by decide), vset_ne (show 4 ≠ 2 by decide), vset_ne (show 6 ≠ 2 by decide), vset_ne (show 7 ≠ 2 by decide), vset_ne (show 8 ≠ 2 by decide), vset_ne (show 9 ≠ 2 by decide), vset_ne (show 5 ≠ 2 by decide), su_eq, su_i (show 2 ≠ 1 by decide), su_i (show 3 ≠ 1 by decide), su_i (show 4 ≠ 1 by decide), su_i (show 5 ≠ 1 by decide), su_i (show 6 ≠ 1 by decide), su_i (show 7 ≠ 1 by decide), su_i (show 8 ≠ 1 by decide)]
    exact ⟨rfl, h2.2.1, h2.2.2.1, h2.2.2.2.1, h2.2.2.2.2.1, h2.2.2.2.2.2.1, h2.2.2.2.2.2.2.1, h2.2.2.2.2.2.2.2⟩
  · rw [mN_vset (by decide)] at hj
    rw [su_k (by omega), su_k (by omega), su_k (by omega), su_k (by omega), su_k (by omega), mC_vset (by decide), mC_vset (by decide), mC_vset (by decide), mC_vset (by decide)]
    unfold mCell
    rw [mC_vset (by decide), mC_vset (by decide), mC_vset (by decide)]
    exact h3 j hj
  · rw [su_k (by omega), bd_vset (by decide) (by decide)]
    exact h4 c hc
theorem bx_keep {v : Int32} (h : BX σ b m) : BX (su σ b 2 v) b (vset m 3 v) := by
  obtain ⟨h1, h2, h3, h4⟩ := h
  refine ⟨⟨?_, fun c hc => ?_⟩, ?_, fun j hj => ?_, fun c hc => ?_⟩
  · rw [su_k (by omega), vset_ne (by decide), vset_ne (by decide)]; exact h1.1
  · rw [su_k (by omega), vset_ne (by decide), vset_ne (by decide)]; exact h1.2 c hc
  · rw [vset_ne (show 2 ≠ 3 by decide), vset_eq, vset_ne (show 4 ≠ 3 by decide), vset_ne (show 6 ≠ 3 by decide), vset_ne (show 7 ≠ 3 by decide), vset_ne (show 8 ≠ 3 by decide), vset_ne (show 9 ≠ 3 by decide), vset_ne (show 5 ≠ 3 by decide), su_i (show 1 ≠ 2 by decide), su_eq, su_i (show 3 ≠ 2 by decide), su_i (show 4 ≠ 2 by decide), su_i (show 5 ≠ 2 by decide), su_i (show 6 ≠ 2 by decide), su_i (show 7 ≠ 2 by decide), su_i (show 8 ≠ 2 by decide)]
    exact ⟨h2.1, rfl, h2.2.2.1, h2.2.2.2.1, h2.2.2.2.2.1, h2.2.2.2.2.2.1, h2.2.2.2.2.2.2.1, h2.2.2.2.2.2.2.2⟩
  · rw [mN_vset (by decide)] at hj
    rw [su_k (by omega), su_k (by omega), su_k (by omega), su_k (by omega), su_k (by omega), mC_vset (by decide), mC_vset (by decide), mC_vset (by decide), mC_vset (by decide)]
    unfold mCell
    rw [mC_vset (by decide), mC_vset (by decide), mC_vset (by decide)]
    exact h3 j hj
  · rw [su_k (by omega), bd_vset (by decide) (by decide)]
    exact h4 c hc
theorem bx_cov {v : Int32} (h : BX σ b m) : BX (su σ b 4 v) b (vset m 6 v) := by
  obtain ⟨h1, h2, h3, h4⟩ := h
  refine ⟨⟨?_, fun c hc => ?_⟩, ?_, fun j hj => ?_, fun c hc => ?_⟩
  · rw [su_k (by omega), vset_ne (by decide), vset_ne (by decide)]; exact h1.1
  · rw [su_k (by omega), vset_ne (by decide), vset_ne (by decide)]; exact h1.2 c hc
  · rw [vset_ne (show 2 ≠ 6 by decide), vset_ne (show 3 ≠ 6 by decide), vset_ne (show 4 ≠ 6 by decide), vset_eq, vset_ne (show 7 ≠ 6 by decide), vset_ne (show 8 ≠ 6 by decide), vset_ne (show 9 ≠ 6 by decide), vset_ne (show 5 ≠ 6 by decide), su_i (show 1 ≠ 4 by decide), su_i (show 2 ≠ 4 by decide), su_i (show 3 ≠ 4 by decide), su_eq, su_i (show 5 ≠ 4 by decide), su_i (show 6 ≠ 4 by decide), su_i (show 7 ≠ 4 by decide), su_i (show 8 ≠ 4 by decide)]
    exact ⟨h2.1, h2.2.1, h2.2.2.1, rfl, h2.2.2.2.2.1, h2.2.2.2.2.2.1, h2.2.2.2.2.2.2.1, h2.2.2.2.2.2.2.2⟩
  · rw [mN_vset (by decide)] at hj
    rw [su_k (by omega), su_k (by omega), su_k (by omega), su_k (by omega), su_k (by omega), mC_vset (by decide), mC_vset (by decide), mC_vset (by decide), mC_vset (by decide)]
    unfold mCell
    rw [mC_vset (by decide), mC_vset (by decide), mC_vset (by decide)]
    exact h3 j hj
  · rw [su_k (by omega), bd_vset (by decide) (by decide)]
    exact h4 c hc

theorem okm_mk (ok : OKm m) {m' : Vc} (h0 : m' 0 = m 0) (h1 : m' 1 = m 1) (h5 : m' 5 = m 5) (hC : ∀ j u, mC m' j u = mC m j u) (h2 : m' 2 = nI (mD m') ∧ mD m' < gDirs (m 0)) (h3 : 1 ≤ m' 3 ∧ m' 3 ≤ 100) (h6 : m' 6 = nI (mV m') ∧ mV m' < 4) : OKm m' := by
  have hN : mN m' = mN m := by unfold mN; rw [h5]
  obtain ⟨a, b, c, d, e, f, g, k⟩ := ok
  refine ⟨by rw [h0]; exact a, by rw [h1]; exact b, by rw [h0]; exact h2, h3, by rw [h5, hN]; exact e, h6, fun j hj => ?_, fun i j hi hj q1 q2 q3 q4 => ?_⟩
  · rw [hN] at hj
    have := g j hj
    unfold OKc at *
    rw [hC, hC, hC, hC, hC, hC, h0, h1]
    exact this
  · rw [hN] at hi hj
    rw [hC] at q1 q2
    rw [hC, hC] at q3 q4
    exact k i j hi hj q1 q2 q3 q4
end BXV
def mTurn (m : Vc) (s : Nat) : Vc := vset m 2 (nI ((mD m + s) % gDirs (m 0)))
theorem turn_D {m : Vc} {s : Nat} : mD (mTurn m s) = (mD m + s) % gDirs (m 0) := by
  have hd := @dirs_le (m 0)
  have := Nat.mod_lt (mD m + s) (show gDirs (m 0) > 0 by omega)
  show ((mTurn m s) 2).toNatClampNeg = _
  unfold mTurn
  rw [vset_eq, nI_n (by omega)]
theorem ok_turn {m : Vc} (ok : OKm m) (s : Nat) : OKm (mTurn m s) := by
  have hd := @dirs_le (m 0)
  refine okm_mk ok (vset_ne (by decide)) (vset_ne (by decide)) (vset_ne (by decide)) (fun j u => mC_vset (by decide)) ⟨?_, ?_⟩ ?_ ?_
  · rw [turn_D]; exact vset_eq
  · rw [turn_D]; exact Nat.mod_lt _ (by omega)
  · rw [show mTurn m s 3 = m 3 from vset_ne (by decide)]; exact ok.2.2.2.1
  · have : mV (mTurn m s) = mV m := by unfold mV; rw [show mTurn m s 6 = m 6 from vset_ne (by decide)]
    rw [this, show mTurn m s 6 = m 6 from vset_ne (by decide)]
    exact ok.2.2.2.2.2.1
theorem zr_vset {m : Vc} {i : Nat} {v : Int32} (hz : Zr m) (hi : i < 220) : Zr (vset m i v) := fun j hj => by rw [vset_ne (by omega)]; exact hz j hj
theorem zr_hi {m m' : Vc} (hz : Zr m) (h : HI m m') : Zr m' := fun j hj => by rw [h j hj]; exact hz j hj
theorem c_turnBy {σ : Sto} {b : Nat} {m : Vc} (ok : OKm m) (h : BX σ b m) {s : Nat} (hs : s < 8) : fX5_turnBy b (nI s) σ = su σ b 1 (nI ((mD m + s) % gDirs (m 0))) ∧ BX (su σ b 1 (nI ((mD m + s) % gDirs (m 0)))) b (mTurn m s) := by
  have hd := @dirs_le (m 0)
  have hD := ok.2.2.1.2
  refine ⟨?_, bx_down h⟩
  unfold fX5_turnBy
  rw [klet_eq, c_wrapped h.1, bx1 h, ok.2.2.1.1, nI_addn, krem_d (by omega)]
/-- what comes to rest after a turn -/
noncomputable def mS (m : Vc) (s : Nat) : Nat × Vc := mSet' (mTurn m s)
theorem mS_facts {m : Vc} (ok : OKm m) (s : Nat) : OKm (mS m s).2 ∧ HI m (mS m s).2 ∧ (mS m s).2 5 = m 5 ∧ (mS m s).2 0 = m 0 ∧ (mS m s).2 1 = m 1 ∧ Same m (mS m s).2 := by
  obtain ⟨a, b, c, d⟩ := rest_facts 721 (mTurn m s) (ok_turn ok s)
  refine ⟨a, hi_trans (hi_vset (by decide)) b, c.2.2.2.2.1.trans (vset_ne (by decide)), c.1.trans (vset_ne (by decide)), c.2.1.trans (vset_ne (by decide)), same_trans (same_vset (by decide)) d⟩
noncomputable def nDep (m : Vc) : Int32 := sm (fun k => if mC m k 6 = 1 then gDep (m 0) (mD m) (mC m k 3) (mC m k 4) else 0) (mN m)
section DEP
variable {σ : Sto} {b : Nat} {m : Vc}
theorem c_sumDep (ok : OKm m) (h : BX σ b m) : fX5_sumOfDepths b σ = some (nDep m) := by
  have hn := came_le ok
  have h1 := sum_loop (L := fun fu v i => fX5_sumOfDepths_L4 b fu v i σ) (R := some) (f := fun k => if mC m k 6 = 1 then gDep (m 0) (mD m) (mC m k 3) (mC m k 4) else 0) (N := mN m) (v := 0) (by omega) (fun fu v i hi => by
    show fX5_sumOfDepths_L4 b (fu + 1) v (nI i) σ = _
    rw [fX5_sumOfDepths_L4.eq_2, bx8 h, came_eq ok, if_neg (by rw [dI_le (by omega) (by omega)]; omega), c_cellOf ok h hi, Option.bind_some]
    simp only [fX5_sumOfDepths_L38, nI_add1]
    by_cases h6 : mC m i 6 = 1
    · rw [if_neg (fun c => (mCell_no ok hi).1 c h6), mCell_in h6, bx1 h, ok.2.2.1.1, c_dep h.1 ok.2.2.1.2 (ok_in ok hi h6), Option.bind_some, if_pos h6]
    · rw [if_pos ((mCell_no ok hi).2 h6), if_neg h6, add0]) (fun fu v => by
    show fX5_sumOfDepths_L4 b (fu + 1) v (nI (mN m)) σ = _
    rw [fX5_sumOfDepths_L4.eq_2, bx8 h, came_eq ok, if_pos (by grind)])
  refine h1.trans ?_
  rw [zadd]
  rfl
theorem m_depthSum (ok : OKm m) (hm : σ 134 = m) (hK : MK σ) : fX7_depthSum σ = some (nDep m) := by
  have hn := came_le ok
  have h1 := sum_loop (L := fun fu v i => fX7_depthSum_L4 fu v i σ) (R := some) (f := fun k => if mC m k 6 = 1 then gDep (m 0) (mD m) (mC m k 3) (mC m k 4) else 0) (N := mN m) (v := 0) (by omega) (fun fu v i hi => by
    show fX7_depthSum_L4 (fu + 1) v (nI i) σ = _
    have hi30 : i < 30 := by omega
    rw [fX7_depthSum_L4.eq_2]
    simp only [w5, z5, if_true, hm, came_eq ok]
    rw [if_neg (by rw [dI_le (by omega) (by omega)]; omega), m_isInside hi30, Option.bind_some, hm]
    simp only [fX7_depthSum_L43, nI_add1, m_c hi30 (w := 3) (by decide) (W := 3) rfl, m_c hi30 (w := 4) (by decide) (W := 4) rfl, Option.bind_some, decide_eq_true_eq, hm]
    by_cases h6 : mC m i 6 = 1
    · have hd := @m_dep σ hK (mC m i 3) (mC m i 4) (mD m) (by rw [hm]; exact ok.2.2.1.1) (by rw [hm]; exact ok.2.2.1.2)
      rw [hm] at hd
      rw [if_pos h6, if_pos h6, hd, Option.bind_some]
    · rw [if_neg h6, if_neg h6]) (fun fu v => by
    show fX7_depthSum_L4 (fu + 1) v (nI (mN m)) σ = _
    rw [fX7_depthSum_L4.eq_2]
    simp only [w5, z5, if_true, hm, came_eq ok]
    rw [if_pos (by grind)])
  refine h1.trans ?_
  rw [zadd]
  rfl
end DEP
/-- DOWN and the cells of all chips are the same -/
def LIES (m m0 : Vc) : Prop := m 2 = m0 2 ∧ ∀ k, k < mN m0 → mCell m k = mCell m0 k
section LI
variable {σ : Sto} {m m0 : Vc}
theorem c_liesAs (ok : OKm m) (ok0 : OKm m0) (h5 : m 5 = m0 5) (h : BX σ 34 m) (h0 : BX σ 25 m0) : fX5_liesAs 34 25 σ = some (dB (LIES m m0)) := by
  have hn := came_le ok0
  have hN : mN m = mN m0 := by unfold mN; rw [h5]
  unfold fX5_liesAs
  rw [bx1 h, bx1 h0, bx8 h, bx8 h0, if_pos h5]
  by_cases h2 : m 2 = m0 2
  · rw [if_pos h2]
    have h1 := all_loop (L := fun fu i => fX5_liesAs_L26 34 25 fu i σ) (T := some true) (F := some false) (N := mN m0) (P := fun k => mCell m k = mCell m0 k) (by omega) (fun fu i hi hp => by
      show fX5_liesAs_L26 34 25 (fu + 1) (nI i) σ = _
      rw [fX5_liesAs_L26.eq_2, bx8 h, came_eq ok, hN, if_neg (by rw [dI_le (by omega) (by omega)]; omega), c_cellOf ok h (by omega), c_cellOf ok0 h0 hi, Option.bind_some, Option.bind_some, if_pos hp, nI_add1]) (fun fu i hi hp => by
      show fX5_liesAs_L26 34 25 (fu + 1) (nI i) σ = _
      rw [fX5_liesAs_L26.eq_2, bx8 h, came_eq ok, hN, if_neg (by rw [dI_le (by omega) (by omega)]; omega), c_cellOf ok h (by omega), c_cellOf ok0 h0 hi, Option.bind_some, Option.bind_some, if_neg hp]) (fun fu => by
      show fX5_liesAs_L26 34 25 (fu + 1) (nI (mN m0)) σ = _
      rw [fX5_liesAs_L26.eq_2, bx8 h, came_eq ok, hN, if_pos (by grind)])
    by_cases hb : LIES m m0
    · rw [dB_t hb]; exact h1.1 hb.2
    · rw [dB_f hb]; exact h1.2 (fun c => hb ⟨h2, c⟩)
  · rw [if_neg h2, dB_f (fun c => h2 c.1)]
def ASIDE (m : Vc) (σ : Sto) : Prop := ∀ i, i < 220 → σ 135 i = m i
theorem m_before_L (ok : OKm m) (ok0 : OKm m0) (h5 : m 5 = m0 5) (hS : Same m0 m) (hm : σ 134 = m) (ha : ASIDE m0 σ) (n : Nat) : ∀ (i fu : Nat), i + n = mN m0 → n < fu →
    ∃ bb : Bool, fX7_isAsBefore_L23 fu 1 (nI i) σ = some bb ∧ (bb = true ↔ ∀ k, i ≤ k → k < mN m0 → mCell m k = mCell m0 k) := by
  have hn := came_le ok0
  have hN : mN m = mN m0 := by unfold mN; rw [h5]
  induction n with
  | zero =>
    intro i fu hi hf
    match fu, hf with
    | fu + 1, _ =>
      have : i = mN m0 := by omega
      subst this
      rw [fX7_isAsBefore_L23.eq_2]
      simp only [w5, z5, if_true, hm, came_eq ok, hN]
      rw [if_pos (by grind), if_pos (by decide)]
      exact ⟨true, rfl, ⟨fun _ k a b => absurd b (by omega), fun _ => rfl⟩⟩
  | succ n ih =>
    intro i fu hi hf
    match fu, hf with
    | fu + 1, hf =>
      have hi' : i < mN m0 := by omega
      have e3 : (10 + 7 * nI i) + 3 = nI (10 + 7 * i + 3) := m_idx (w := 3) (by omega) (by decide)
      have e4 : (10 + 7 * nI i) + 4 = nI (10 + 7 * i + 4) := m_idx (w := 4) (by omega) (by decide)
      rw [fX7_isAsBefore_L23.eq_2]
      simp only [w5, z5, if_true, hm, came_eq ok, hN]
      rw [if_neg (by rw [dI_le (by omega) (by omega)]; omega), if_neg (show ¬ (1 : Int32) = 0 by decide), m_isInside (show i < 30 by omega), Option.bind_some, hm]
      simp only [e3, e4, kin_nI (show 10 + 7 * i + 3 < 220 by omega) (show 220 < 2147483648 by decide), kin_nI (show 10 + 7 * i + 4 < 220 by omega) (show 220 < 2147483648 by decide), if_true, nI_n (show 10 + 7 * i + 3 < 2147483648 by omega), nI_n (show 10 + 7 * i + 4 < 2147483648 by omega), fX7_isAsBefore_L91, fX7_isAsBefore_L95, fX7_isAsBefore_L96, nI_add1, decide_eq_true_eq, ha _ (show 10 + 7 * i + 3 < 220 by omega), ha _ (show 10 + 7 * i + 4 < 220 by omega)]
      rw [show m (10 + 7 * i + 3) = mC m i 3 from rfl, show m0 (10 + 7 * i + 3) = mC m0 i 3 from rfl, show m (10 + 7 * i + 4) = mC m i 4 from rfl, show m0 (10 + 7 * i + 4) = mC m0 i 4 from rfl]
      have h6e := hS i 6 (by omega)
      have good : mCell m i = mCell m0 i → ∃ bb : Bool, fX7_isAsBefore_L23 fu 1 (nI (i + 1)) σ = some bb ∧ (bb = true ↔ ∀ k, i ≤ k → k < mN m0 → mCell m k = mCell m0 k) := by
        intro hg
        obtain ⟨bb, e, h⟩ := ih (i + 1) fu (by omega) (by omega)
        refine ⟨bb, e, h.trans ⟨fun q k a c => ?_, fun q k a c => q k (by omega) c⟩⟩
        by_cases hk : k = i
        · subst hk; exact hg
        · exact q k (by omega) c
      have bad : ¬ mCell m i = mCell m0 i → ∃ bb : Bool, fX7_isAsBefore_L23 fu 0 (nI (i + 1)) σ = some bb ∧ (bb = true ↔ ∀ k, i ≤ k → k < mN m0 → mCell m k = mCell m0 k) := by
        intro hg
        match fu, hf with
        | fu + 1, _ =>
          refine ⟨false, ?_, ⟨Bool.noConfusion, fun q => absurd (q i (Nat.le_refl _) hi') hg⟩⟩
          rw [fX7_isAsBefore_L23.eq_2]
          simp only [w5, z5, if_true, hm, came_eq ok, hN]
          split
          · rw [if_pos (by decide)]; rfl
          · rw [if_pos (by decide)]; rfl
      by_cases h6 : mC m i 6 = 1
      · rw [if_pos h6]
        have h60 : mC m0 i 6 = 1 := by rw [← h6e]; exact h6
        have hR := ok_in ok (show i < mN m by omega) h6
        have hR0 := ok_in ok0 hi' h60
        by_cases c3 : mC m i 3 = mC m0 i 3
        · rw [if_pos c3]
          by_cases c4 : mC m i 4 = mC m0 i 4
          · rw [if_pos c4]
            exact good (by rw [mCell_in h6, mCell_in h60, c3, c4])
          · rw [if_neg c4]
            exact bad (by rw [mCell_in h6, mCell_in h60]; exact fun c => c4 (cell_inj hR hR0 c).2)
        · rw [if_neg c3]
          exact bad (by rw [mCell_in h6, mCell_in h60]; exact fun c => c3 (cell_inj hR hR0 c).1)
      · rw [if_neg h6]
        have h60 : ¬ mC m0 i 6 = 1 := by rw [← h6e]; exact h6
        exact good (by unfold mCell; rw [if_neg h6, if_neg h60])
theorem m_isAsBefore (ok : OKm m) (ok0 : OKm m0) (h5 : m 5 = m0 5) (hS : Same m0 m) (hm : σ 134 = m) (ha : ASIDE m0 σ) : fX7_isAsBefore σ = some (dB (LIES m m0)) := by
  have hn := came_le ok0
  have hN : mN m = mN m0 := by unfold mN; rw [h5]
  unfold fX7_isAsBefore fX7_isAsBefore_L20
  simp only [w2, z2, if_true, hm, ha 2 (by decide)]
  by_cases h2 : m 2 = m0 2
  · rw [if_pos h2]
    obtain ⟨bb, e, h⟩ := m_before_L ok ok0 h5 hS hm ha (mN m0) 0 kFU (by omega) (by unfold kFU; omega)
    have e' : fX7_isAsBefore_L23 kFU 1 0 σ = some bb := e
    rw [e']
    have : bb = true ↔ LIES m m0 := by
      rw [h]
      exact ⟨fun q => ⟨h2, fun k hk => q k (by omega) hk⟩, fun q k _ hk => q.2 k hk⟩
    by_cases hb : LIES m m0
    · rw [dB_t hb, this.2 hb]
    · rw [dB_f hb]
      cases hbb : bb with
      | false => rfl
      | true => exact absurd (this.1 hbb) hb
  · rw [if_neg h2, dB_f (fun c => h2 c.1)]
    have : kFU = 3999999 + 1 := rfl
    rw [this, fX7_isAsBefore_L23.eq_2]
    simp only [w5, z5, if_true]
    split
    · rw [if_pos (by decide)]; rfl
    · rw [if_pos (by decide)]; rfl
end LI
/-- frames that leave out the vector -/
def FY (σ τ : Sto) : Prop := (∀ p, KeepR p ∨ p = 135 → p ≠ 134 → τ p = σ p) ∧ ∀ i, K33 i ∨ i = 7 → τ 133 i = σ 133 i
section FYS
variable {σ τ : Sto}
theorem fy_refl : FY σ σ := ⟨fun _ _ _ => rfl, fun _ _ => rfl⟩
theorem fy_trans {ρ : Sto} (h : FY σ τ) (h' : FY τ ρ) : FY σ ρ := ⟨fun p a b => by rw [h'.1 p a b, h.1 p a b], fun i hi => by rw [h'.2 i hi, h.2 i hi]⟩
theorem fy_8 (h : FT8 σ τ) : FY σ τ := ⟨fun p a b => h.1 p (by unfold KeepR at a; omega) b (by unfold KeepR at a; omega) (by unfold KeepR at a; omega) (by unfold KeepR at a; omega) (by unfold KeepR at a; omega), fun i hi => h.2 i (by unfold K33 at hi; omega)⟩
theorem fy_t (h : FT σ τ) : FY σ τ := fy_8 (ft8_ft h)
theorem fy_5 (h : FR P5 σ τ) : FY σ τ := ⟨fun p a b => h.1 p (by unfold P5; unfold KeepR at a; omega), fun i hi => h.2 i (by unfold K33 at hi; omega) (by unfold K33 at hi; omega)⟩
theorem fy_3 (h : FR P3 σ τ) : FY σ τ := ⟨fun p a b => h.1 p (by unfold P3; unfold KeepR at a; omega), fun i hi => h.2 i (by unfold K33 at hi; omega) (by unfold K33 at hi; omega)⟩
theorem fy_ms (h : MS σ τ) : FY σ τ := ⟨fun p a b => h.1 p (by unfold KeepR at a; omega), fun i hi => h.2 i (by unfold K33 at hi; omega) (by unfold K33 at hi; omega)⟩
theorem fy_51 (h : ∀ p, F51 p → τ p = σ p) : FY σ τ := ⟨fun p a b => h p (by unfold F51; unfold KeepR at a; omega), fun i _ => by rw [h 133 ⟨by decide, by decide⟩]⟩
theorem fy_134 (h : ∀ p, p ≠ 134 → τ p = σ p) : FY σ τ := ⟨fun p _ b => h p b, fun i _ => by rw [h 133 (by decide)]⟩
theorem fy_mk (h : FY σ τ) (hK : MK σ) : MK τ := mk_of hK (h.1 140 (.inl (by unfold KeepR; omega)) (by decide)) (h.1 141 (.inl (by unfold KeepR; omega)) (by decide))
theorem fy_as (h : FY σ τ) {m : Vc} (ha : ASIDE m σ) : ASIDE m τ := by unfold ASIDE; rw [h.1 135 (.inr rfl) (by decide)]; exact ha
/-- the same, without the place aside -/
def FZ (σ τ : Sto) : Prop := (∀ p, KeepR p → p ≠ 134 → τ p = σ p) ∧ ∀ i, K33 i ∨ i = 7 → τ 133 i = σ 133 i
theorem fz_y (h : FY σ τ) : FZ σ τ := ⟨fun p a b => h.1 p (.inl a) b, h.2⟩
theorem fz_trans {ρ : Sto} (h : FZ σ τ) (h' : FZ τ ρ) : FZ σ ρ := ⟨fun p a b => by rw [h'.1 p a b, h.1 p a b], fun i hi => by rw [h'.2 i hi, h.2 i hi]⟩
theorem f7_z (h : FZ σ τ) (e : τ 134 = σ 134) : F7 σ τ := ⟨⟨fun p hp => by
  by_cases h4 : p = 134
  · subst h4; exact e
  · exact h.1 p hp h4, fun i hi => h.2 i (.inl hi)⟩, h.2 7 (.inr rfl)⟩
theorem m_aside {m : Vc} (hm : σ 134 = m) : ∃ ρ, fX7_copies 134 220 0 135 220 0 σ = some ρ ∧ ASIDE m ρ ∧ (∀ p, p ≠ 135 → ρ p = σ p) ∧ FZ σ ρ := by
  obtain ⟨ρ, e, a, b, c⟩ := @m_copies σ 134 220 0 135 220 0 0 0 rfl rfl (by decide) (by decide) (by decide) (by decide) (by decide)
  refine ⟨ρ, e, fun i hi => ?_, c, ⟨fun p hp _ => c p (by unfold KeepR at hp; omega), fun i _ => by rw [c 133 (by decide)]⟩⟩
  have := a i hi
  rw [Nat.zero_add] at this
  rw [this, hm]
theorem m_restore {m : Vc} (ha : ASIDE m σ) (hz : Zr m) (hz' : Zr (σ 134)) : ∃ ρ, fX7_copies 135 220 0 134 220 0 σ = some ρ ∧ ρ 134 = m ∧ ∀ p, p ≠ 134 → ρ p = σ p := by
  obtain ⟨ρ, e, a, b, c⟩ := @m_copies σ 135 220 0 134 220 0 0 0 rfl rfl (by decide) (by decide) (by decide) (by decide) (by decide)
  refine ⟨ρ, e, ?_, c⟩
  funext i
  by_cases hi : i < 220
  · have := a i hi
    rw [Nat.zero_add] at this
    rw [this, ha i hi]
  · rw [b i (by omega), hz' i (by omega), hz i (by omega)]
end FYS
