theorem q_push (a d : Int32) : CALL (fX6_push a d) (fX7_push a d) [3] := by
  refine act_call (fun σ h u e hu => ?_)
  have ok := rel_ok h
  have bx := rel_bx h
  have hz := h.1.2.1
  have hn := came_le ok
  have hdl := @dirs_le (σ 134 0)
  have hT : ∀ σ', σ' 134 = σ 134 → ¬ (fX7_isIn a 0 (σ 134 5 - 1) = true ∧ fX7_isIn d 0 (nI (gDirs (σ 134 0)) - 1) = true) → fX7_push a d σ' = some (0, th σ' 1) := by
    intro σ' h4 g
    unfold fX7_push
    rw [m_isChip (m := σ 134) h4, Option.bind_some]
    cases g1 : fX7_isIn a 0 (σ 134 5 - 1) with
    | false => rw [if_neg Bool.false_ne_true, m_goes0, Option.bind_some, if_neg Bool.false_ne_true]
    | true =>
      rw [if_pos rfl, m_dirs, Option.bind_some, h4]
      cases g2 : fX7_isIn d 0 (nI (gDirs (σ 134 0)) - 1) with
      | false => rw [if_neg Bool.false_ne_true, m_goes0, Option.bind_some, if_neg Bool.false_ne_true]
      | true => exact absurd ⟨g1, g2⟩ g
  unfold fX6_push fX6_push_L23
  rw [c_needChip ok bx, Option.bind_some, c_dirs bx.1]
  rcases chip_cases ok a with ⟨k, h1, h2, h3⟩ | ⟨h1, h2⟩
  · subst h2
    rw [h3, if_pos rfl, if_pos rfl]
    rcases idx_cases (n := gDirs (σ 134 0)) (by omega) d with ⟨j, j1, j2, j3⟩ | ⟨j1, j2⟩
    · subst j2
      have hi := idx_no (n := gDirs (σ 134 0)) (by omega) j1
      rw [if_neg hi.1, if_pos hi.2, c_cellOf ok bx h1, Option.bind_some]
      have hM : ∀ σ', σ' 134 = σ 134 → MK σ' → fX7_push (nI k) (nI j) σ' = (if mC (σ 134) k 6 = 1 then (if gBox (σ 134 0) (σ 134 1) (mTo (σ 134) k j).1 (mTo (σ 134) k j).2 = true then (if mBd (σ 134) (mTo (σ 134) k j).1 (mTo (σ 134) k j).2 = -1 then (fX7_begins (th σ' 0)).bind fun r121 => (fX7_puts (nI k) 3 (mTo (σ 134) k j).1 r121).bind fun r124 => (fX7_puts (nI k) 4 (mTo (σ 134) k j).2 r124).bind fun r127 => (fX7_movesNow r127).bind fun r130 => some (r130.1, r130.2) else (fX7_refuses 2 (th σ' 0)).bind fun r133 => some (r133.1, r133.2)) else (fX7_refuses 4 (th σ' 0)).bind fun r136 => some (r136.1, r136.2)) else (fX7_refuses 3 (th σ' 0)).bind fun r139 => some (r139.1, r139.2)) := by
        intro σ' h4 hK
        have t4 : th σ' 0 134 = σ 134 := by rw [th_p (by decide), h4]
        have hK' : MK (th σ' 0) := mk_of hK (th_p (by decide)) (th_p (by decide))
        have sx : fX7_stepX (nI j) (th σ' 0) = some (gSX (σ 134 0) j) := by rw [m_stepX hK' (by rw [t4]; exact j1), t4]
        have sy : fX7_stepY (nI j) (th σ' 0) = some (gSY (σ 134 0) j) := by rw [m_stepY hK' (by rw [t4]; exact j1), t4]
        have c3 : fX7_c (nI k) 3 (th σ' 0) = some (mC (σ 134) k 3) := by rw [m_c (show k < 30 by omega) (w := 3) (by decide) (W := 3) rfl, t4]
        have c4 : fX7_c (nI k) 4 (th σ' 0) = some (mC (σ 134) k 4) := by rw [m_c (show k < 30 by omega) (w := 4) (by decide) (W := 4) rfl, t4]
        have cb : ∀ x y, fX7_isBox x y (th σ' 0) = some (gBox (σ 134 0) (σ 134 1) x y) := fun x y => by rw [m_box, t4]
        have cn : ∀ x y, fX7_chipNow x y (th σ' 0) = some (mBd (σ 134) x y) := fun x y => by rw [m_chipNow (by rw [t4]; exact came_eq ok) (by rw [t4]; exact hn), t4]
        unfold fX7_push
        rw [m_isChip (m := σ 134) h4, Option.bind_some, h3, if_pos rfl, m_dirs, Option.bind_some, h4, j3, if_pos rfl, m_goes1, Option.bind_some, if_pos rfl, m_isInside (show k < 30 by omega), Option.bind_some]
        simp only [c3, c4, sx, sy, cb, cn, Option.bind_some, t4, decide_eq_true_eq]
        rfl
      by_cases h6 : mC (σ 134) k 6 = 1
      · rw [if_neg (fun c => (mCell_no ok h1).1 c h6), Option.bind_some, mCell_in h6, c_boxNb bx.1 ok.2.1 j1 (ok_near ok h1 h6), Option.bind_some]
        cases hb : gBox (σ 134 0) (σ 134 1) (mTo (σ 134) k j).1 (mTo (σ 134) k j).2 with
        | false =>
          have hb' : gBox (σ 134 0) (σ 134 1) (mC (σ 134) k 3 + gSX (σ 134 0) j) (mC (σ 134) k 4 + gSY (σ 134 0) j) = false := hb
          rw [hb', if_neg Bool.false_ne_true, if_pos rfl]
          refine .inr (.inl ⟨4, σ, by decide, ?_, fx_refl, fun σ' h4 hK => ⟨th σ' 0, ?_, fx_th, th_7⟩⟩)
          · rw [show (4 : Int32) = nI 4 from rfl, c_refused (by decide) (by decide), Option.bind_some]
          · rw [hM σ' h4 hK, if_pos h6, hb, if_neg Bool.false_ne_true, show (4 : Int32) = nI 4 from rfl, m_refuses (by decide), Option.bind_some]
        | true =>
          have hR := near_R ok.2.1 (box_near hb)
          have hb' : gBox (σ 134 0) (σ 134 1) (mC (σ 134) k 3 + gSX (σ 134 0) j) (mC (σ 134) k 4 + gSY (σ 134 0) j) = true := hb
          rw [hb', if_pos rfl]
          show (_ ∨ _)
          have ex : fX1_cellAt (mC (σ 134) k 3 + gSX (σ 134 0) j) (mC (σ 134) k 4 + gSY (σ 134 0) j) = fX1_cellAt (mTo (σ 134) k j).1 (mTo (σ 134) k j).2 := rfl
          rw [ex, if_neg (cell_ne1 hR), c_chipOn bx hR, Option.bind_some]
          by_cases hf : mBd (σ 134) (mTo (σ 134) k j).1 (mTo (σ 134) k j).2 = -1
          · rw [if_pos hf]
            obtain ⟨τ, e1, hC, hF⟩ := c_keep h.1 hu
            obtain ⟨π, e2, b2, f2⟩ := c_shift ok hC.1 h1 h6 hb hf
            have ok' := ok_pos ok h1 h6 hb hf
            have hN' : mN (mPos (σ 134) k (mTo (σ 134) k j).1 (mTo (σ 134) k j).2) = mN (σ 134) := geo_N geo_pos
            obtain ⟨κ, e3, b3, f3⟩ := c_copy (b0 := 34) (b1 := 25) (by omega) ok' b2
            obtain ⟨μ, e4, b4, f4⟩ := c_tick ok' (q0 := 21) (.inl (by decide)) b3
            refine .inr (.inr ⟨nI (mTkN (mPos (σ 134) k (mTo (σ 134) k j).1 (mTo (σ 134) k j).2)), mPos (σ 134) k (mTo (σ 134) k j).1 (mTo (σ 134) k j).2, σ, μ, fx_refl, ?_, ca_fx (ca_upd hC (fun p hp => f2 p (by omega)) b2) hu.1.2 (fun p hp => ?_), ok', zr_hi hz (hi_trans (hi_mSet (by omega) (by decide)) (hi_mSet (by omega) (by decide))), fun σ' h4 hK h60 => ?_⟩)
            · rw [e1, Option.bind_some, e2, Option.bind_some]
              unfold fX6_movesOfNextTick
              rw [e3, Option.bind_some, e4, Option.bind_some, Option.bind_some]
            · rw [f4 p (by unfold KeepR at hp; omega) (by unfold KeepR at hp; omega) (by unfold KeepR at hp; omega), f3 p (by unfold KeepR at hp; omega)]
            · obtain ⟨ρ, r1, r2, r3, r4, r5⟩ := m_beg hu hz h4 hK h60 (fx_th (v := 0)) th_7
              obtain ⟨k1, k2⟩ := ma_su r2 r3 (i := 10 + 7 * k + 3) (v := (mTo (σ 134) k j).1)
              obtain ⟨l1, l2⟩ := ma_su k1 k2 (i := 10 + 7 * k + 4) (v := (mTo (σ 134) k j).2)
              obtain ⟨ω, g1, g2, g3⟩ := m_movesNow ok' (σ := su (su ρ 134 (10 + 7 * k + 3) (mTo (σ 134) k j).1) 134 (10 + 7 * k + 4) (mTo (σ 134) k j).2) l1.1 (mk_of r4 (by rw [su_k (by decide), su_k (by decide)]) (by rw [su_k (by decide), su_k (by decide)]))
              refine ⟨ω, ?_, ma_fz l1 (fz_y (fy_8 g3)) g2, by rw [g3.2 7 (by decide)]; exact l2⟩
              rw [hM σ' h4 hK, if_pos h6, hb, if_pos rfl, if_pos hf, r1, Option.bind_some, m_puts (show k < 30 by omega) (w := 3) (by decide) (W := 3) rfl, Option.bind_some, m_puts (show k < 30 by omega) (w := 4) (by decide) (W := 4) rfl, Option.bind_some, g1, Option.bind_some]
          · rw [if_neg hf]
            refine .inr (.inl ⟨2, σ, by decide, ?_, fx_refl, fun σ' h4 hK => ⟨th σ' 0, ?_, fx_th, th_7⟩⟩)
            · rw [show (2 : Int32) = nI 2 from rfl, c_refused (by decide) (by decide), Option.bind_some]
            · rw [hM σ' h4 hK, if_pos h6, hb, if_pos rfl, if_neg hf, show (2 : Int32) = nI 2 from rfl, m_refuses (by decide), Option.bind_some]
      · rw [if_pos ((mCell_no ok h1).2 h6)]
        refine .inr (.inl ⟨3, σ, by decide, ?_, fx_refl, fun σ' h4 hK => ⟨th σ' 0, ?_, fx_th, th_7⟩⟩)
        · rw [show (3 : Int32) = nI 3 from rfl, c_refused (by decide) (by decide), Option.bind_some]
        · rw [hM σ' h4 hK, if_neg h6, show (3 : Int32) = nI 3 from rfl, m_refuses (by decide), Option.bind_some]
    · refine .inl ⟨3, 0, by decide, ?_, fun σ' h4 => ⟨_, _, hT σ' h4 (fun c' => by rw [j2] at c'; exact Bool.noConfusion c'.2), fx_th, by rw [th_7]; exact thr_1 (by decide)⟩⟩
      by_cases h0 : d < 0
      · rw [if_pos h0]
      · rw [if_neg h0, if_neg (by rcases j1 with h1 | h1 <;> grind)]
  · rw [h2, if_neg Bool.false_ne_true]
    exact .inl ⟨3, 0, by decide, by rw [if_neg (by decide)], fun σ' h4 => ⟨_, _, hT σ' h4 (fun c' => by rw [h2] at c'; exact Bool.noConfusion c'.1), fx_th, by rw [th_7]; exact thr_1 (by decide)⟩⟩
/-- a chip that comes -/
def mAdd (m : Vc) (kd col w x y : Int32) : Vc := vset (mSet (mSet (mSet (mSet (mSet (mSet (mSet m (mN m) 0 kd) (mN m) 1 col) (mN m) 2 w) (mN m) 3 x) (mN m) 4 y) (mN m) 5 0) (mN m) 6 1) 5 (m 5 + 1)
section ADD
variable {m : Vc} {kd col w x y : Int32} {j u : Nat}
theorem mAdd_lo {i : Nat} (hi : i < 10) : mAdd m kd col w x y i = if i = 5 then m 5 + 1 else m i := by
  unfold mAdd
  rw [vset_lo, mSet_lo hi, mSet_lo hi, mSet_lo hi, mSet_lo hi, mSet_lo hi, mSet_lo hi, mSet_lo hi]
theorem mAdd_C (hu : u < 7) : mC (mAdd m kd col w x y) j u = if j = mN m then (if u = 0 then kd else if u = 1 then col else if u = 2 then w else if u = 3 then x else if u = 4 then y else if u = 5 then 0 else 1) else mC m j u := by
  unfold mAdd
  rw [mC_vset (by decide), mC_set (by decide) hu, mC_set (by decide) hu, mC_set (by decide) hu, mC_set (by decide) hu, mC_set (by decide) hu, mC_set (by decide) hu, mC_set (by decide) hu]
  by_cases h : j = mN m
  · have h7 : u = 0 ∨ u = 1 ∨ u = 2 ∨ u = 3 ∨ u = 4 ∨ u = 5 ∨ u = 6 := by omega
    rcases h7 with h7 | h7 | h7 | h7 | h7 | h7 | h7 <;> subst h7 <;> simp [h]
  · simp [h]
theorem mAdd_N (ok : OKm m) : mN (mAdd m kd col w x y) = mN m + 1 := by
  have hn := came_le ok
  have : mAdd m kd col w x y 5 = nI (mN m + 1) := by rw [mAdd_lo (by decide), if_pos rfl, came_eq ok, nI_add1]
  show (mAdd m kd col w x y 5).toNatClampNeg = _
  rw [this, nI_n (by omega)]
theorem bdL_congr {m' : Vc} {u v : Int32} (n : Nat) (h : ∀ j, j < n → (mAt m' u v j ↔ mAt m u v j)) : mBdL m' u v n = mBdL m u v n := by
  induction n with
  | zero => rfl
  | succ n ih =>
    unfold mBdL
    rw [ih (fun j hj => h j (by omega))]
    have h1 := h n (by omega)
    by_cases h2 : mAt m u v n
    · rw [if_pos h2, if_pos (h1.2 h2)]
    · rw [if_neg h2, if_neg (fun c => h2 (h1.1 c))]
theorem bd_add (ok : OKm m) (u v : Int32) : mBd (mAdd m kd col w x y) u v = if u = x ∧ v = y then nI (mN m) else mBd m u v := by
  unfold mBd
  rw [mAdd_N ok]
  rw [bdL_congr (m := m) (m' := m) (mN m) (fun _ _ => Iff.rfl)]
  have h1 : mBdL (mAdd m kd col w x y) u v (mN m) = mBdL m u v (mN m) := bdL_congr _ (fun j hj => by
    unfold mAt
    rw [mAdd_C (by decide), mAdd_C (by decide), mAdd_C (by decide), if_neg (by omega), if_neg (by omega), if_neg (by omega)])
  have h2 : mAt (mAdd m kd col w x y) u v (mN m) ↔ (u = x ∧ v = y) := by
    unfold mAt
    rw [mAdd_C (by decide), mAdd_C (by decide), mAdd_C (by decide)]
    simp only [if_true]
    show ((1 : Int32) = 1 ∧ x = u ∧ y = v) ↔ _
    exact ⟨fun c => ⟨c.2.1.symm, c.2.2.symm⟩, fun c => ⟨rfl, c.1.symm, c.2.symm⟩⟩
  conv => lhs; unfold mBdL
  rw [h1]
  by_cases c : u = x ∧ v = y
  · rw [if_pos (h2.2 c), if_pos c]
  · rw [if_neg (fun d => c (h2.1 d)), if_neg c]
theorem ok_add (ok : OKm m) (hn : mN m < 30) (hk : 0 ≤ kd ∧ kd ≤ 3) (hc : 1 ≤ col ∧ col ≤ 9) (hw : 1 ≤ w ∧ w ≤ 9) (hb : gBox (m 0) (m 1) x y = true) (hf : mBd m x y = -1) : OKm (mAdd m kd col w x y) := by
  have hN := @mAdd_N m kd col w x y ok
  have hD : mD (mAdd m kd col w x y) = mD m := by unfold mD; rw [mAdd_lo (by decide), if_neg (by decide)]
  have hV : mV (mAdd m kd col w x y) = mV m := by unfold mV; rw [mAdd_lo (by decide), if_neg (by decide)]
  have l0 : mAdd m kd col w x y 0 = m 0 := by rw [mAdd_lo (by decide), if_neg (by decide)]
  have l1 : mAdd m kd col w x y 1 = m 1 := by rw [mAdd_lo (by decide), if_neg (by decide)]
  have l2 : mAdd m kd col w x y 2 = m 2 := by rw [mAdd_lo (by decide), if_neg (by decide)]
  have l3 : mAdd m kd col w x y 3 = m 3 := by rw [mAdd_lo (by decide), if_neg (by decide)]
  have l5 : mAdd m kd col w x y 5 = nI (mN m + 1) := by rw [mAdd_lo (by decide), if_pos rfl, came_eq ok, nI_add1]
  have l6 : mAdd m kd col w x y 6 = m 6 := by rw [mAdd_lo (by decide), if_neg (by decide)]
  refine ⟨by rw [l0]; exact ok.1, by rw [l1]; exact ok.2.1, by rw [l2, hD, l0]; exact ok.2.2.1, by rw [l3]; exact ok.2.2.2.1, by rw [l5, hN]; exact ⟨rfl, by omega⟩, by rw [l6, hV]; exact ok.2.2.2.2.2.1, fun i hi => ?_, fun i j hi hj h1 h2 h3 h4 => ?_⟩
  · rw [hN] at hi
    unfold OKc
    rw [mAdd_C (by decide), mAdd_C (by decide), mAdd_C (by decide), mAdd_C (by decide), mAdd_C (by decide), mAdd_C (by decide), l0, l1]
    by_cases h : i = mN m
    · rw [if_pos h, if_pos h, if_pos h, if_pos h, if_pos h, if_pos h]
      exact ⟨.inr rfl, hk, hc, hw, fun _ => hb⟩
    · rw [if_neg h, if_neg h, if_neg h, if_neg h, if_neg h, if_neg h]
      exact ok_chip ok (by omega)
  · rw [hN] at hi hj
    rw [mAdd_C (by decide)] at h1 h2
    rw [mAdd_C (by decide), mAdd_C (by decide)] at h3 h4
    by_cases ci : i = mN m
    · by_cases cj : j = mN m
      · rw [ci, cj]
      · rw [if_pos ci, if_neg cj] at h3 h4
        rw [if_neg cj] at h2
        exact absurd ⟨h2, h3.symm, h4.symm⟩ (at_none hf (show j < mN m by omega) (by omega))
    · by_cases cj : j = mN m
      · rw [if_neg ci, if_pos cj] at h3 h4
        rw [if_neg ci] at h1
        exact absurd ⟨h1, h3, h4⟩ (at_none hf (show i < mN m by omega) (by omega))
      · rw [if_neg ci, if_neg cj] at h3 h4
        rw [if_neg ci] at h1
        rw [if_neg cj] at h2
        exact ok.2.2.2.2.2.2.2 i j (by omega) (by omega) h1 h2 h3 h4
theorem hi_add (hn : mN m < 30) : HI m (mAdd m kd col w x y) := by
  unfold mAdd
  exact hi_trans (hi_trans (hi_trans (hi_trans (hi_trans (hi_trans (hi_trans (hi_mSet hn (by decide)) (hi_mSet hn (by decide))) (hi_mSet hn (by decide))) (hi_mSet hn (by decide))) (hi_mSet hn (by decide))) (hi_mSet hn (by decide))) (hi_mSet hn (by decide))) (hi_vset (by decide))
variable {σ : Sto} {b : Nat}
theorem c_bring (ok : OKm m) (h : BX σ b m) (hn : mN m < 30) (hb : gBox (m 0) (m 1) x y = true) :
    ∃ τ, fX5_bring b kd col w (fX1_cellAt x y) σ = some (nI (mN m), τ) ∧ BX τ b (mAdd m kd col w x y) ∧ FB b σ τ := by
  have hR := near_R ok.2.1 (box_near hb)
  have k30 : kin (nI (mN m)) 30 = true := kin_nI hn (by decide)
  have e8 : σ b 8 = nI (mN m) := by rw [bx8 h, came_eq ok]
  have h0 := @nI_lt0 (mN m) (by omega)
  have hlt : nI (mN m) < 30 := (dI_lt (b := 30) (by omega) (by omega)).2 hn
  unfold fX5_bring
  rw [e8, if_neg (show ¬ nI (mN m) < 0 by grind), if_pos hlt, klet_eq, if_pos k30, klet_eq, if_pos k30, klet_eq, if_pos k30, klet_eq, if_pos k30, klet_eq, nI_n (by omega), nI_add1]
  generalize hT : su (su (su (su (su σ b 8 (nI (mN m + 1))) (b + 3) (mN m) kd) (b + 4) (mN m) col) (b + 5) (mN m) w) (b + 7) (mN m) 0 = τ5
  have tb : ∀ i, τ5 b i = if i = 8 then nI (mN m + 1) else σ b i := fun i => by rw [← hT, su_k (by omega), su_k (by omega), su_k (by omega), su_k (by omega), su_at]
  have hc : fX5_isChip b (nI (mN m)) τ5 = true := by
    unfold fX5_isChip
    rw [tb, if_pos rfl, if_neg (show ¬ nI (mN m) < 0 by grind), if_neg (show ¬ nI (mN m + 1) ≤ nI (mN m) by rw [dI_le (by omega) (by omega)]; omega), if_neg (by grind)]
  unfold fX5_put
  rw [hc, if_pos rfl, if_pos (cell_is hR), if_pos k30, klet_eq, if_pos (cell_kin hR), klet_eq, Option.bind_some, nI_n (by omega), ci_e]
  have l5 : mAdd m kd col w x y 5 = nI (mN m + 1) := by rw [mAdd_lo (by decide), if_pos rfl, came_eq ok, nI_add1]
  have l : ∀ i, i < 10 → i ≠ 5 → mAdd m kd col w x y i = m i := fun i h1 h2 => by rw [mAdd_lo h1, if_neg h2]
  refine ⟨_, rfl, ⟨⟨?_, fun c hc => ?_⟩, ?_, fun j hj => ?_, fun c hc => ?_⟩, fun p hp => ?_⟩
  · rw [su_k (by omega), su_k (by omega), ← hT, su_k (by omega), su_k (by omega), su_k (by omega), su_k (by omega), su_k (by omega), l 0 (by decide) (by decide), l 1 (by decide) (by decide)]
    exact h.1.1
  · rw [su_k (by omega), su_k (by omega), ← hT, su_k (by omega), su_k (by omega), su_k (by omega), su_k (by omega), su_k (by omega), l 0 (by decide) (by decide), l 1 (by decide) (by decide)]
    exact h.1.2 c hc
  · rw [su_k (by omega), su_k (by omega), l 2 (by decide) (by decide), l 3 (by decide) (by decide), l 4 (by decide) (by decide), l 6 (by decide) (by decide), l 7 (by decide) (by decide), l 8 (by decide) (by decide), l 9 (by decide) (by decide), l5, tb, tb, tb, tb, tb, tb, tb, tb, if_pos rfl, if_neg (by decide), if_neg (by decide), if_neg (by decide), if_neg (by decide), if_neg (by decide), if_neg (by decide), if_neg (by decide)]
    exact ⟨h.2.1.1, h.2.1.2.1, h.2.1.2.2.1, h.2.1.2.2.2.1, h.2.1.2.2.2.2.1, h.2.1.2.2.2.2.2.1, h.2.1.2.2.2.2.2.2.1, rfl⟩
  · rw [mAdd_N ok] at hj
    rw [su_k (show b + 3 ≠ b + 8 by omega), su_k (show b + 4 ≠ b + 8 by omega), su_k (show b + 5 ≠ b + 8 by omega), su_k (show b + 6 ≠ b + 8 by omega), su_k (show b + 7 ≠ b + 8 by omega), su_k (show b + 3 ≠ b + 6 by omega), su_k (show b + 4 ≠ b + 6 by omega), su_k (show b + 5 ≠ b + 6 by omega), su_at, su_k (show b + 7 ≠ b + 6 by omega)]
    have t3 : τ5 (b + 3) j = if j = mN m then kd else σ (b + 3) j := by rw [← hT, su_k (by omega), su_k (by omega), su_k (by omega), su_at, su_k (by omega)]
    have t4 : τ5 (b + 4) j = if j = mN m then col else σ (b + 4) j := by rw [← hT, su_k (by omega), su_k (by omega), su_at, su_k (by omega), su_k (by omega)]
    have t5 : τ5 (b + 5) j = if j = mN m then w else σ (b + 5) j := by rw [← hT, su_k (by omega), su_at, su_k (by omega), su_k (by omega), su_k (by omega)]
    have t7 : τ5 (b + 7) j = if j = mN m then 0 else σ (b + 7) j := by rw [← hT, su_at, su_k (by omega), su_k (by omega), su_k (by omega), su_k (by omega)]
    have t6 : τ5 (b + 6) = σ (b + 6) := by rw [← hT, su_k (by omega), su_k (by omega), su_k (by omega), su_k (by omega), su_k (by omega)]
    unfold mCell
    rw [t3, t4, t5, t6, t7, mAdd_C (by decide), mAdd_C (by decide), mAdd_C (by decide), mAdd_C (by decide), mAdd_C (by decide), mAdd_C (by decide), mAdd_C (by decide)]
    by_cases hjk : j = mN m
    · simp [hjk]
    · have hj' := h.2.2.1 j (by omega)
      simp only [if_neg hjk]
      exact hj'
  · have t8 : τ5 (b + 8) = σ (b + 8) := by rw [← hT, su_k (by omega), su_k (by omega), su_k (by omega), su_k (by omega), su_k (by omega)]
    rw [su_at, su_k (by omega), bd_add ok, t8, h.2.2.2 c hc]
    simp only [ci_iff hc hR]
  · rw [su_k (by omega), su_k (by omega), ← hT, su_k (by omega), su_k (by omega), su_k (by omega), su_k (by omega), su_k (by omega)]
theorem m_lays (ok : OKm m) (hm : σ 134 = m) (hn : mN m < 30) : ∃ τ, fX7_lays kd col w x y σ = some (nI (mN m), τ) ∧ τ 134 = mAdd m kd col w x y ∧ ∀ p, p ≠ 134 → τ p = σ p := by
  have h5 : σ 134 (Int32.toNatClampNeg 5) = nI (mN m) := by rw [z5, hm]; exact came_eq ok
  have P : ∀ (w : Nat) (W v : Int32) (τ : Sto), w < 7 → W = nI w → fX7_puts (nI (mN m)) W v τ = some (su τ 134 (10 + 7 * mN m + w) v) := fun w W v τ h1 h2 => m_puts hn h1 h2
  unfold fX7_lays
  rw [if_pos (show kin 5 220 = true by decide), h5, P 0 0 kd σ (by decide) rfl, Option.bind_some, P 1 1 col _ (by decide) rfl, Option.bind_some, P 2 2 w _ (by decide) rfl, Option.bind_some, P 3 3 x _ (by decide) rfl, Option.bind_some, P 4 4 y _ (by decide) rfl, Option.bind_some, P 5 5 0 _ (by decide) rfl, Option.bind_some, P 6 6 1 _ (by decide) rfl, Option.bind_some, if_pos (show kin 5 220 = true by decide), if_pos (show kin 5 220 = true by decide), klet_eq, z5, su_i (by omega), su_i (by omega), su_i (by omega), su_i (by omega), su_i (by omega), su_i (by omega), su_i (by omega), hm]
  refine ⟨_, rfl, ?_, fun p hp => ?_⟩
  · rw [su_v, su_v, su_v, su_v, su_v, su_v, su_v, su_v, hm]
    rfl
  · rw [su_k hp, su_k hp, su_k hp, su_k hp, su_k hp, su_k hp, su_k hp, su_k hp]
end ADD
section ADDQ
variable {σ : Sto}
theorem m_bTT : fX7_goesBoth (kb true) 1 σ = (true, th σ 0) := m_both1 true
theorem m_bT0 : fX7_goesBoth (kb true) 0 σ = (false, th σ 2) := m_both0 true
theorem m_bF1 : fX7_goesBoth (kb false) 1 σ = (false, th σ 1) := m_both1 false
theorem m_bF0 : fX7_goesBoth (kb false) 0 σ = (false, th σ 1) := m_both0 false
def addB (a1 a2 a3 a4 a5 : Int32) (σ : Sto) : Option (Int32 × Sto) :=
  if kin 5 220 = true then
    if (σ 134 (Int32.toNatClampNeg 5)) = 30 then
      (fX7_refuses 1 σ).bind fun r73 => some (r73.1, r73.2)
    else
      (fX7_chipNow a4 a5 σ).bind fun r61 =>
      if r61 = (-1) then
        (fX7_begins σ).bind fun r64 => (fX7_lays a1 a2 a3 a4 a5 r64).bind fun r67 => some (r67.1, r67.2)
      else
        (fX7_refuses 2 σ).bind fun r70 => some (r70.1, r70.2)
  else none
theorem m_add_T {a1 a2 a3 a4 a5 : Int32} (hb : gBox (σ 134 0) (σ 134 1) a4 a5 = true) (h1 : fX7_isIn a1 0 3 = true) (h2 : fX7_isIn a2 1 9 = true) (h3 : fX7_isIn a3 1 9 = true) : fX7_add a1 a2 a3 a4 a5 σ = addB a1 a2 a3 a4 a5 (th σ 0) := by
  unfold fX7_add
  rw [m_box, Option.bind_some, hb, h1, h2, h3, if_pos rfl, if_pos rfl, if_pos rfl, m_bTT, Option.bind_some, if_pos rfl]
  rfl
theorem m_add_F {a1 a2 a3 a4 a5 : Int32} (hb : ¬ (gBox (σ 134 0) (σ 134 1) a4 a5 = true ∧ fX7_isIn a1 0 3 = true ∧ fX7_isIn a2 1 9 = true ∧ fX7_isIn a3 1 9 = true)) : fX7_add a1 a2 a3 a4 a5 σ = some (0, th σ (if gBox (σ 134 0) (σ 134 1) a4 a5 = true then 2 else 1)) := by
  unfold fX7_add
  rw [m_box, Option.bind_some]
  cases g0 : gBox (σ 134 0) (σ 134 1) a4 a5 with
  | false =>
    rw [m_bF0, m_bF1, if_neg Bool.false_ne_true]
    split
    · split
      · split
        · rw [Option.bind_some, if_neg Bool.false_ne_true]
        · rw [Option.bind_some, if_neg Bool.false_ne_true]
      · rw [Option.bind_some, if_neg Bool.false_ne_true]
    · rw [Option.bind_some, if_neg Bool.false_ne_true]
  | true =>
    rw [m_bT0, if_pos rfl]
    cases g1 : fX7_isIn a1 0 3 with
    | false => rw [if_neg Bool.false_ne_true, Option.bind_some, if_neg Bool.false_ne_true]
    | true =>
      rw [if_pos rfl]
      cases g2 : fX7_isIn a2 1 9 with
      | false => rw [if_neg Bool.false_ne_true, Option.bind_some, if_neg Bool.false_ne_true]
      | true =>
        rw [if_pos rfl]
        cases g3 : fX7_isIn a3 1 9 with
        | false => rw [if_neg Bool.false_ne_true, Option.bind_some, if_neg Bool.false_ne_true]
        | true => exact absurd ⟨g0, g1, g2, g3⟩ hb
end ADDQ
theorem q_add (a1 a2 a3 x y : Int32) : CALL (fX6_add a1 a2 a3 x y) (fX7_add a1 a2 a3 x y) [3, 1] := by
  refine act_call (fun σ h u e hu => ?_)
  have ok := rel_ok h
  have bx := rel_bx h
  have hz := h.1.2.1
  have hn := came_le ok
  have bad1 : gBox (σ 134 0) (σ 134 1) x y = true → ¬ (fX7_isIn a1 0 3 = true ∧ fX7_isIn a2 1 9 = true ∧ fX7_isIn a3 1 9 = true) → ∀ σ', σ' 134 = σ 134 → ∃ w σ2, fX7_add a1 a2 a3 x y σ' = some (w, σ2) ∧ FX σ' σ2 ∧ THR [3, 1] 1 (σ2 133 7) := fun hb hx σ' h4 => by
    refine ⟨_, _, m_add_F (σ := σ') (fun c => hx c.2), fx_th, ?_⟩
    rw [h4, if_pos hb, th_7]
    exact thr_2 (by decide)
  unfold fX6_add
  rw [c_needB h, Option.bind_some]
  cases hb : gBox (σ 134 0) (σ 134 1) x y with
  | false =>
    rw [if_neg Bool.false_ne_true, if_neg (show ¬ (3 : Nat) = 0 by decide)]
    refine .inl ⟨3, 0, by decide, rfl, fun σ' h4 => ⟨_, _, m_add_F (σ := σ') (fun c => by rw [h4, hb] at c; exact Bool.noConfusion c.1), fx_th, ?_⟩⟩
    rw [h4, hb, if_neg Bool.false_ne_true, th_7]
    exact thr_1 (by decide)
  | true =>
    have hR := near_R ok.2.1 (box_near hb)
    rw [if_pos rfl, if_pos rfl, isIn_kb, isIn_kb, isIn_kb, Option.bind_some]
    cases g1 : fX7_isIn a1 0 3 with
    | false => exact .inl ⟨1, 0, by decide, rfl, bad1 hb (fun c => by rw [g1] at c; exact Bool.noConfusion c.1)⟩
    | true =>
    cases g2 : fX7_isIn a2 1 9 with
    | false => exact .inl ⟨1, 0, by decide, rfl, bad1 hb (fun c => by rw [g2] at c; exact Bool.noConfusion c.2.1)⟩
    | true =>
    cases g3 : fX7_isIn a3 1 9 with
    | false => exact .inl ⟨1, 0, by decide, rfl, bad1 hb (fun c => by rw [g3] at c; exact Bool.noConfusion c.2.2)⟩
    | true =>
    rw [if_pos rfl, if_pos rfl, Option.bind_some, if_pos rfl, Option.bind_some, if_pos rfl, bx8 bx, came_eq ok]
    have hA : ∀ σ', σ' 134 = σ 134 → fX7_add a1 a2 a3 x y σ' = (if mN (σ 134) = 30 then (fX7_refuses 1 (th σ' 0)).bind fun r73 => some (r73.1, r73.2) else if mBd (σ 134) x y = -1 then (fX7_begins (th σ' 0)).bind fun r64 => (fX7_lays a1 a2 a3 x y r64).bind fun r67 => some (r67.1, r67.2) else (fX7_refuses 2 (th σ' 0)).bind fun r70 => some (r70.1, r70.2)) := by
      intro σ' h4
      have t4 : th σ' 0 134 = σ 134 := by rw [th_p (by decide), h4]
      rw [m_add_T (σ := σ') (by rw [h4]; exact hb) g1 g2 g3]
      unfold addB
      rw [if_pos (show kin 5 220 = true by decide), z5, t4, came_eq ok, m_chipNow (by rw [t4]; exact came_eq ok) (by rw [t4]; exact hn), t4, Option.bind_some]
      have : (nI (mN (σ 134)) = 30) ↔ mN (σ 134) = 30 := nI_inj (b := 30) (by omega) (by omega)
      simp only [this]
    by_cases h30 : mN (σ 134) = 30
    · rw [if_neg (by rw [h30]; decide)]
      refine .inr (.inl ⟨1, σ, by decide, ?_, fx_refl, fun σ' h4 hK => ⟨th σ' 0, ?_, fx_th, th_7⟩⟩)
      · rw [show (1 : Int32) = nI 1 from rfl, c_refused (by decide) (by decide), Option.bind_some]
        rfl
      · rw [hA σ' h4, if_pos h30, show (1 : Int32) = nI 1 from rfl, m_refuses (by decide), Option.bind_some]
        rfl
    · rw [if_pos (show nI (mN (σ 134)) < 30 from (dI_lt (b := 30) (by omega) (by omega)).2 (by omega)), c_chipOn bx hR, Option.bind_some]
      by_cases hf : mBd (σ 134) x y = -1
      · rw [if_pos hf]
        obtain ⟨τ, e1, hC, hF⟩ := c_keep h.1 hu
        obtain ⟨π, e2, b2, f2⟩ := c_bring ok hC.1 (kd := a1) (col := a2) (w := a3) (x := x) (y := y) (by omega) hb
        have ok' := ok_add ok (by omega) (isIn_iff.1 g1) (isIn_iff.1 g2) (isIn_iff.1 g3) hb hf
        refine .inr (.inr ⟨nI (mN (σ 134)), mAdd (σ 134) a1 a2 a3 x y, σ, π, fx_refl, ?_, ca_upd hC (fun p hp => f2 p (by omega)) b2, ok', zr_hi hz (hi_add (by omega)), fun σ' h4 hK h60 => ?_⟩)
        · rw [e1, Option.bind_some, e2, Option.bind_some]
        · obtain ⟨ρ, r1, r2, r3, r4, r5⟩ := m_beg hu hz h4 hK h60 (fx_th (v := 0)) th_7
          obtain ⟨ω, k1, k2, k3⟩ := m_lays ok r5 (by omega) (kd := a1) (col := a2) (w := a3) (x := x) (y := y)
          refine ⟨ω, ?_, ma_fz r2 (fz_y (fy_134 k3)) k2, by rw [k3 133 (by decide)]; exact r3⟩
          rw [hA σ' h4, if_neg h30, if_pos hf, r1, Option.bind_some, k1, Option.bind_some]
      · rw [if_neg hf]
        refine .inr (.inl ⟨2, σ, by decide, ?_, fx_refl, fun σ' h4 hK => ⟨th σ' 0, ?_, fx_th, th_7⟩⟩)
        · rw [show (2 : Int32) = nI 2 from rfl, c_refused (by decide) (by decide), Option.bind_some]
        · rw [hA σ' h4, if_neg h30, if_neg hf, show (2 : Int32) = nI 2 from rfl, m_refuses (by decide), Option.bind_some]
