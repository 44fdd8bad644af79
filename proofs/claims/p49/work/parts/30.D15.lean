def mTo (m : Vc) (k d : Nat) : Int32 × Int32 := (mC m k 3 + gSX (m 0) d, mC m k 4 + gSY (m 0) d)
noncomputable def mTry (m : Vc) (k d : Nat) (ex : Bool) : Bool × Vc :=
  if gBox (m 0) (m 1) (mTo m k d).1 (mTo m k d).2 = true then
    (if mBd m (mTo m k d).1 (mTo m k d).2 = -1 then (true, mMove m k (mTo m k d).1 (mTo m k d).2)
     else if ex = true ∧ mC m (mBd m (mTo m k d).1 (mTo m k d).2).toNatClampNeg 0 = 2 then (true, mExc m k (mBd m (mTo m k d).1 (mTo m k d).2).toNatClampNeg (mTo m k d).1 (mTo m k d).2 (mC m k 3) (mC m k 4)) else (false, m))
  else (false, m)
def FB (b : Nat) (σ τ : Sto) : Prop := ∀ p, (p < b ∨ b + 8 < p) → τ p = σ p
theorem fb_refl {b : Nat} {σ : Sto} : FB b σ σ := fun _ _ => rfl
theorem fb_trans {b : Nat} {σ τ ρ : Sto} (h : FB b σ τ) (h' : FB b τ ρ) : FB b σ ρ := fun p hp => by rw [h' p hp, h p hp]
section CM
variable {σ : Sto} {b : Nat} {m : Vc} {k : Nat}
theorem bx5 (h : BX σ b m) : σ b 5 = m 7 := h.2.1.2.2.2.2.1
theorem bx6 (h : BX σ b m) : σ b 6 = m 8 := h.2.1.2.2.2.2.2.1
theorem bx1 (h : BX σ b m) : σ b 1 = m 2 := h.2.1.1
theorem bx3 (h : BX σ b m) : σ b 3 = m 4 := h.2.1.2.2.1
theorem bx7 (h : BX σ b m) : σ b 7 = m 9 := h.2.1.2.2.2.2.2.2.1
theorem isChip_t (ok : OKm m) (h : BX σ b m) (hk : k < mN m) : fX5_isChip b (nI k) σ = true := by
  have := came_le ok
  rw [c_isChip ok h (by omega), decide_eq_true hk]
theorem mCell_in (hi : mC m k 6 = 1) : mCell m k = fX1_cellAt (mC m k 3) (mC m k 4) := by unfold mCell; rw [if_pos hi]
theorem c_enter (ok : OKm m) (h : BX σ b m) (hk : k < mN m) (hi : mC m k 6 = 1) {x y : Int32} (hb : gBox (m 0) (m 1) x y = true) (hf : mBd m x y = -1) :
    ∃ τ, fX0_enter b (nI k) (fX1_cellAt x y) σ = some (true, τ) ∧ BX τ b (mMove m k x y) ∧ FB b σ τ := by
  have hn := came_le ok
  have hR := near_R ok.2.1 (box_near hb)
  have hR0 := ok_in ok hk hi
  have hk30 : kin (nI k) 30 = true := kin_nI (by omega) (by decide)
  have hkn : (nI k).toNatClampNeg = k := nI_n (by omega)
  have e6 : σ (b + 6) k = fX1_cellAt (mC m k 3) (mC m k 4) := by rw [(h.2.2.1 k hk).2.2.2.1, mCell_in hi]
  unfold fX0_enter
  rw [if_neg (cell_ne1 hR), c_chipOn h hR, Option.bind_some, if_pos hf]
  unfold fX5_shift
  rw [isChip_t ok h hk, if_pos rfl, if_pos hk30, hkn, e6, if_pos (cell_is hR0), if_pos (cell_is hR), if_pos hk30, if_pos (cell_kin hR0), klet_eq, if_pos (cell_kin hR), klet_eq, if_pos hk30, klet_eq, Option.bind_some, ci_e, ci_e]
  generalize hT : su (su (su σ (b + 8) (ci (mC m k 3) (mC m k 4)) (-1)) (b + 8) (ci x y) (nI k)) (b + 6) k (fX1_cellAt x y) = τ1
  have t8 : τ1 b = σ b := by rw [← hT, su_k (by omega), su_k (by omega), su_k (by omega)]
  unfold fX5_countMove
  have hc : fX5_isChip b (nI k) τ1 = true := by
    rw [← isChip_t ok h hk]
    unfold fX5_isChip
    rw [t8]
  rw [hc, if_pos rfl, if_pos hk30, if_pos hk30, klet_eq, klet_eq, hkn, Option.bind_some]
  refine ⟨_, rfl, ⟨⟨?_, fun c hc => ?_⟩, ?_, fun j hj => ?_, fun c hc => ?_⟩, fun p hp => ?_⟩
  · rw [su_k (by omega), su_k (by omega), ← hT, su_k (by omega), su_k (by omega), su_k (by omega), geo_move.1, geo_move.2.1]
    exact h.1.1
  · rw [su_k (by omega), su_k (by omega), ← hT, su_k (by omega), su_k (by omega), su_k (by omega), geo_move.1, geo_move.2.1]
    exact h.1.2 c hc
  · have e5 : su τ1 (b + 7) k (τ1 (b + 7) k + 1) b 5 = m 7 := by rw [su_k (by omega), t8]; exact bx5 h
    rw [e5]
    simp only [su_at, mMove_lo (show 2 < 10 by decide), mMove_lo (show 3 < 10 by decide), mMove_lo (show 4 < 10 by decide), mMove_lo (show 6 < 10 by decide), mMove_lo (show 7 < 10 by decide), mMove_lo (show 8 < 10 by decide), mMove_lo (show 9 < 10 by decide), mMove_lo (show 5 < 10 by decide), su_k (show b ≠ b + 7 by omega), t8]
    exact ⟨h.2.1.1, h.2.1.2.1, h.2.1.2.2.1, h.2.1.2.2.2.1, rfl, h.2.1.2.2.2.2.2.1, h.2.1.2.2.2.2.2.2.1, h.2.1.2.2.2.2.2.2.2⟩
  · rw [geo_N geo_move] at hj
    have hj' := h.2.2.1 j hj
    rw [su_k (show b + 3 ≠ b by omega), su_k (show b + 4 ≠ b by omega), su_k (show b + 5 ≠ b by omega), su_k (show b + 6 ≠ b by omega), su_k (show b + 7 ≠ b by omega)]
    rw [su_k (show b + 3 ≠ b + 7 by omega), su_k (show b + 4 ≠ b + 7 by omega), su_k (show b + 5 ≠ b + 7 by omega), su_k (show b + 6 ≠ b + 7 by omega), su_at]
    have e7 : τ1 (b + 7) = σ (b + 7) := by rw [← hT, su_k (by omega), su_k (by omega), su_k (by omega)]
    rw [e7, ← hT]
    rw [su_k (show b + 3 ≠ b + 6 by omega), su_k (show b + 4 ≠ b + 6 by omega), su_k (show b + 5 ≠ b + 6 by omega), su_at, su_k (show b + 3 ≠ b + 8 by omega), su_k (show b + 4 ≠ b + 8 by omega), su_k (show b + 5 ≠ b + 8 by omega), su_k (show b + 6 ≠ b + 8 by omega)]
    rw [su_k (show b + 3 ≠ b + 8 by omega), su_k (show b + 4 ≠ b + 8 by omega), su_k (show b + 5 ≠ b + 8 by omega), su_k (show b + 6 ≠ b + 8 by omega)]
    unfold mCell
    rw [mMove_C (by decide), mMove_C (by decide), mMove_C (by decide), mMove_C (by decide), mMove_C (by decide), mMove_C (by decide), mMove_C (by decide)]
    by_cases hjk : j = k
    · subst hjk
      simp only [if_true, show ¬ (0 : Nat) = 3 from by decide, show ¬ (0 : Nat) = 4 from by decide, show ¬ (0 : Nat) = 5 from by decide, show ¬ (1 : Nat) = 3 from by decide, show ¬ (1 : Nat) = 4 from by decide, show ¬ (1 : Nat) = 5 from by decide, show ¬ (2 : Nat) = 3 from by decide, show ¬ (2 : Nat) = 4 from by decide, show ¬ (2 : Nat) = 5 from by decide, show ¬ (6 : Nat) = 3 from by decide, show ¬ (6 : Nat) = 4 from by decide, show ¬ (6 : Nat) = 5 from by decide, show ¬ (5 : Nat) = 3 from by decide, show ¬ (5 : Nat) = 4 from by decide, show ¬ (4 : Nat) = 3 from by decide, if_false, hi]
      exact ⟨hj'.1, hj'.2.1, hj'.2.2.1, trivial, by rw [hj'.2.2.2.2]⟩
    · simp only [if_neg hjk]
      exact hj'
  · rw [su_k (by omega), su_k (by omega), ← hT, su_k (by omega), su_at, su_at, h.2.2.2 c hc, bd_move ok hk hi hb hf]
    have hcR := cxy_in hc
    have e1 : (c = ci x y) ↔ (cx c = x ∧ cy c = y) := by
      constructor
      · intro e; subst e; exact ⟨cx_ci hR, cy_ci hR⟩
      · rintro ⟨e1, e2⟩; rw [← e1, ← e2, cxy_ci hc]
    have e2 : (c = ci (mC m k 3) (mC m k 4)) ↔ (cx c = mC m k 3 ∧ cy c = mC m k 4) := by
      constructor
      · intro e; subst e; exact ⟨cx_ci hR0, cy_ci hR0⟩
      · rintro ⟨e1, e2⟩; rw [← e1, ← e2, cxy_ci hc]
    simp only [e1, e2]
  · rw [su_k (by omega), su_k (by omega), ← hT, su_k (by omega), su_k (by omega), su_k (by omega)]
theorem c_exch (ok : OKm m) (h : BX σ b m) (hk : k < mN m) (hi : mC m k 6 = 1) {x y : Int32} {j : Nat} (hj : j < mN m) (ha : mAt m x y j) (hkj : k ≠ j) :
    ∃ τ ρ, fX5_exchange b (nI k) (nI j) σ = some τ ∧ fX5_countMove b (nI k) (su τ b 6 (τ b 6 + 1)) = some ρ ∧ BX ρ b (mExc m k j x y (mC m k 3) (mC m k 4)) ∧ FB b σ ρ := by
  have hn := came_le ok
  have hRj := ok_in ok hj ha.1
  rw [ha.2.1, ha.2.2] at hRj
  have hR0 := ok_in ok hk hi
  have hk30 : kin (nI k) 30 = true := kin_nI (by omega) (by decide)
  have hj30 : kin (nI j) 30 = true := kin_nI (by omega) (by decide)
  have hkn : (nI k).toNatClampNeg = k := nI_n (by omega)
  have hjn : (nI j).toNatClampNeg = j := nI_n (by omega)
  unfold fX5_exchange
  rw [c_cellOf ok h hk, c_cellOf ok h hj, mCell_in hi, mCell_in ha.1, ha.2.1, ha.2.2, Option.bind_some, Option.bind_some]
  unfold fX5_put
  rw [isChip_t ok h hk, if_pos rfl, if_pos (cell_is hRj), if_pos hk30, klet_eq, if_pos (cell_kin hRj), klet_eq, hkn, Option.bind_some, ci_e]
  have t8 : su (su σ (b + 6) k (fX1_cellAt x y)) (b + 8) (ci x y) (nI k) b = σ b := by rw [su_k (by omega), su_k (by omega)]
  have hc : fX5_isChip b (nI j) (su (su σ (b + 6) k (fX1_cellAt x y)) (b + 8) (ci x y) (nI k)) = true := by
    rw [← isChip_t ok h hj]
    unfold fX5_isChip
    rw [t8]
  rw [hc, if_pos rfl, if_pos (cell_is hR0), if_pos hj30, klet_eq, if_pos (cell_kin hR0), klet_eq, hjn, Option.bind_some, ci_e]
  generalize hT : su (su (su (su σ (b + 6) k (fX1_cellAt x y)) (b + 8) (ci x y) (nI k)) (b + 6) j (fX1_cellAt (mC m k 3) (mC m k 4))) (b + 8) (ci (mC m k 3) (mC m k 4)) (nI j) = τ
  have u8 : τ b = σ b := by rw [← hT, su_k (by omega), su_k (by omega), su_k (by omega), su_k (by omega)]
  have hc2 : fX5_isChip b (nI k) (su τ b 6 (τ b 6 + 1)) = true := by
    rw [← isChip_t ok h hk]
    unfold fX5_isChip
    rw [su_i (by decide), u8]
  refine ⟨τ, ?_⟩
  unfold fX5_countMove
  rw [hc2, if_pos rfl, if_pos hk30, if_pos hk30, klet_eq, klet_eq, hkn]
  refine ⟨_, rfl, rfl, ⟨⟨?_, fun c hc => ?_⟩, ?_, fun i hi' => ?_, fun c hc => ?_⟩, fun p hp => ?_⟩
  · rw [su_k (by omega), su_k (by omega), su_k (by omega), ← hT, su_k (by omega), su_k (by omega), su_k (by omega), su_k (by omega), geo_exc.1, geo_exc.2.1]
    exact h.1.1
  · rw [su_k (by omega), su_k (by omega), su_k (by omega), ← hT, su_k (by omega), su_k (by omega), su_k (by omega), su_k (by omega), geo_exc.1, geo_exc.2.1]
    exact h.1.2 c hc
  · have e6 : τ b 6 = m 8 := by rw [u8]; exact bx6 h
    have e5 : su (su τ b 6 (τ b 6 + 1)) (b + 7) k (su τ b 6 (τ b 6 + 1) (b + 7) k + 1) b 5 = m 7 := by rw [su_k (by omega), su_i (by decide), u8]; exact bx5 h
    rw [e5, e6]
    simp only [su_at, mExc_lo (show 2 < 10 by decide), mExc_lo (show 3 < 10 by decide), mExc_lo (show 4 < 10 by decide), mExc_lo (show 6 < 10 by decide), mExc_lo (show 7 < 10 by decide), mExc_lo (show 8 < 10 by decide), mExc_lo (show 9 < 10 by decide), mExc_lo (show 5 < 10 by decide), su_k (show b ≠ b + 7 by omega), u8]
    exact ⟨h.2.1.1, h.2.1.2.1, h.2.1.2.2.1, h.2.1.2.2.2.1, rfl, rfl, h.2.1.2.2.2.2.2.2.1, h.2.1.2.2.2.2.2.2.2⟩
  · rw [geo_N geo_exc] at hi'
    have hj' := h.2.2.1 i hi'
    have e7 : su τ b 6 (τ b 6 + 1) (b + 7) = σ (b + 7) := by rw [su_k (by omega), ← hT, su_k (by omega), su_k (by omega), su_k (by omega), su_k (by omega)]
    rw [e7]
    rw [su_k (show b + 3 ≠ b by omega), su_k (show b + 4 ≠ b by omega), su_k (show b + 5 ≠ b by omega), su_k (show b + 6 ≠ b by omega), su_k (show b + 7 ≠ b by omega)]
    rw [su_k (show b + 3 ≠ b + 7 by omega), su_k (show b + 4 ≠ b + 7 by omega), su_k (show b + 5 ≠ b + 7 by omega), su_k (show b + 6 ≠ b + 7 by omega), su_at, e7]
    rw [su_k (show b + 3 ≠ b by omega), su_k (show b + 4 ≠ b by omega), su_k (show b + 5 ≠ b by omega), su_k (show b + 6 ≠ b by omega), ← hT]
    rw [su_k (show b + 3 ≠ b + 8 by omega), su_k (show b + 4 ≠ b + 8 by omega), su_k (show b + 5 ≠ b + 8 by omega), su_k (show b + 6 ≠ b + 8 by omega)]
    rw [su_k (show b + 3 ≠ b + 6 by omega), su_k (show b + 4 ≠ b + 6 by omega), su_k (show b + 5 ≠ b + 6 by omega), su_at]
    rw [su_k (show b + 3 ≠ b + 8 by omega), su_k (show b + 4 ≠ b + 8 by omega), su_k (show b + 5 ≠ b + 8 by omega), su_k (show b + 6 ≠ b + 8 by omega)]
    rw [su_k (show b + 3 ≠ b + 6 by omega), su_k (show b + 4 ≠ b + 6 by omega), su_k (show b + 5 ≠ b + 6 by omega), su_at]
    unfold mCell
    rw [mExc_C hkj (by decide), mExc_C hkj (by decide), mExc_C hkj (by decide), mExc_C hkj (by decide), mExc_C hkj (by decide), mExc_C hkj (by decide), mExc_C hkj (by decide)]
    have N03 : ¬ (0 : Nat) = 3 := by decide
    have N04 : ¬ (0 : Nat) = 4 := by decide
    have N05 : ¬ (0 : Nat) = 5 := by decide
    have N13 : ¬ (1 : Nat) = 3 := by decide
    have N14 : ¬ (1 : Nat) = 4 := by decide
    have N15 : ¬ (1 : Nat) = 5 := by decide
    have N23 : ¬ (2 : Nat) = 3 := by decide
    have N24 : ¬ (2 : Nat) = 4 := by decide
    have N25 : ¬ (2 : Nat) = 5 := by decide
    have N63 : ¬ (6 : Nat) = 3 := by decide
    have N64 : ¬ (6 : Nat) = 4 := by decide
    have N65 : ¬ (6 : Nat) = 5 := by decide
    have N53 : ¬ (5 : Nat) = 3 := by decide
    have N54 : ¬ (5 : Nat) = 4 := by decide
    have N43 : ¬ (4 : Nat) = 3 := by decide
    by_cases hik : i = k
    · subst hik
      simp only [if_true, N03, N04, N05, N13, N14, N15, N23, N24, N25, N63, N64, N65, N53, N54, N43, if_false, hi, if_neg hkj]
      exact ⟨hj'.1, hj'.2.1, hj'.2.2.1, trivial, by rw [hj'.2.2.2.2]⟩
    · by_cases hij : i = j
      · subst hij
        simp only [if_neg hik, if_true, N03, N04, N13, N14, N23, N24, N63, N64, N53, N54, N43, if_false, ha.1]
        exact ⟨hj'.1, hj'.2.1, hj'.2.2.1, trivial, hj'.2.2.2.2⟩
      · simp only [if_neg hik, if_neg hij]
        exact hj'
  · rw [su_k (by omega), su_k (by omega), su_k (by omega), ← hT, su_at, su_k (show b + 8 ≠ b + 6 by omega), su_at, su_k (show b + 8 ≠ b + 6 by omega), h.2.2.2 c hc, bd_exc ok hk hi hj ha hkj]
    have e1 : (c = ci x y) ↔ (cx c = x ∧ cy c = y) := by
      constructor
      · intro e; subst e; exact ⟨cx_ci hRj, cy_ci hRj⟩
      · rintro ⟨e1, e2⟩; rw [← e1, ← e2, cxy_ci hc]
    have e2 : (c = ci (mC m k 3) (mC m k 4)) ↔ (cx c = mC m k 3 ∧ cy c = mC m k 4) := by
      constructor
      · intro e; subst e; exact ⟨cx_ci hR0, cy_ci hR0⟩
      · rintro ⟨e1, e2⟩; rw [← e1, ← e2, cxy_ci hc]
    simp only [e1, e2]
  · rw [su_k (by omega), su_k (by omega), su_k (by omega), ← hT, su_k (by omega), su_k (by omega), su_k (by omega), su_k (by omega)]
theorem try_no {d : Nat} {ex : Bool} (h : ¬ gBox (m 0) (m 1) (mTo m k d).1 (mTo m k d).2 = true) : mTry m k d ex = (false, m) := by unfold mTry; rw [if_neg h]
theorem try_go {d : Nat} {ex : Bool} (h : gBox (m 0) (m 1) (mTo m k d).1 (mTo m k d).2 = true) (hf : mBd m (mTo m k d).1 (mTo m k d).2 = -1) : mTry m k d ex = (true, mMove m k (mTo m k d).1 (mTo m k d).2) := by unfold mTry; rw [if_pos h, if_pos hf]
theorem c_roll (ok : OKm m) (h : BX σ b m) (hk : k < mN m) (hi : mC m k 6 = 1) {d : Nat} (hd : d < gDirs (m 0)) :
    ∃ τ, fX0_roll b (nI k) (nI d) σ = some ((mTry m k d false).1, τ) ∧ BX τ b (mTry m k d false).2 ∧ FB b σ τ := by
  unfold fX0_roll
  rw [c_cellOf ok h hk, mCell_in hi, Option.bind_some, c_boxNb h.1 ok.2.1 hd (ok_near ok hk hi), Option.bind_some]
  have e1 : mC m k 3 + gSX (m 0) d = (mTo m k d).1 := rfl
  have e2 : mC m k 4 + gSY (m 0) d = (mTo m k d).2 := rfl
  rw [e1, e2]
  by_cases hb : gBox (m 0) (m 1) (mTo m k d).1 (mTo m k d).2 = true
  · rw [if_pos hb]
    by_cases hf : mBd m (mTo m k d).1 (mTo m k d).2 = -1
    · obtain ⟨τ, e, g1, g2⟩ := c_enter ok h hk hi hb hf
      rw [e, Option.bind_some, try_go hb hf]
      exact ⟨τ, rfl, g1, g2⟩
    · have e3 : mTry m k d false = (false, m) := by unfold mTry; rw [if_pos hb, if_neg hf, if_neg (fun c => Bool.false_ne_true c.1)]
      unfold fX0_enter
      have hR := near_R ok.2.1 (box_near hb)
      rw [if_neg (cell_ne1 hR), c_chipOn h hR, Option.bind_some, if_neg hf, e3]
      exact ⟨σ, rfl, h, fb_refl⟩
  · rw [if_neg hb, try_no hb]
    exact ⟨σ, rfl, h, fb_refl⟩
theorem c_drop (ok : OKm m) (h : BX σ b m) (hk : k < mN m) (hi : mC m k 6 = 1) (hkind : ¬ mC m k 0 = 2) :
    ∃ τ, fX0_drop b (nI k) σ = some ((mTry m k (mD m) true).1, τ) ∧ BX τ b (mTry m k (mD m) true).2 ∧ FB b σ τ := by
  have hn := came_le ok
  have hd : mD m < gDirs (m 0) := ok.2.2.1.2
  unfold fX0_drop
  rw [c_cellOf ok h hk, mCell_in hi, Option.bind_some, bx1 h, ok.2.2.1.1, c_boxNb h.1 ok.2.1 hd (ok_near ok hk hi), Option.bind_some]
  have e1 : mC m k 3 + gSX (m 0) (mD m) = (mTo m k (mD m)).1 := rfl
  have e2 : mC m k 4 + gSY (m 0) (mD m) = (mTo m k (mD m)).2 := rfl
  rw [e1, e2]
  by_cases hb : gBox (m 0) (m 1) (mTo m k (mD m)).1 (mTo m k (mD m)).2 = true
  · have hR := near_R ok.2.1 (box_near hb)
    rw [if_pos hb, c_chipOn h hR, Option.bind_some]
    rcases mBd_cases m (mTo m k (mD m)).1 (mTo m k (mD m)).2 with ⟨hf, _⟩ | ⟨j, hj, ha, hbj⟩
    · rw [hf, c_kindOf_no, Option.bind_some, if_neg (by decide)]
      obtain ⟨τ, e, g1, g2⟩ := c_enter ok h hk hi hb hf
      rw [e, Option.bind_some, try_go hb hf]
      exact ⟨τ, rfl, g1, g2⟩
    · have hne : ¬ mBd m (mTo m k (mD m)).1 (mTo m k (mD m)).2 = -1 := by rw [hbj]; exact nI_ne1 (by omega)
      rw [hbj, c_kindOf ok h hj, Option.bind_some]
      by_cases h2 : mC m j 0 = 2
      · have hkj : k ≠ j := fun c => hkind (by rw [c]; exact h2)
        obtain ⟨τ, ρ, e, e', g1, g2⟩ := c_exch ok h hk hi hj ha hkj
        have e3 : mTry m k (mD m) true = (true, mExc m k j (mTo m k (mD m)).1 (mTo m k (mD m)).2 (mC m k 3) (mC m k 4)) := by
          unfold mTry
          rw [if_pos hb, if_neg hne, hbj, nI_n (by omega), if_pos ⟨rfl, h2⟩]
        rw [if_pos h2, e, Option.bind_some, klet_eq, e', Option.bind_some, e3]
        exact ⟨ρ, rfl, g1, g2⟩
      · have e3 : mTry m k (mD m) true = (false, m) := by
          unfold mTry
          rw [if_pos hb, if_neg hne, hbj, nI_n (by omega), if_neg (fun c => h2 c.2)]
        rw [if_neg h2]
        unfold fX0_enter
        rw [if_neg (cell_ne1 hR), c_chipOn h hR, Option.bind_some, if_neg hne, e3]
        exact ⟨σ, rfl, h, fb_refl⟩
  · rw [if_neg hb, c_chipOn_no, Option.bind_some, c_kindOf_no, Option.bind_some, if_neg (by decide), try_no hb]
    exact ⟨σ, rfl, h, fb_refl⟩
end CM
