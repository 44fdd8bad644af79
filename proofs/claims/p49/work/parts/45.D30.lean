section CHP
variable {m : Vc} {k j w u : Nat} {v x y : Int32}
theorem mSet_geo : Geo m (mSet m k w v) := ⟨mSet_lo (by decide), mSet_lo (by decide), mSet_lo (by decide), mSet_lo (by decide), mSet_lo (by decide), mSet_lo (by decide)⟩
theorem ok_take (ok : OKm m) : OKm (mSet m k 6 0) := by
  refine ok_geo ok mSet_geo (fun i hi => ?_) (fun i j hi hj h1 h2 h3 h4 => ?_)
  · have := ok_chip ok hi
    unfold OKc at this ⊢
    rw [mC_set (by decide) (by decide), mC_set (by decide) (by decide), mC_set (by decide) (by decide), mC_set (by decide) (by decide), mC_set (by decide) (by decide), mC_set (by decide) (by decide), mSet_lo (by decide), mSet_lo (by decide), if_neg (show ¬ (i = k ∧ 0 = 6) by omega), if_neg (show ¬ (i = k ∧ 1 = 6) by omega), if_neg (show ¬ (i = k ∧ 2 = 6) by omega), if_neg (show ¬ (i = k ∧ 3 = 6) by omega), if_neg (show ¬ (i = k ∧ 4 = 6) by omega)]
    by_cases h : i = k ∧ 6 = 6
    · rw [if_pos h]
      exact ⟨.inl rfl, this.2.1, this.2.2.1, this.2.2.2.1, fun c => absurd c (by decide)⟩
    · rw [if_neg h]
      exact this
  · rw [mC_set (by decide) (by decide)] at h1 h2
    rw [mC_set (by decide) (by decide), mC_set (by decide) (by decide), if_neg (by omega), if_neg (by omega)] at h3 h4
    by_cases c1 : i = k ∧ 6 = 6
    · rw [if_pos c1] at h1; exact absurd h1 (by decide)
    · by_cases c2 : j = k ∧ 6 = 6
      · rw [if_pos c2] at h2; exact absurd h2 (by decide)
      · rw [if_neg c1] at h1
        rw [if_neg c2] at h2
        exact ok.2.2.2.2.2.2.2 i j hi hj h1 h2 h3 h4
theorem bd_take (ok : OKm m) (hk : k < mN m) (hi : mC m k 6 = 1) (u v : Int32) : mBd (mSet m k 6 0) u v = if u = mC m k 3 ∧ v = mC m k 4 then -1 else mBd m u v := by
  have hN := geo_N (@mSet_geo m k 6 0)
  have hA : ∀ j, mAt (mSet m k 6 0) u v j ↔ j ≠ k ∧ mAt m u v j := by
    intro j
    unfold mAt
    rw [mC_set (by decide) (by decide), mC_set (by decide) (by decide), mC_set (by decide) (by decide), if_neg (show ¬ (j = k ∧ 3 = 6) by omega), if_neg (show ¬ (j = k ∧ 4 = 6) by omega)]
    by_cases h : j = k
    · subst h
      rw [if_pos ⟨rfl, rfl⟩]
      exact ⟨fun c => absurd c.1 (by decide), fun c => absurd rfl c.1⟩
    · rw [if_neg (fun c => h c.1)]
      exact ⟨fun c => ⟨h, c⟩, fun c => c.2⟩
  by_cases h2 : u = mC m k 3 ∧ v = mC m k 4
  · rw [if_pos h2]
    refine mBd_no (fun j hj c => ?_)
    rw [hN] at hj
    have c' := (hA j).1 c
    exact c'.1 (ok_uniq ok hj hk c'.2 ⟨hi, h2.1.symm, h2.2.symm⟩)
  · rw [if_neg h2]
    refine bd_same hN (fun j hj => ?_)
    rw [hA j]
    constructor
    · exact fun c => c.2
    · refine fun c => ⟨fun e => ?_, c⟩
      subst e
      exact h2 ⟨c.2.1.symm, c.2.2.symm⟩
theorem ok_paint (ok : OKm m) (hv : 1 ≤ v ∧ v ≤ 9) : OKm (mSet m k 1 v) := by
  have e6 : ∀ i, mC (mSet m k 1 v) i 6 = mC m i 6 := fun i => by rw [mC_set (by decide) (by decide), if_neg (by omega)]
  have e3 : ∀ i, mC (mSet m k 1 v) i 3 = mC m i 3 := fun i => by rw [mC_set (by decide) (by decide), if_neg (by omega)]
  have e4 : ∀ i, mC (mSet m k 1 v) i 4 = mC m i 4 := fun i => by rw [mC_set (by decide) (by decide), if_neg (by omega)]
  have e0 : ∀ i, mC (mSet m k 1 v) i 0 = mC m i 0 := fun i => by rw [mC_set (by decide) (by decide), if_neg (by omega)]
  have e2 : ∀ i, mC (mSet m k 1 v) i 2 = mC m i 2 := fun i => by rw [mC_set (by decide) (by decide), if_neg (by omega)]
  refine ok_geo ok mSet_geo (fun i hi => ?_) (fun i j hi hj h1 h2 h3 h4 => ?_)
  · have := ok_chip ok hi
    unfold OKc at this ⊢
    rw [e6, e3, e4, e0, e2, mSet_lo (by decide), mSet_lo (by decide), mC_set (by decide) (by decide)]
    refine ⟨this.1, this.2.1, ?_, this.2.2.2.1, this.2.2.2.2⟩
    split
    · exact hv
    · exact this.2.2.1
  · rw [e6] at h1 h2
    rw [e3, e3] at h3
    rw [e4, e4] at h4
    exact ok.2.2.2.2.2.2.2 i j hi hj h1 h2 h3 h4
theorem bd_paint {x y : Int32} : mBd (mSet m k 1 v) x y = mBd m x y := by
  refine bd_same (geo_N mSet_geo) (fun j _ => ?_)
  unfold mAt
  rw [mC_set (by decide) (by decide), mC_set (by decide) (by decide), mC_set (by decide) (by decide), if_neg (by omega), if_neg (by omega), if_neg (by omega)]
theorem mPos_mv (hu : u < 7) (h5 : u ≠ 5) : mC (mPos m k x y) j u = mC (mMove m k x y) j u := by
  unfold mMove
  rw [mGo_C hu, if_neg (by omega)]
theorem geo_pos : Geo m (mPos m k x y) := ⟨mPos_lo (by decide), mPos_lo (by decide), mPos_lo (by decide), mPos_lo (by decide), mPos_lo (by decide), mPos_lo (by decide)⟩
theorem ok_pos (ok : OKm m) (hk : k < mN m) (hi : mC m k 6 = 1) (hb : gBox (m 0) (m 1) x y = true) (hf : mBd m x y = -1) : OKm (mPos m k x y) := by
  have ok' := ok_move ok hk hi hb hf
  have hN := geo_N (@geo_move m k x y)
  refine ok_geo ok geo_pos (fun i hi => ?_) (fun i j hi hj h1 h2 h3 h4 => ?_)
  · have := ok_chip ok' (show i < mN (mMove m k x y) by rw [hN]; exact hi)
    unfold OKc at this ⊢
    rw [mPos_mv (by decide) (by decide), mPos_mv (by decide) (by decide), mPos_mv (by decide) (by decide), mPos_mv (by decide) (by decide), mPos_mv (by decide) (by decide), mPos_mv (by decide) (by decide), geo_pos.1, geo_pos.2.1]
    rw [geo_move.1, geo_move.2.1] at this
    exact this
  · rw [mPos_mv (by decide) (by decide)] at h1 h2
    rw [mPos_mv (by decide) (by decide), mPos_mv (by decide) (by decide)] at h3 h4
    exact ok'.2.2.2.2.2.2.2 i j (by rw [hN]; exact hi) (by rw [hN]; exact hj) h1 h2 h3 h4
theorem bd_pos (ok : OKm m) (hk : k < mN m) (hi : mC m k 6 = 1) (hb : gBox (m 0) (m 1) x y = true) (hf : mBd m x y = -1) (u v : Int32) :
    mBd (mPos m k x y) u v = if u = x ∧ v = y then nI k else if u = mC m k 3 ∧ v = mC m k 4 then -1 else mBd m u v := by
  rw [← bd_move ok hk hi hb hf u v]
  refine bd_same (by rw [geo_N geo_pos, geo_N geo_move]) (fun j _ => ?_)
  unfold mAt
  rw [mPos_mv (by decide) (by decide), mPos_mv (by decide) (by decide), mPos_mv (by decide) (by decide)]
end CHP
section CCH
variable {σ : Sto} {b : Nat} {m : Vc} {k : Nat}
theorem ci_iff {c : Nat} {x y : Int32} (hc : c < 225) (hR : inR x y) : (c = ci x y) ↔ (cx c = x ∧ cy c = y) := by
  constructor
  · intro e; subst e; exact ⟨cx_ci hR, cy_ci hR⟩
  · rintro ⟨e1, e2⟩; rw [← e1, ← e2, cxy_ci hc]
theorem c_takeOut (ok : OKm m) (h : BX σ b m) (hk : k < mN m) (hi : mC m k 6 = 1) : ∃ τ, fX5_takeOut b (nI k) σ = some τ ∧ BX τ b (mSet m k 6 0) ∧ FB b σ τ := by
  have hn := came_le ok
  have hR := ok_in ok hk hi
  unfold fX5_takeOut
  rw [c_cellOf ok h hk, mCell_in hi, Option.bind_some, if_pos (cell_is hR), if_pos (cell_kin hR), klet_eq, if_pos (kin_nI (show k < 30 by omega) (by decide)), klet_eq, ci_e, nI_n (by omega)]
  refine ⟨_, rfl, ⟨⟨?_, fun c hc => ?_⟩, ?_, fun j hj => ?_, fun c hc => ?_⟩, fun p hp => ?_⟩
  · rw [su_k (by omega), su_k (by omega), mSet_lo (by decide), mSet_lo (by decide)]; exact h.1.1
  · rw [su_k (by omega), su_k (by omega), mSet_lo (by decide), mSet_lo (by decide)]; exact h.1.2 c hc
  · rw [su_k (by omega), su_k (by omega)]
    simp only [mSet_lo (show 2 < 10 by decide), mSet_lo (show 3 < 10 by decide), mSet_lo (show 4 < 10 by decide), mSet_lo (show 6 < 10 by decide), mSet_lo (show 7 < 10 by decide), mSet_lo (show 8 < 10 by decide), mSet_lo (show 9 < 10 by decide), mSet_lo (show 5 < 10 by decide)]
    exact h.2.1
  · rw [geo_N mSet_geo] at hj
    have hj' := h.2.2.1 j hj
    rw [su_k (show b + 3 ≠ b + 6 by omega), su_k (show b + 4 ≠ b + 6 by omega), su_k (show b + 5 ≠ b + 6 by omega), su_k (show b + 7 ≠ b + 6 by omega), su_at, su_k (show b + 3 ≠ b + 8 by omega), su_k (show b + 4 ≠ b + 8 by omega), su_k (show b + 5 ≠ b + 8 by omega), su_k (show b + 7 ≠ b + 8 by omega), su_k (show b + 6 ≠ b + 8 by omega)]
    have hc : mCell (mSet m k 6 0) j = if j = k then -1 else mCell m j := by
      unfold mCell
      rw [mC_set (by decide) (by decide), mC_set (by decide) (by decide), mC_set (by decide) (by decide)]
      by_cases hjk : j = k
      · rw [if_pos hjk, if_pos (show j = k ∧ 6 = 6 from ⟨hjk, rfl⟩), if_neg (show ¬ (0 : Int32) = 1 by decide)]
      · rw [if_neg hjk, if_neg (show ¬ (j = k ∧ 6 = 6) by omega), if_neg (show ¬ (j = k ∧ 3 = 6) by omega), if_neg (show ¬ (j = k ∧ 4 = 6) by omega)]
    rw [hc, mC_set (by decide) (by decide), mC_set (by decide) (by decide), mC_set (by decide) (by decide), mC_set (by decide) (by decide), if_neg (show ¬ (j = k ∧ 0 = 6) by omega), if_neg (show ¬ (j = k ∧ 1 = 6) by omega), if_neg (show ¬ (j = k ∧ 2 = 6) by omega), if_neg (show ¬ (j = k ∧ 5 = 6) by omega)]
    by_cases hjk : j = k
    · rw [if_pos hjk, if_pos hjk]
      exact ⟨hj'.1, hj'.2.1, hj'.2.2.1, rfl, hj'.2.2.2.2⟩
    · rw [if_neg hjk, if_neg hjk]
      exact hj'
  · rw [su_k (by omega), su_at, bd_take ok hk hi, h.2.2.2 c hc]
    simp only [ci_iff hc hR]
  · rw [su_k (by omega), su_k (by omega)]
theorem c_paint (ok : OKm m) (h : BX σ b m) (hk : k < mN m) {v : Int32} : ∃ τ, fX5_recolour b (nI k) v σ = some τ ∧ BX τ b (mSet m k 1 v) ∧ FB b σ τ := by
  have hn := came_le ok
  unfold fX5_recolour
  rw [isChip_t ok h hk, if_pos rfl, if_pos (kin_nI (show k < 30 by omega) (by decide)), klet_eq, nI_n (by omega)]
  refine ⟨_, rfl, ⟨⟨?_, fun c hc => ?_⟩, ?_, fun j hj => ?_, fun c hc => ?_⟩, fun p hp => su_k (by omega)⟩
  · rw [su_k (by omega), mSet_lo (by decide), mSet_lo (by decide)]; exact h.1.1
  · rw [su_k (by omega), mSet_lo (by decide), mSet_lo (by decide)]; exact h.1.2 c hc
  · rw [su_k (by omega)]
    simp only [mSet_lo (show 2 < 10 by decide), mSet_lo (show 3 < 10 by decide), mSet_lo (show 4 < 10 by decide), mSet_lo (show 6 < 10 by decide), mSet_lo (show 7 < 10 by decide), mSet_lo (show 8 < 10 by decide), mSet_lo (show 9 < 10 by decide), mSet_lo (show 5 < 10 by decide)]
    exact h.2.1
  · rw [geo_N mSet_geo] at hj
    have hj' := h.2.2.1 j hj
    rw [su_k (show b + 3 ≠ b + 4 by omega), su_at, su_k (show b + 5 ≠ b + 4 by omega), su_k (show b + 7 ≠ b + 4 by omega), su_k (show b + 6 ≠ b + 4 by omega)]
    unfold mCell
    rw [mC_set (by decide) (by decide), mC_set (by decide) (by decide), mC_set (by decide) (by decide), mC_set (by decide) (by decide), mC_set (by decide) (by decide), mC_set (by decide) (by decide), mC_set (by decide) (by decide), if_neg (show ¬ (j = k ∧ 0 = 1) by omega), if_neg (show ¬ (j = k ∧ 2 = 1) by omega), if_neg (show ¬ (j = k ∧ 3 = 1) by omega), if_neg (show ¬ (j = k ∧ 4 = 1) by omega), if_neg (show ¬ (j = k ∧ 5 = 1) by omega), if_neg (show ¬ (j = k ∧ 6 = 1) by omega)]
    refine ⟨hj'.1, ?_, hj'.2.2.1, hj'.2.2.2.1, hj'.2.2.2.2⟩
    by_cases hjk : j = k
    · rw [if_pos hjk, if_pos ⟨hjk, rfl⟩]
    · rw [if_neg hjk, if_neg (fun c => hjk c.1)]
      exact hj'.2.1
  · rw [su_k (by omega), bd_paint]
    exact h.2.2.2 c hc
theorem c_shift (ok : OKm m) (h : BX σ b m) (hk : k < mN m) (hi : mC m k 6 = 1) {x y : Int32} (hb : gBox (m 0) (m 1) x y = true) (hf : mBd m x y = -1) :
    ∃ τ, fX5_shift b (nI k) (fX1_cellAt x y) σ = some τ ∧ BX τ b (mPos m k x y) ∧ FB b σ τ := by
  have hn := came_le ok
  have hR := near_R ok.2.1 (box_near hb)
  have hR0 := ok_in ok hk hi
  have hk30 : kin (nI k) 30 = true := kin_nI (by omega) (by decide)
  have hkn : (nI k).toNatClampNeg = k := nI_n (by omega)
  have e6 : σ (b + 6) k = fX1_cellAt (mC m k 3) (mC m k 4) := by rw [(h.2.2.1 k hk).2.2.2.1, mCell_in hi]
  unfold fX5_shift
  rw [isChip_t ok h hk, if_pos rfl, if_pos hk30, hkn, e6, if_pos (cell_is hR0), if_pos (cell_is hR), if_pos hk30, if_pos (cell_kin hR0), klet_eq, if_pos (cell_kin hR), klet_eq, if_pos hk30, klet_eq, ci_e, ci_e]
  refine ⟨_, rfl, ⟨⟨?_, fun c hc => ?_⟩, ?_, fun j hj => ?_, fun c hc => ?_⟩, fun p hp => ?_⟩
  · rw [su_k (by omega), su_k (by omega), su_k (by omega), mPos_lo (by decide), mPos_lo (by decide)]; exact h.1.1
  · rw [su_k (by omega), su_k (by omega), su_k (by omega), mPos_lo (by decide), mPos_lo (by decide)]; exact h.1.2 c hc
  · rw [su_k (by omega), su_k (by omega), su_k (by omega)]
    simp only [mPos_lo (show 2 < 10 by decide), mPos_lo (show 3 < 10 by decide), mPos_lo (show 4 < 10 by decide), mPos_lo (show 6 < 10 by decide), mPos_lo (show 7 < 10 by decide), mPos_lo (show 8 < 10 by decide), mPos_lo (show 9 < 10 by decide), mPos_lo (show 5 < 10 by decide)]
    exact h.2.1
  · rw [geo_N geo_pos] at hj
    have hj' := h.2.2.1 j hj
    have g : ∀ q, q ≠ b + 6 → q ≠ b + 8 → su (su (su σ (b + 8) (ci (mC m k 3) (mC m k 4)) (-1)) (b + 8) (ci x y) (nI k)) (b + 6) k (fX1_cellAt x y) q = σ q := fun q h1 h2 => by rw [su_k h1, su_k h2, su_k h2]
    rw [g (b + 3) (by omega) (by omega), g (b + 4) (by omega) (by omega), g (b + 5) (by omega) (by omega), g (b + 7) (by omega) (by omega), su_at, su_k (show b + 6 ≠ b + 8 by omega), su_k (show b + 6 ≠ b + 8 by omega)]
    unfold mCell
    rw [mPos_C (by decide), mPos_C (by decide), mPos_C (by decide), mPos_C (by decide), mPos_C (by decide), mPos_C (by decide), mPos_C (by decide)]
    by_cases hjk : j = k
    · subst hjk
      simp only [if_true, show ¬ (0 : Nat) = 3 from by decide, show ¬ (0 : Nat) = 4 from by decide, show ¬ (1 : Nat) = 3 from by decide, show ¬ (1 : Nat) = 4 from by decide, show ¬ (2 : Nat) = 3 from by decide, show ¬ (2 : Nat) = 4 from by decide, show ¬ (6 : Nat) = 3 from by decide, show ¬ (6 : Nat) = 4 from by decide, show ¬ (5 : Nat) = 3 from by decide, show ¬ (5 : Nat) = 4 from by decide, show ¬ (4 : Nat) = 3 from by decide, if_false, hi, and_true, and_false]
      exact ⟨hj'.1, hj'.2.1, hj'.2.2.1, trivial, hj'.2.2.2.2⟩
    · simp only [hjk, false_and, if_false]
      exact hj'
  · rw [su_k (by omega), su_at, su_at, h.2.2.2 c hc, bd_pos ok hk hi hb hf]
    simp only [ci_iff hc hR, ci_iff hc hR0]
  · rw [su_k (by omega), su_k (by omega), su_k (by omega)]
end CCH
theorem ok_lt {m : Vc} (ok : OKm m) : mN m < 1000 := by have := came_le ok; omega
theorem q_take (a : Int32) : CALL (fX6_take a) (fX7_take a) [3] := by
  refine act_call (fun σ h u e hu => ?_)
  have ok := rel_ok h
  have bx := rel_bx h
  have hz := h.1.2.1
  have hn := came_le ok
  unfold fX6_take
  rw [c_needChip ok bx, Option.bind_some]
  rcases chip_cases ok a with ⟨k, h1, h2, h3⟩ | ⟨h1, h2⟩
  · subst h2
    rw [h3, if_pos rfl, if_pos rfl, c_cellOf ok bx h1, Option.bind_some]
    have hM : ∀ σ', σ' 134 = σ 134 → fX7_take (nI k) σ' = (if mC (σ 134) k 6 = 1 then (fX7_begins (th σ' 0)).bind fun r10 => (fX7_puts (nI k) 6 0 r10).bind fun r13 => (fX7_insideMany r13).bind fun r16 => some (r16, r13) else (fX7_refuses 3 (th σ' 0)).bind fun r19 => some (r19.1, r19.2)) := by
      intro σ' h4
      have t4 : ((true, th σ' 0) : Bool × Sto).2 134 = σ 134 := by show th σ' 0 134 = _; rw [th_p (by decide), h4]
      unfold fX7_take
      rw [m_isChip (m := σ 134) h4, Option.bind_some, h3, m_gT, Option.bind_some, if_pos rfl, m_isInside (show k < 30 by omega), Option.bind_some, t4]
      simp only [decide_eq_true_eq]
    by_cases h6 : mC (σ 134) k 6 = 1
    · rw [if_neg (fun c => (mCell_no ok h1).1 c h6)]
      obtain ⟨τ, e1, hC, hF⟩ := c_keep h.1 hu
      obtain ⟨π, e2, b2, f2⟩ := c_takeOut ok hC.1 h1 h6
      have ok' := ok_take ok (k := k)
      refine .inr (.inr ⟨nIns (mSet (σ 134) k 6 0), mSet (σ 134) k 6 0, σ, π, fx_refl, ?_, ca_upd hC (fun p hp => f2 p (by omega)) b2, ok', zr_hi hz (hi_mSet (by omega) (by decide)), fun σ' h4 hK h60 => ?_⟩)
      · rw [e1, Option.bind_some, e2, Option.bind_some, c_chipsInBox ok' b2, Option.bind_some]
      · obtain ⟨ρ, r1, r2, r3, r4, r5⟩ := m_beg hu hz h4 hK h60 (fx_th (v := 0)) th_7
        obtain ⟨k1, k2⟩ := ma_su r2 r3 (i := 10 + 7 * k + 6) (v := 0)
        refine ⟨_, ?_, k1, k2⟩
        rw [hM σ' h4, if_pos h6, r1, Option.bind_some, m_puts (show k < 30 by omega) (w := 6) (by decide) (W := 6) rfl, Option.bind_some, m_insideMany ok' k1.1, Option.bind_some]
    · rw [if_pos ((mCell_no ok h1).2 h6)]
      refine .inr (.inl ⟨3, σ, by decide, ?_, fx_refl, fun σ' h4 hK => ⟨th σ' 0, ?_, fx_th, th_7⟩⟩)
      · rw [show (3 : Int32) = nI 3 from rfl, c_refused (by decide) (by decide), Option.bind_some]
      · rw [hM σ' h4, if_neg h6, show (3 : Int32) = nI 3 from rfl, m_refuses (by decide), Option.bind_some]
  · rw [h2, if_neg Bool.false_ne_true]
    refine .inl ⟨3, 0, by decide, by rw [if_neg (by decide)], fun σ' h4 => ?_⟩
    unfold fX7_take
    rw [m_isChip (m := σ 134) h4, Option.bind_some, h2, m_gF, Option.bind_some, if_neg Bool.false_ne_true]
    exact ⟨_, _, rfl, fx_th, by show THR _ _ (th σ' 1 133 7); rw [th_7]; exact thr_1 (by decide)⟩
theorem q_paint (a c : Int32) : CALL (fX6_paint a c) (fX7_paint a c) [3, 1] := by
  refine act_call (fun σ h u e hu => ?_)
  have ok := rel_ok h
  have bx := rel_bx h
  have hz := h.1.2.1
  have hn := came_le ok
  have hB : ∀ σ', σ' 134 = σ 134 → fX7_isIn a 0 (σ 134 5 - 1) = true → fX7_isIn c 1 9 = true → fX7_paint a c σ' = (fX7_isInside a (th σ' 0)).bind fun r7 => if r7 = true then (fX7_begins (th σ' 0)).bind fun r10 => (fX7_puts a 1 c r10).bind fun r13 => (fX7_laysPicture r13).bind fun r16 => (fX7_cellsWith c r16).bind fun r19 => some (r19, r16) else (fX7_refuses 3 (th σ' 0)).bind fun r22 => some (r22.1, r22.2) := by
    intro σ' h4 g1 g2
    unfold fX7_paint
    rw [m_isChip (m := σ 134) h4, Option.bind_some, m_both, g1, g2, Option.bind_some, if_pos rfl]
    rfl
  have hT : ∀ σ', σ' 134 = σ 134 → ¬ (fX7_isIn a 0 (σ 134 5 - 1) = true ∧ fX7_isIn c 1 9 = true) → fX7_paint a c σ' = some (0, th σ' (if fX7_isIn a 0 (σ 134 5 - 1) = true then 2 else 1)) := by
    intro σ' h4 g
    unfold fX7_paint
    rw [m_isChip (m := σ 134) h4, Option.bind_some, m_both, Option.bind_some]
    cases g1 : fX7_isIn a 0 (σ 134 5 - 1) with
    | false => rfl
    | true =>
      cases g2 : fX7_isIn c 1 9 with
      | false => rfl
      | true => exact absurd ⟨g1, g2⟩ g
  unfold fX6_paint
  rw [c_needChip ok bx, Option.bind_some]
  rcases chip_cases ok a with ⟨k, h1, h2, h3⟩ | ⟨h1, h2⟩
  · subst h2
    rw [h3, if_pos rfl, if_pos rfl, isIn_kb, Option.bind_some]
    cases hi : fX7_isIn c 1 9 with
    | false =>
      rw [if_neg Bool.false_ne_true, if_neg (by decide)]
      refine .inl ⟨1, 0, by decide, rfl, fun σ' h4 => ⟨_, _, hT σ' h4 (fun c' => by rw [hi] at c'; exact Bool.noConfusion c'.2), fx_th, ?_⟩⟩
      rw [h3, if_pos rfl, th_7]
      exact thr_2 (by decide)
    | true =>
      rw [if_pos rfl, if_pos rfl, c_cellOf ok bx h1, Option.bind_some]
      by_cases h6 : mC (σ 134) k 6 = 1
      · rw [if_neg (fun c => (mCell_no ok h1).1 c h6)]
        obtain ⟨j, j1, j9, ej⟩ := isIn_1 (hi := 9) (by decide) hi
        subst ej
        obtain ⟨τ, e1, hC, hF⟩ := c_keep h.1 hu
        obtain ⟨π, e2, b2, f2⟩ := c_paint ok hC.1 h1 (v := nI j)
        have ok' := ok_paint ok (k := k) (isIn_iff.1 hi)
        obtain ⟨κ, e3, p1, p2⟩ := c_look (q0 := 7) (b := 25) ok' (.inl (by decide)) b2
        refine .inr (.inr ⟨nCol (mSet (σ 134) k 1 (nI j)) (nI j), mSet (σ 134) k 1 (nI j), σ, κ, fx_refl, ?_, ca_fx (ca_upd hC (fun p hp => f2 p (by omega)) b2) hu.1.2 (fun p hp => p2 p (by unfold F14; unfold KeepR at hp; omega)), ok', zr_hi hz (hi_mSet (by omega) (by decide)), fun σ' h4 hK h60 => ?_⟩)
        · rw [e1, Option.bind_some, e2, Option.bind_some]
          unfold fX6_cellsNow
          rw [e3, Option.bind_some, c_countColour ok' p1 (by omega), Option.bind_some, Option.bind_some]
        · obtain ⟨ρ, r1, r2, r3, r4, r5⟩ := m_beg hu hz h4 hK h60 (fx_th (v := 0)) th_7
          obtain ⟨k1, k2⟩ := ma_su r2 r3 (i := 10 + 7 * k + 1) (v := nI j)
          have k3 : su ρ 134 (10 + 7 * k + 1) (nI j) 134 = mSet (σ 134) k 1 (nI j) := k1.1
          obtain ⟨ω, g1, g2, g3⟩ := @m_laysPicture (su ρ 134 (10 + 7 * k + 1) (nI j)) (by rw [k3]; exact ok')
          rw [k3] at g2
          have g4 : ω 134 = mSet (σ 134) k 1 (nI j) := by rw [g3.1 134 ⟨by decide, by decide, by decide, by decide, by decide⟩, k3]
          refine ⟨ω, ?_, ma_fz k1 (fz_y (fy_5 g3)) g4, by rw [g3.2 7 (by decide) (by decide)]; exact k2⟩
          rw [hB σ' h4 h3 hi, m_isInside (show k < 30 by omega), Option.bind_some, th_p (by decide), h4, if_pos (decide_eq_true h6), r1, Option.bind_some, m_puts (show k < 30 by omega) (w := 1) (by decide) (W := 1) rfl, Option.bind_some, g1, Option.bind_some, m_cellsWith g4 g2, Option.bind_some]
      · rw [if_pos ((mCell_no ok h1).2 h6)]
        refine .inr (.inl ⟨3, σ, by decide, ?_, fx_refl, fun σ' h4 hK => ⟨th σ' 0, ?_, fx_th, th_7⟩⟩)
        · rw [show (3 : Int32) = nI 3 from rfl, c_refused (by decide) (by decide), Option.bind_some]
        · rw [hB σ' h4 h3 hi, m_isInside (show k < 30 by omega), Option.bind_some, th_p (by decide), h4, if_neg (by rw [decide_eq_false h6]; exact Bool.false_ne_true), show (3 : Int32) = nI 3 from rfl, m_refuses (by decide), Option.bind_some]
  · rw [h2, if_neg Bool.false_ne_true]
    refine .inl ⟨3, 0, by decide, by rw [if_neg (by decide)], fun σ' h4 => ⟨_, _, hT σ' h4 (fun c' => by rw [h2] at c'; exact Bool.noConfusion c'.1), fx_th, ?_⟩⟩
    rw [h2, if_neg Bool.false_ne_true, th_7]
    exact thr_1 (by decide)
