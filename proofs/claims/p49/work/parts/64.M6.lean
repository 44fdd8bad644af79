/-! falls: what is told comes -/
section M6
variable {σ τ ρ : Sto} {m : Vc} {ps : List Vc}
theorem tkV_7 (ok : OKm m) : mTkV m 7 = m 7 + nI (mTkN m) := by
  have h := tk_7 ok
  have e : mTkV m 7 = (mP2 m).2 7 := vset_ne (by decide)
  rw [e]
  grind
theorem tkV_4 (ok : OKm m) : mTkV m 4 = m 4 + 1 := by
  have h1 := (p1_facts ok).2.2.2.2.1
  have h2 := (p2_facts ok).2.2.2.2.1
  have e : mTkV m 4 = (mP2 m).2 4 + 1 := by unfold mTkV vset; rw [if_pos rfl]
  rw [e, h2, h1]
theorem rest_0 (f : Nat) : ∀ m, OKm m → 721 ≤ Phi m + f → mTkN (mRest f m).2 = 0 := by
  induction f with
  | zero =>
    intro m ok h
    have := Phi_le ok
    omega
  | succ f ih =>
    intro m ok h
    by_cases h0 : mTkN m = 0
    · rw [rest_stop h0]; exact h0
    · rw [rest_go h0]
      have := phi_tk ok
      exact ih (mTkV m) (tk_ok ok) (by omega)
theorem rest_4 (f : Nat) : ∀ m, OKm m → (mRest f m).2 4 = m 4 + nI (mRest f m).1 := by
  induction f with
  | zero =>
    intro m ok
    show m 4 = m 4 + 0
    rw [add0]
  | succ f ih =>
    intro m ok
    by_cases h0 : mTkN m = 0
    · rw [rest_stop h0]
      show m 4 = m 4 + 0
      rw [add0]
    · rw [rest_go h0]
      dsimp only
      rw [ih (mTkV m) (tk_ok ok), tkV_4 ok, ← nI_add1]
      grind
theorem set_rest (ok : OKm m) : mTkN (mSet' m).2 = 0 := rest_0 721 m ok (by omega)
theorem set_4 (ok : OKm m) : (mSet' m).2 4 = m 4 + nI (mSet' m).1 := rest_4 721 m ok
theorem psh_top : psh m ps = m :: ps.take 7 := rfl
/-- the chip that the law follows, if there is one -/
def FOL (m : Vc) (v : Int32) : Prop := v = -1 ∨ ∃ j, j < mN m ∧ v = nI j ∧ mC m j 6 = 1
theorem f_235 (h : INV m ps σ) (h0 : ¬ mTkN m = 0) {v9 v10 v11 : Int32} (hv : v11 = -1 ∨ ∃ j, j < mN m ∧ v11 = nI j ∧ mC m j 6 = 1 ∧ v9 = mC (mSet' m).2 j 3 ∧ v10 = mC (mSet' m).2 j 4) : ∃ τ, fL_falls_L235 (m 7) (m 4) (sVal m 0 0) (sVal m 0 1) (sVal m 0 2) (sVal m 0 3) (sVal m 0 4) v9 v10 v11 σ = some (true, τ) ∧ INV (mSet' m).2 (psh m ps) τ ∧ AX σ τ := by
  have ok := h.1.1
  have hN := came_le ok
  obtain ⟨okS, hG, hS⟩ := mSet_facts ok
  obtain ⟨τ1, e1, hI1, a1⟩ := k_settle h h0
  obtain ⟨τ2, e2, f2⟩ := k_moves hI1.1
  have hI2 := inv_cx hI1 f2
  obtain ⟨τ3, e3, f3⟩ := k_regions hI2.1 (k := 0) (by omega)
  have hI3 := inv_cx hI2 f3
  obtain ⟨τ4, e4, f4⟩ := k_edges hI3.1
  have hI4 := inv_cx hI3 f4
  obtain ⟨τ5, e5, f5⟩ := k_symmetries hI4.1
  have hI5 := inv_cx hI4 f5
  refine ⟨τ5, ?_, hI5, ax_trans a1 (ax_cx (cx_trans f2 (cx_trans f3 (cx_trans f4 f5))))⟩
  have s0 : sVal m 0 0 = nI (mSet' m).1 := by show nI (mS m 0).1 = _; rw [mS_0 ok]
  have s1 : sVal m 0 1 = (mSet' m).2 7 - m 7 := by show (mS m 0).2 7 - m 7 = _; rw [mS_0 ok]
  have s2 : sVal m 0 2 = nI (nRegs (mSet' m).2 0) := by show nI (nRegs (mS m 0).2 0) = _; rw [mS_0 ok]
  have s3 : sVal m 0 3 = nEd (mSet' m).2 := by show nEd (mS m 0).2 = _; rw [mS_0 ok]
  have s4 : sVal m 0 4 = gSym (mSet' m).2 (2 * gHalf ((mSet' m).2 0)) := by show gSym (mS m 0).2 (2 * gHalf ((mS m 0).2 0)) = _; rw [mS_0 ok]
  unfold fL_falls_L235
  rw [e1, Option.bind_some]
  dsimp only
  rw [if_pos s0.symm, e2, Option.bind_some]
  dsimp only
  rw [if_pos (show nI (mTkN (mSet' m).2) = 0 by rw [set_rest ok]; rfl), k_count_4 hI2.1, Option.bind_some, if_pos rfl]
  dsimp only
  rw [if_pos (by rw [set_4 ok, s0]), k_count_11 hI2.1, Option.bind_some, if_pos rfl]
  dsimp only
  rw [if_pos (by rw [s1]; grind), show fX6_regions 0 τ2 = _ from e3, Option.bind_some, if_pos rfl]
  dsimp only
  rw [if_pos (show nI (nRegs (mSet' m).2 (nI 0)) = sVal m 0 2 by rw [s2]; rfl), e4, Option.bind_some]
  dsimp only
  rw [if_pos s3.symm, e5, Option.bind_some]
  dsimp only
  rw [if_pos s4.symm]
  rcases hv with rfl | ⟨j, hj, rfl, h6, rfl, rfl⟩
  · rw [if_pos (by decide)]
  · have hp := @nI_lt0 j (by omega)
    have hj' : j < mN (mSet' m).2 := by rw [geo_N hG]; exact hj
    have h6' : mC (mSet' m).2 j 6 = 1 := by rw [hS j 6 (by omega)]; exact h6
    have c3 : fX6_chip (nI j) 3 τ5 = some (0, mC (mSet' m).2 j 3) := by
      rw [show fX6_chip (nI j) 3 τ5 = _ from k_chip hI5.1 hj' (v := 3) (by omega)]
      unfold chipV
      rw [if_neg (fun c => c.2 h6')]
    have c4 : fX6_chip (nI j) 4 τ5 = some (0, mC (mSet' m).2 j 4) := by
      rw [show fX6_chip (nI j) 4 τ5 = _ from k_chip hI5.1 hj' (v := 4) (by omega)]
      unfold chipV
      rw [if_neg (fun c => c.2 h6')]
    rw [if_neg (show ¬ nI j < 0 by grind), c3, Option.bind_some, if_pos rfl]
    dsimp only
    rw [if_pos rfl, c4, Option.bind_some, if_pos rfl]
    dsimp only
    rw [if_pos rfl]
theorem f_175 (h0 : ¬ mTkN m = 0) (n : Nat) : ∀ (i fu : Nat) (v : Int32), INV m ps σ → i + n = mN m → n < fu → FOL m v → ∃ τ, fL_falls_L175 fu (m 7) (m 4) (sVal m 0 0) (sVal m 0 1) (sVal m 0 2) (sVal m 0 3) (sVal m 0 4) (-100) (-100) v (nI i) σ = some (true, τ) ∧ INV (mSet' m).2 (psh m ps) τ ∧ AX σ τ := by
  induction n with
  | zero =>
    intro i fu v h hi hf hv
    have ok := h.1.1
    have hN := came_le ok
    obtain ⟨fu, rfl⟩ : ∃ k, fu = k + 1 := ⟨fu - 1, by omega⟩
    obtain rfl : i = mN m := by omega
    rw [fL_falls_L175.eq_2, k_count_5 h.1, Option.bind_some, if_pos rfl]
    dsimp only
    rw [if_pos (by rw [came_eq ok]; exact (dI_le (by omega) (by omega)).2 (Nat.le_refl _))]
    rcases hv with rfl | ⟨j, hj, rfl, h6⟩
    · rw [if_pos (by decide)]
      unfold fL_falls_L221
      rw [if_pos (by decide)]
      exact f_235 h h0 (.inl rfl)
    · have hp := @nI_lt0 j (by omega)
      rw [if_neg (show ¬ nI j < 0 by grind)]
      obtain ⟨τ1, e1, f1⟩ := k_restsAt h.1 hj h6 (w := 0)
      obtain ⟨τ2, e2, f2⟩ := k_restsAt (nw_cx h.1 f1) hj h6 (w := 1)
      have f12 := cx_trans f1 f2
      obtain ⟨τ3, e3, hI3, a3⟩ := f_235 (inv_cx h f12) h0 (v9 := mC (mSet' m).2 j 3) (v10 := mC (mSet' m).2 j 4) (v11 := nI j) (.inr ⟨j, hj, rfl, h6, rfl, rfl⟩)
      refine ⟨τ3, ?_, hI3, ax_trans (ax_cx f12) a3⟩
      rw [e1, Option.bind_some, if_pos rfl]
      dsimp only
      rw [if_pos rfl]
      unfold fL_falls_L221
      rw [if_neg (show ¬ nI j < 0 by grind), e2, Option.bind_some, if_pos rfl]
      dsimp only
      rw [if_neg (show ¬ (1 : Int32) = 0 by decide)]
      exact e3
  | succ n ih =>
    intro i fu v h hi hf hv
    have ok := h.1.1
    have hN := came_le ok
    obtain ⟨fu, rfl⟩ : ∃ k, fu = k + 1 := ⟨fu - 1, by omega⟩
    rw [fL_falls_L175.eq_2, k_count_5 h.1, Option.bind_some, if_pos rfl]
    dsimp only
    rw [if_neg (by rw [came_eq ok, dI_le (by omega) (by omega)]; omega), show fX6_chip (nI i) 3 σ = _ from k_chip h.1 (show i < mN m by omega) (v := 3) (by omega), Option.bind_some, if_pos rfl]
    dsimp only
    unfold fL_falls_L201
    rw [nI_add1]
    by_cases hc : chipV m i 3 = -100
    · rw [if_pos hc]
      exact ih (i + 1) fu v h (by omega) (by omega) hv
    · rw [if_neg hc]
      refine ih (i + 1) fu (nI i) h (by omega) (by omega) (.inr ⟨i, by omega, rfl, ?_⟩)
      exact Classical.byContradiction fun h6 => hc (by unfold chipV; rw [if_pos ⟨.inl rfl, h6⟩])
theorem k_falls (h : INV m ps σ) : ∃ m' ps' τ, fL_falls σ = some (true, τ) ∧ INV m' ps' τ ∧ AX σ τ := by
  have ok := h.1.1
  have hl := tkN_le ok
  obtain ⟨τ1, e1, f1⟩ := k_moves h.1
  have hI1 := inv_cx h f1
  unfold fL_falls
  rw [e1, Option.bind_some]
  dsimp only
  rw [k_count_11 hI1.1, Option.bind_some, if_pos rfl]
  dsimp only
  rw [k_count_4 hI1.1, Option.bind_some, if_pos rfl]
  dsimp only
  by_cases h0 : mTkN m = 0
  · rw [if_pos (show nI (mTkN m) = 0 by rw [h0]; rfl)]
    obtain ⟨τ2, e2, hI2, a2⟩ := k_tickNo hI1 h0
    obtain ⟨τ3, e3, hI3, a3⟩ := k_settleNo hI2 h0
    obtain ⟨τ4, e4, f4⟩ := k_settled hI3.1 (v := 0) (by omega)
    obtain ⟨τ5, e5, f5⟩ := k_settled (inv_cx hI3 f4).1 (v := 1) (by omega)
    refine ⟨m, ps, τ5, ?_, inv_cx (inv_cx hI3 f4) f5, ax_trans (ax_cx f1) (ax_trans a2 (ax_trans a3 (ax_cx (cx_trans f4 f5))))⟩
    have hS : mS m 0 = (0, m) := by rw [mS_0 ok]; exact rest_stop h0
    have s0 : sVal m 0 0 = 0 := by show nI (mS m 0).1 = 0; rw [hS]; rfl
    have s1 : sVal m 0 1 = 0 := by show (mS m 0).2 7 - m 7 = 0; rw [hS]; show m 7 - m 7 = 0; grind
    rw [e2, Option.bind_some]
    dsimp only
    rw [if_pos rfl, e3, Option.bind_some]
    dsimp only
    rw [if_pos rfl, show fX6_settled 0 0 τ3 = _ from e4, Option.bind_some, if_pos rfl]
    dsimp only
    rw [if_pos s0, show fX6_settled 0 1 τ4 = _ from e5, Option.bind_some, if_pos rfl]
    dsimp only
    rw [if_pos s1]
  · rw [if_neg (show ¬ nI (mTkN m) = 0 from fun c => h0 ((nI_inj (b := 0) (by omega) (by omega)).1 c))]
    obtain ⟨τ2, e2, hI2, a2⟩ := k_tick hI1 h0
    rw [psh_top] at hI2
    obtain ⟨τ3, e3, hI3, a3⟩ := k_undo hI2
    obtain ⟨τ4, e4, f4⟩ := k_moves hI3.1
    have hI4 := inv_cx hI3 f4
    obtain ⟨τ5, e5, f5⟩ := k_settled hI4.1 (v := 0) (by omega)
    have hI5 := inv_cx hI4 f5
    obtain ⟨τ6, e6, f6⟩ := k_settled hI5.1 (v := 1) (by omega)
    have hI6 := inv_cx hI5 f6
    obtain ⟨τ7, e7, f7⟩ := k_settled hI6.1 (v := 2) (by omega)
    have hI7 := inv_cx hI6 f7
    obtain ⟨τ8, e8, f8⟩ := k_settled hI7.1 (v := 3) (by omega)
    have hI8 := inv_cx hI7 f8
    obtain ⟨τ9, e9, f9⟩ := k_settled hI8.1 (v := 4) (by omega)
    have hI9 := inv_cx hI8 f9
    have hN := came_le ok
    obtain ⟨ω, e10, hI10, a10⟩ := f_175 h0 (mN m) 0 kFU (-1) hI9 (by omega) (by unfold kFU; omega) (.inl rfl)
    refine ⟨_, _, ω, ?_, hI10, ax_trans (ax_cx f1) (ax_trans a2 (ax_trans a3 (ax_trans (ax_cx (cx_trans f4 (cx_trans f5 (cx_trans f6 (cx_trans f7 (cx_trans f8 f9)))))) a10)))⟩
    have hlen : (ps.take 7).length ≤ 7 := by rw [List.length_take]; omega
    have hp := @nI_lt0 (ps.take 7).length (by omega)
    rw [e2, Option.bind_some]
    dsimp only
    rw [if_pos rfl, k_count_11 hI2.1, Option.bind_some, if_pos rfl]
    dsimp only
    rw [if_pos (tkV_7 ok), k_count_4 hI2.1, Option.bind_some, if_pos rfl]
    dsimp only
    rw [if_pos (tkV_4 ok), e3, Option.bind_some]
    dsimp only
    rw [if_neg (show ¬ nI (ps.take 7).length < 0 by grind), e4, Option.bind_some]
    dsimp only
    rw [if_pos rfl, k_count_4 hI4.1, Option.bind_some, if_pos rfl]
    dsimp only
    rw [if_pos rfl, show fX6_settled 0 0 τ4 = _ from e5, Option.bind_some, if_pos rfl]
    dsimp only
    rw [show fX6_settled 0 1 τ5 = _ from e6, Option.bind_some, if_pos rfl]
    dsimp only
    rw [show fX6_settled 0 2 τ6 = _ from e7, Option.bind_some, if_pos rfl]
    dsimp only
    rw [show fX6_settled 0 3 τ7 = _ from e8, Option.bind_some, if_pos rfl]
    dsimp only
    rw [show fX6_settled 0 4 τ8 = _ from e9, Option.bind_some, if_pos rfl]
    exact e10
end M6
