noncomputable def sVal (m : Vc) (s : Nat) : Nat → Int32
  | 0 => nI (mS m s).1
  | 1 => (mS m s).2 7 - m 7
  | 2 => nI (nRegs (mS m s).2 0)
  | 3 => nEd (mS m s).2
  | 4 => gSym (mS m s).2 (2 * gHalf ((mS m s).2 0))
  | _ => nDep (mS m s).2
section STL
variable {σ : Sto}
/-- the trial of the class after a turn has come to rest -/
theorem c_trial (h : REL σ) : ∃ τ, fX5_copyFrom 34 25 σ = some τ ∧ BX τ 34 (σ 134) ∧ FX σ τ := by
  obtain ⟨τ, e, a, b⟩ := c_copy (b0 := 34) (b1 := 25) (by omega) (rel_ok h) (rel_bx h)
  exact ⟨τ, e, a, fx_34 (fun p hp => b p (by omega))⟩
theorem c_trialTurn {m : Vc} {τ : Sto} (ok : OKm m) (hB : BX τ 34 m) {s : Nat} (hs : s < 8) : ∃ ρ, fX6_settleTrial (fX5_turnBy 34 (nI s) τ) = some (nI (mS m s).1, ρ) ∧ BX ρ 34 (mS m s).2 ∧ FX τ ρ := by
  obtain ⟨e1, b1⟩ := c_turnBy ok hB hs
  obtain ⟨ρ, e2, b2, f2⟩ := c_settle (ok_turn ok s) b1
  rw [e1]
  exact ⟨ρ, e2, b2, fx_trans (fx_c (fun p hp => su_k (by unfold KeepR at hp; omega))) (fx_fq f2)⟩
theorem c_look34 {m : Vc} {τ : Sto} (ok : OKm m) (hB : BX τ 34 m) : ∃ ρ, fX3_look 7 34 τ = some ρ ∧ PX 7 m ρ ∧ BX ρ 34 m ∧ FX τ ρ := by
  obtain ⟨ρ, e, a, b⟩ := c_look (q0 := 7) (b := 34) ok (.inl (by decide)) hB
  exact ⟨ρ, e, a, bx_frame hB (fun p h1 h2 => b p (by unfold F14; omega)), fx_14 (.inl rfl) b⟩
/-- the Model: a turn, rest, and the picture -/
theorem m_turnRest {m : Vc} (ok : OKm m) (hm : σ 134 = m) (hK : MK σ) {s : Nat} (hs : s < 8) : ∃ τ, (fX7_settlesAll (su σ 134 (Int32.toNatClampNeg 2) (krem ((σ 134 (Int32.toNatClampNeg 2)) + nI s) (nI (gDirs (m 0)))))) = some (nI (mS m s).1, τ) ∧ τ 134 = (mS m s).2 ∧ FY σ τ ∧ MK τ := by
  have hd := @dirs_le (m 0)
  have hD := ok.2.2.1.2
  rw [z2, hm, ok.2.2.1.1, nI_addn, krem_d (by omega)]
  obtain ⟨τ, e, a, b, c⟩ := @m_settle (su σ 134 2 (nI ((mD m + s) % gDirs (m 0)))) (mTurn m s) (ok_turn ok s) (by rw [su_v, hm]; rfl) (mk_of hK (su_k (by decide)) (su_k (by decide)))
  have hfy : FY σ τ := fy_trans (fy_134 (fun p hp => su_k hp)) (fy_8 c)
  exact ⟨τ, e, a, hfy, b⟩
theorem m_settledNow {m : Vc} (ok : OKm m) (hm : σ 134 = m) (hK : MK σ) {s w : Nat} (hs : s < 8) (hw : w < 6) : ∃ τ, fX7_settledNow (nI s) (nI w) σ = some (sVal m s w, τ) ∧ τ 134 = (mS m s).2 ∧ FY σ τ ∧ MK τ ∧ LPic (mS m s).2 τ := by
  obtain ⟨τ, e, a, b, c⟩ := m_turnRest ok hm hK hs
  have okS := (mS_facts ok s).1
  unfold fX7_settledNow
  rw [if_pos (show kin 2 220 = true by decide), m_dirs, Option.bind_some, hm, if_neg (show ¬ nI (gDirs (m 0)) = 0 by unfold gDirs; split <;> decide), if_pos (show kin 2 220 = true by decide), klet_eq, if_pos (show kin 7 220 = true by decide)]
  rw [hm] at e
  rw [e, Option.bind_some]
  obtain ⟨ρ, e2, h1, h2⟩ := @m_laysPicture τ (by rw [a]; exact okS)
  rw [a] at h1
  have g : ρ 134 = (mS m s).2 := by rw [h2.1 134 ⟨by decide, by decide, by decide, by decide, by decide⟩, a]
  have fy : FY σ ρ := fy_trans b (fy_5 h2)
  have hKr := fy_mk fy hK
  rw [e2, Option.bind_some]
  match w, hw with
  | 0, _ => rw [if_pos (show nI 0 = 0 by decide)]; exact ⟨ρ, rfl, g, fy, hKr, h1⟩
  | 1, _ =>
    rw [if_neg (show ¬ nI 1 = 0 by decide), if_pos (show nI 1 = 1 by decide), if_pos (show kin 7 220 = true by decide), z7, z2, g, su_i (show 7 ≠ 2 by decide), hm]
    exact ⟨ρ, rfl, g, fy, hKr, h1⟩
  | 2, _ =>
    rw [if_neg (show ¬ nI 2 = 0 by decide), if_neg (show ¬ nI 2 = 1 by decide), if_pos (show nI 2 = 2 by decide)]
    obtain ⟨π, e3, f3⟩ := @m_regionsOf ρ (mS m s).2 okS 0 (lp_pm h1 g hKr)
    rw [e3, Option.bind_some]
    have fy2 := fy_trans fy (fy_51 f3)
    refine ⟨π, rfl, by rw [f3 134 ⟨by decide, by decide⟩, g], fy2, fy_mk fy2 hK, ⟨fun k hk => ?_, fun k hk => by rw [f3 145 ⟨by decide, by decide⟩]; exact h1.2 k hk⟩⟩
    have := h1.1 k hk
    unfold StK at *
    rw [f3 143 ⟨by decide, by decide⟩, f3 144 ⟨by decide, by decide⟩]
    exact this
  | 3, _ =>
    rw [if_neg (show ¬ nI 3 = 0 by decide), if_neg (show ¬ nI 3 = 1 by decide), if_neg (show ¬ nI 3 = 2 by decide), if_pos (show nI 3 = 3 by decide), m_edges okS hKr g h1, Option.bind_some]
    exact ⟨ρ, rfl, g, fy, hKr, h1⟩
  | 4, _ =>
    rw [if_neg (show ¬ nI 4 = 0 by decide), if_neg (show ¬ nI 4 = 1 by decide), if_neg (show ¬ nI 4 = 2 by decide), if_neg (show ¬ nI 4 = 3 by decide), if_pos (show nI 4 = 4 by decide)]
    obtain ⟨π, e3, f3⟩ := m_symNow okS g h1
    rw [e3, Option.bind_some]
    have fy2 := fy_trans fy (fy_ms f3)
    exact ⟨π, rfl, by rw [f3.1 134 (by decide), g], fy2, fy_mk fy2 hK, lp_ms h1 f3⟩
  | 5, _ =>
    rw [if_neg (show ¬ nI 5 = 0 by decide), if_neg (show ¬ nI 5 = 1 by decide), if_neg (show ¬ nI 5 = 2 by decide), if_neg (show ¬ nI 5 = 3 by decide), if_neg (show ¬ nI 5 = 4 by decide), m_depthSum okS g hKr, Option.bind_some]
    exact ⟨ρ, rfl, g, fy, hKr, h1⟩
end STL
theorem q_moves : CALL (fun σ => liS (fX6_moves σ)) fX7_moves [] := by
  refine plain_call (fun σ1 => (fX7_movesNow σ1).bind fun r2 => some (r2.1, r2.2)) (fun σ => by unfold fX7_moves th; rw [klet_eq]) (fun σ h => ?_)
  have ok := rel_ok h
  obtain ⟨τ, e1, a1, f1⟩ := c_trial h
  obtain ⟨ρ, e2, a2, f2⟩ := c_tick ok (q0 := 21) (.inl (by decide)) a1
  refine ⟨nI (mTkN (σ 134)), ρ, ?_, fx_trans f1 (fx_fq f2), fun σ' h' hK h3 => ?_⟩
  · unfold fX6_moves fX6_movesOfNextTick liS
    rw [e1, Option.bind_some, e2, Option.bind_some, Option.bind_some, Option.bind_some]
  · have e : th σ' 0 134 = σ 134 := by rw [th_p (by decide), hK 134 (by unfold KeepR; omega) (by decide)]
    obtain ⟨π, e3, g1, g2⟩ := m_movesNow ok e (mk_of (rel_mk h') (th_p (by decide)) (th_p (by decide)))
    rw [e3, Option.bind_some]
    exact ⟨π, rfl, f7_z (fz_y (fy_8 g2)) (by rw [g1, e])⟩
def tailC (a2 t : Int32) (r16 : Sto) : Option KP :=
  if a2 = 0 then
    some (0, t, r16)
  else
    if a2 = 1 then
      some (0, ((r16 34 5) - (r16 25 5)), r16)
    else
      if a2 = 2 then
        (fX3_countRegions 7 35 0 r16).bind fun r22 =>
        some (0, r22.1, r22.2)
      else
        if a2 = 3 then
          (fX3_countEdges 7 35 r16).bind fun r26 =>
          some (0, r26, r16)
        else
          if a2 = 4 then
            (fX6_mapsOf 7 35 r16).bind fun r30 =>
            some (0, r30, r16)
          else
            (fX5_sumOfDepths 34 r16).bind fun r33 =>
            some (0, r33, r16)
theorem c_tail {m0 : Vc} {k : Nat} {π : Sto} (ok : OKm (mS m0 k).2) (hp : PX 7 (mS m0 k).2 π) (hb : BX π 34 (mS m0 k).2) (h7 : π 25 5 = m0 7) (v : Nat) (hv : v ≤ 5) : ∃ σ1, tailC (nI v) (nI (mS m0 k).1) π = some (0, sVal m0 k v, σ1) ∧ FX π σ1 := by
  have hl34 : LX π 35 ((mS m0 k).2 0) ((mS m0 k).2 1) := hb.1
  unfold tailC
  match v, hv with
  | 0, _ => rw [if_pos (show nI 0 = 0 by decide)]; exact ⟨π, rfl, fx_refl⟩
  | 1, _ =>
    rw [if_neg (show ¬ nI 1 = 0 by decide), if_pos (show nI 1 = 1 by decide), bx5 hb, h7]
    exact ⟨π, rfl, fx_refl⟩
  | 2, _ =>
    obtain ⟨κ, e4, f4⟩ := c_countRegions (q := 7) (q1 := 35) (col := 0) ok (by decide) ⟨by decide, by decide, by decide, by decide⟩ hl34 (px_pxc hp)
    rw [if_neg (show ¬ nI 2 = 0 by decide), if_neg (show ¬ nI 2 = 1 by decide), if_pos (show nI 2 = 2 by decide), e4, Option.bind_some]
    exact ⟨κ, rfl, fx_56 f4⟩
  | 3, _ =>
    rw [if_neg (show ¬ nI 3 = 0 by decide), if_neg (show ¬ nI 3 = 1 by decide), if_neg (show ¬ nI 3 = 2 by decide), if_pos (show nI 3 = 3 by decide), c_edges ok hl34 hp, Option.bind_some]
    exact ⟨π, rfl, fx_refl⟩
  | 4, _ =>
    rw [if_neg (show ¬ nI 4 = 0 by decide), if_neg (show ¬ nI 4 = 1 by decide), if_neg (show ¬ nI 4 = 2 by decide), if_neg (show ¬ nI 4 = 3 by decide), if_pos (show nI 4 = 4 by decide), c_mapsOf ok hl34 hp, Option.bind_some]
    exact ⟨π, rfl, fx_refl⟩
  | 5, _ =>
    rw [if_neg (show ¬ nI 5 = 0 by decide), if_neg (show ¬ nI 5 = 1 by decide), if_neg (show ¬ nI 5 = 2 by decide), if_neg (show ¬ nI 5 = 3 by decide), if_neg (show ¬ nI 5 = 4 by decide), c_sumDep ok hb, Option.bind_some]
    exact ⟨π, rfl, fx_refl⟩
theorem c_settled_eq (s w : Int32) (σ : Sto) : fX6_settled s w σ = (fX6_needRange s 0 7 σ).bind fun r1 => if r1 = 0 then (fX6_needRange w 0 5 σ).bind fun r4 => if r4 = 0 then (fX5_copyFrom 34 25 σ).bind fun r7 => (fX6_settleTrial (fX5_turnBy 34 s r7)).bind fun r13 => (fX3_look 7 34 r13.2).bind fun r16 => tailC w r13.1 r16 else some (r4, 0, σ) else some (r1, 0, σ) := rfl
theorem q_settled (s w : Int32) : CALL (fX6_settled s w) (fX7_settled s w) [1] := by
  refine call_q (fun σ h => ?_)
  have ok := rel_ok h
  have hbad : ∀ σ', ¬ (fX7_isIn s 0 7 = true ∧ fX7_isIn w 0 5 = true) → ∃ w', fX7_settled s w σ' = some (w', th σ' 1) := by
    intro σ' hno
    unfold fX7_settled
    cases h1 : fX7_isIn s 0 7 with
    | false => rw [if_neg Bool.false_ne_true, m_goes0, Option.bind_some, if_neg Bool.false_ne_true]; exact ⟨_, rfl⟩
    | true =>
      cases h2 : fX7_isIn w 0 5 with
      | false => rw [if_pos rfl, if_neg Bool.false_ne_true, m_goes0, Option.bind_some, if_neg Bool.false_ne_true]; exact ⟨_, rfl⟩
      | true => exact absurd ⟨h1, h2⟩ hno
  rw [c_settled_eq, isIn_kb, Option.bind_some]
  cases h1 : fX7_isIn s 0 7 with
  | false =>
    refine ⟨1, 0, σ, by simp, fx_refl, fun σ' h' hK h3 => ?_⟩
    obtain ⟨w', e⟩ := hbad σ' (fun c => by rw [h1] at c; cases c.1)
    exact ⟨w', _, e, fx_th, by rw [th_7]; exact thr_1 (by decide), fun c => absurd c (by decide)⟩
  | true =>
    rw [if_pos rfl, if_pos rfl, isIn_kb, Option.bind_some]
    cases h2 : fX7_isIn w 0 5 with
    | false =>
      refine ⟨1, 0, σ, by simp, fx_refl, fun σ' h' hK h3 => ?_⟩
      obtain ⟨w', e⟩ := hbad σ' (fun c => by rw [h2] at c; cases c.2)
      exact ⟨w', _, e, fx_th, by rw [th_7]; exact thr_1 (by decide), fun c => absurd c (by decide)⟩
    | true =>
      obtain ⟨k, hk, ek⟩ := isIn_lo (hi := 7) (by decide) h1
      obtain ⟨v, hv, ev⟩ := isIn_lo (hi := 5) (by decide) h2
      subst ek ev
      obtain ⟨τ, e1, a1, f1⟩ := c_trial h
      obtain ⟨ρ, e2, a2, f2⟩ := c_trialTurn ok a1 (s := k) (by omega)
      have okS := (mS_facts ok k)
      obtain ⟨π, e3, a3, a4, f3⟩ := c_look34 okS.1 a2
      have fπ := fx_trans f1 (fx_trans f2 f3)
      obtain ⟨σ1, e4, f4⟩ := c_tail okS.1 a3 a4 (by rw [fπ.1 25 (by unfold KeepR; omega)]; exact bx5 (rel_bx h)) v hv
      rw [if_pos rfl, if_pos rfl, e1, Option.bind_some, e2, Option.bind_some, e3, Option.bind_some, e4]
      have hM : ∀ σ', REL σ' → (∀ p, KeepR p → p ≠ 154 → σ' p = σ p) → ∃ σ2, fX7_settled (nI k) (nI v) σ' = some (sVal (σ 134) k v, σ2) ∧ F7 (th σ' 0) σ2 := by
        intro σ' h' hK
        have e : th σ' 0 134 = σ 134 := by rw [th_p (by decide), hK 134 (by unfold KeepR; omega) (by decide)]
        unfold fX7_settled
        rw [h1, h2, if_pos rfl, if_pos rfl, m_goes1, Option.bind_some, if_pos rfl]
        obtain ⟨x1, q1, q2, q3, q4⟩ := m_aside e
        obtain ⟨x2, r1, r2, r3, r4, r5⟩ := m_settledNow (σ := x1) (m := σ 134) ok (by rw [q3 134 (by decide), e]) (mk_of (rel_mk h') (by rw [q3 140 (by decide), th_p (by decide)]) (by rw [q3 141 (by decide), th_p (by decide)])) (s := k) (w := v) (by omega) (by omega)
        obtain ⟨x3, s1, s2, s3⟩ := m_restore (fy_as r3 q2) h.1.2.1 (by rw [r2]; exact zr_hi h.1.2.1 okS.2.1)
        rw [q1, Option.bind_some, r1, Option.bind_some, s1, Option.bind_some]
        exact ⟨x3, rfl, f7_z (fz_trans q4 (fz_trans (fz_y r3) (fz_y (fy_134 s3)))) (by rw [s2, e])⟩
      refine ⟨0, sVal (σ 134) k v, σ1, rfl, fx_trans fπ f4, fun σ' h' hK h3 => ?_⟩
      obtain ⟨σ2, r1, r2⟩ := hM σ' h' hK
      have g := f7_th r2
      exact ⟨_, σ2, r1, g.1, by rw [g.2]; exact thr_0, fun _ => rfl⟩
theorem q_restsAt (a w : Int32) : CALL (fX6_restsAt a w) (fX7_restsAt a w) [3, 2] := by
  refine call_q (fun σ h => ?_)
  have ok := rel_ok h
  have bx := rel_bx h
  have hn := came_le ok
  unfold fX6_restsAt
  rw [c_needChip ok bx, Option.bind_some]
  rcases chip_cases ok a with ⟨k, hk, ea, hc⟩ | ⟨_, hc⟩
  · subst ea
    rw [hc, if_pos rfl, if_pos rfl, c_cellOf ok bx hk, Option.bind_some]
    by_cases h6 : mC (σ 134) k 6 = 1
    · rw [if_neg (fun c => (mCell_no ok hk).1 c h6)]
      obtain ⟨τ, e1, a1, f1⟩ := c_trial h
      obtain ⟨ρ, e2, a2, f2⟩ := c_settle ok a1
      have fS := rest_facts 721 (σ 134) ok
      have okS : OKm (mSet' (σ 134)).2 := fS.1
      have hkS : k < mN (mSet' (σ 134)).2 := by
        have := geo_N fS.2.2.1
        show k < mN (mRest 721 (σ 134)).2
        rw [this]; exact hk
      have h6S : mC (mSet' (σ 134)).2 k 6 = 1 := by
        have := fS.2.2.2 k 6 (by omega)
        show mC (mRest 721 (σ 134)).2 k 6 = 1
        rw [this]; exact h6
      refine ⟨0, if w = 0 then mC (mSet' (σ 134)).2 k 3 else mC (mSet' (σ 134)).2 k 4, ρ, ?_, fx_trans f1 (fx_fq f2), fun σ' h' hK h3 => ?_⟩
      · rw [e1, Option.bind_some, e2, Option.bind_some, c_cellOf okS a2 hkS, Option.bind_some, mCell_in h6S, told_cell (ok_in okS hkS h6S)]
      · have e : σ' 134 = σ 134 := hK 134 (by unfold KeepR; omega) (by decide)
        have et : th σ' 0 134 = σ 134 := by rw [th_p (by decide), e]
        unfold fX7_restsAt
        rw [m_isChip e, Option.bind_some, Option.bind_some, hc, if_pos rfl, m_isInside (show k < 30 by omega), Option.bind_some, e, decide_eq_true h6, if_pos rfl]
        have hb : fX7_goesBoth (kb true) 1 σ' = (true, th σ' 0) := m_both true true
        rw [hb, Option.bind_some, if_pos rfl]
        obtain ⟨x1, q1, q2, q3, q4⟩ := m_aside et
        obtain ⟨x2, r1, r2, r3, r4⟩ := @m_settle x1 (σ 134) ok (by rw [q3 134 (by decide), et]) (mk_of (rel_mk h') (by rw [q3 140 (by decide), th_p (by decide)]) (by rw [q3 141 (by decide), th_p (by decide)]))
        have hz2 : Zr (x2 134) := by rw [r2]; exact zr_hi h.1.2.1 fS.2.1
        obtain ⟨x3, s1, s2, s3⟩ := m_restore (fy_as (fy_8 r4) q2) h.1.2.1 hz2
        have hF : F7 (th σ' 0) x3 := f7_z (fz_trans q4 (fz_trans (fz_y (fy_8 r4)) (fz_y (fy_134 s3)))) (by rw [s2, et])
        have g := f7_th hF
        rw [q1, Option.bind_some, r1, Option.bind_some]
        simp only [m_c (show k < 30 by omega) (w := 3) (by decide) (W := 3) rfl, m_c (show k < 30 by omega) (w := 4) (by decide) (W := 4) rfl, Option.bind_some, s1, r2]
        split
        · exact ⟨_, _, rfl, g.1, by rw [g.2]; exact thr_0, fun _ => rfl⟩
        · exact ⟨_, _, rfl, g.1, by rw [g.2]; exact thr_0, fun _ => rfl⟩
    · rw [if_pos ((mCell_no ok hk).2 h6)]
      refine ⟨2, 0, σ, rfl, fx_refl, fun σ' h' hK h3 => ?_⟩
      have e : σ' 134 = σ 134 := hK 134 (by unfold KeepR; omega) (by decide)
      unfold fX7_restsAt
      rw [m_isChip e, Option.bind_some, Option.bind_some, hc, if_pos rfl, m_isInside (show k < 30 by omega), Option.bind_some, e, decide_eq_false h6, if_neg Bool.false_ne_true]
      have hb : fX7_goesBoth (kb true) 0 σ' = (false, th σ' 2) := m_both true false
      rw [hb, Option.bind_some, if_neg Bool.false_ne_true]
      exact ⟨_, _, rfl, fx_th, by show THR _ _ (th σ' 2 133 7); rw [th_7]; exact thr_2 (by decide), fun c => absurd c (by decide)⟩
  · rw [hc, if_neg Bool.false_ne_true]
    refine ⟨3, 0, σ, by simp, fx_refl, fun σ' h' hK h3 => ?_⟩
    have e : σ' 134 = σ 134 := hK 134 (by unfold KeepR; omega) (by decide)
    unfold fX7_restsAt
    rw [m_isChip e, Option.bind_some, Option.bind_some, hc, if_neg Bool.false_ne_true]
    have hb : fX7_goesBoth (kb false) 0 σ' = (false, th σ' 1) := m_both false false
    rw [hb, Option.bind_some, if_neg Bool.false_ne_true]
    exact ⟨_, _, rfl, fx_th, by show THR _ _ (th σ' 1 133 7); rw [th_7]; exact thr_1 (by decide), fun c => absurd c (by decide)⟩
noncomputable def btF (m : Vc) (a : Int32) (s : Nat) (p : Int32 × Int32) : Int32 × Int32 := if nCol (mS m s).2 a ≤ p.2 then p else (nI s, nCol (mS m s).2 a)
theorem q_bestTurn (a : Int32) : CALL (fX6_bestTurn a) (fX7_bestTurn a) [1] := by
  refine range_call (lo := 1) (hi := 9) (fun σ => fX6_bestTurn_L14 a kFU 0 (-1) 0 σ) (fun σ => (fX7_copies 134 220 0 135 220 0 σ).bind fun r4 => fX7_bestTurn_L36 a kFU 0 (-1) 0 r4) (fun σ => rfl) (fun σ => rfl) (fun σ h hn => ?_)
  have ok := rel_ok h
  have hd := @dirs_le (σ 134 0)
  obtain ⟨j, hj1, hj, ea⟩ := isIn_1 (hi := 9) (by decide) hn
  subst ea
  have hC : ∀ n s fu τ, s + n = gDirs (σ 134 0) → n < fu → FX σ τ → ∃ ρ, fX6_bestTurn_L14 (nI j) fu (fld (btF (σ 134) (nI j)) (0, -1) s).1 (fld (btF (σ 134) (nI j)) (0, -1) s).2 (nI s) τ = some (0, (fld (btF (σ 134) (nI j)) (0, -1) (gDirs (σ 134 0))).1, ρ) ∧ FX σ ρ := by
    intro n
    induction n with
    | zero =>
      intro s fu τ hs hf hτ
      match fu, hf with
      | fu + 1, _ =>
        have : s = gDirs (σ 134 0) := by omega
        subst this
        have bx := bx_frame (rel_bx h) (fun p h1 h2 => hτ.1 p (by unfold KeepR; omega))
        rw [fX6_bestTurn_L14.eq_2, c_dirs bx.1, if_pos (by grind)]
        exact ⟨τ, rfl, hτ⟩
    | succ n ih =>
      intro s fu τ hs hf hτ
      match fu, hf with
      | fu + 1, hf =>
        have hR := rel_fx' h hτ
        have e134 : τ 134 = σ 134 := hτ.1 134 (by unfold KeepR; omega)
        have bx := bx_frame (rel_bx h) (fun p h1 h2 => hτ.1 p (by unfold KeepR; omega))
        obtain ⟨τ1, e1, a1, f1⟩ := c_trial hR
        rw [e134] at a1
        obtain ⟨τ2, e2, a2, f2⟩ := c_trialTurn ok a1 (s := s) (by omega)
        have okS := mS_facts ok s
        obtain ⟨τ3, e3, a3, a4, f3⟩ := c_look34 okS.1 a2
        rw [fX6_bestTurn_L14.eq_2, c_dirs bx.1, if_neg (by rw [dI_le (by omega) (by omega)]; omega), e1, Option.bind_some, Option.bind_some, e2, Option.bind_some, e3, Option.bind_some, c_countColour okS.1 a3 (by omega), Option.bind_some]
        simp only [fX6_bestTurn_L87, nI_add1]
        have hfx := fx_trans hτ (fx_trans f1 (fx_trans f2 f3))
        obtain ⟨ρ, e4, f4⟩ := ih (s + 1) fu τ3 (by omega) (by omega) hfx
        have e5 : fld (btF (σ 134) (nI j)) (0, -1) (s + 1) = if nCol (mS (σ 134) s).2 (nI j) ≤ (fld (btF (σ 134) (nI j)) (0, -1) s).2 then fld (btF (σ 134) (nI j)) (0, -1) s else (nI s, nCol (mS (σ 134) s).2 (nI j)) := rfl
        rw [e5] at e4
        refine ⟨ρ, ?_, f4⟩
        by_cases hle : nCol (mS (σ 134) s).2 (nI j) ≤ (fld (btF (σ 134) (nI j)) (0, -1) s).2
        · rw [if_pos hle] at e4 ⊢
          exact e4
        · rw [if_neg hle] at e4 ⊢
          exact e4
  obtain ⟨ρ, eC, fC⟩ := hC (gDirs (σ 134 0)) 0 kFU σ (by omega) (by unfold kFU; omega) fx_refl
  refine ⟨_, ρ, eC, fC, fun σ' h' hK h3 => ?_⟩
  have e : th σ' 0 134 = σ 134 := by rw [th_p (by decide), hK 134 (by unfold KeepR; omega) (by decide)]
  obtain ⟨x1, q1, q2, q3, q4⟩ := m_aside e
  rw [q1, Option.bind_some]
  have hMl : ∀ n s fu τ, s + n = gDirs (σ 134 0) → n < fu → FY x1 τ → τ 134 = σ 134 → ∃ ρ, fX7_bestTurn_L36 (nI j) fu (fld (btF (σ 134) (nI j)) (0, -1) s).1 (fld (btF (σ 134) (nI j)) (0, -1) s).2 (nI s) τ = some ((fld (btF (σ 134) (nI j)) (0, -1) (gDirs (σ 134 0))).1, ρ) ∧ FY x1 ρ ∧ ρ 134 = σ 134 := by
    intro n
    induction n with
    | zero =>
      intro s fu τ hs hf hτ h134
      match fu, hf with
      | fu + 1, _ =>
        have : s = gDirs (σ 134 0) := by omega
        subst this
        rw [fX7_bestTurn_L36.eq_2, m_dirs, Option.bind_some, h134, if_pos (by grind)]
        exact ⟨τ, rfl, hτ, h134⟩
    | succ n ih =>
      intro s fu τ hs hf hτ h134
      match fu, hf with
      | fu + 1, hf =>
        have hKx : MK x1 := mk_of (rel_mk h') (by rw [q3 140 (by decide), th_p (by decide)]) (by rw [q3 141 (by decide), th_p (by decide)])
        obtain ⟨τ1, r1, r2, r3, r4, r5⟩ := m_settledNow (σ := τ) (m := σ 134) ok h134 (fy_mk hτ hKx) (s := s) (w := 0) (by omega) (by omega)
        have okS := mS_facts ok s
        have r1' : fX7_settledNow (nI s) 0 τ = some (nI (mS (σ 134) s).1, τ1) := r1
        obtain ⟨τ2, s1, s2, s3⟩ := m_restore (fy_as (fy_trans hτ r3) q2) h.1.2.1 (by rw [r2]; exact zr_hi h.1.2.1 okS.2.1)
        rw [fX7_bestTurn_L36.eq_2, m_dirs, Option.bind_some, h134, if_neg (by rw [dI_le (by omega) (by omega)]; omega), r1', Option.bind_some, m_cellsWith r2 r5, Option.bind_some]
        simp only [fX7_bestTurn_L73, nI_add1, s1, Option.bind_some]
        obtain ⟨ρ', e4, f4, f5⟩ := ih (s + 1) fu τ2 (by omega) (by omega) (fy_trans hτ (fy_trans r3 (fy_134 s3))) s2
        have e5 : fld (btF (σ 134) (nI j)) (0, -1) (s + 1) = if nCol (mS (σ 134) s).2 (nI j) ≤ (fld (btF (σ 134) (nI j)) (0, -1) s).2 then fld (btF (σ 134) (nI j)) (0, -1) s else (nI s, nCol (mS (σ 134) s).2 (nI j)) := rfl
        rw [e5] at e4
        refine ⟨ρ', ?_, f4, f5⟩
        by_cases hle : nCol (mS (σ 134) s).2 (nI j) ≤ (fld (btF (σ 134) (nI j)) (0, -1) s).2
        · rw [if_pos hle] at e4 ⊢
          have : (if nCol (mS (σ 134) s).2 (nI j) < (fld (btF (σ 134) (nI j)) (0, -1) s).2 then (fld (btF (σ 134) (nI j)) (0, -1) s).2 else nCol (mS (σ 134) s).2 (nI j)) = (fld (btF (σ 134) (nI j)) (0, -1) s).2 := by
            split
            · rfl
            · grind
          rw [this]
          exact e4
        · rw [if_neg hle] at e4 ⊢
          rw [if_neg (show ¬ nCol (mS (σ 134) s).2 (nI j) < (fld (btF (σ 134) (nI j)) (0, -1) s).2 by grind)]
          exact e4
  obtain ⟨x2, r1, r2, r3⟩ := hMl (gDirs (σ 134 0)) 0 kFU x1 (by omega) (by unfold kFU; omega) fy_refl (by rw [q3 134 (by decide), e])
  refine ⟨x2, r1, f7_z (fz_trans q4 (fz_y r2)) (by rw [r3, e])⟩
noncomputable def perL (m0 : Vc) (s : Nat) : Nat → Nat → Vc → Int32
  | 0, _, _ => -1
  | c + 1, n, m => if dB (LIES (mS m s).2 m0) = true then nI n else perL m0 s c (n + 1) (mS m s).2
theorem q_period (a : Int32) : CALL (fX6_period a) (fX7_period a) [1] := by
  refine range_call (lo := 1) (hi := 7) (fun σ => (fX5_copyFrom 34 25 σ).bind fun r4 => fX6_period_L20 a kFU 1 r4) (fun σ => (fX7_copies 134 220 0 135 220 0 σ).bind fun r4 => fX7_period_L33 a kFU (-1) 1 r4) (fun σ => rfl) (fun σ => rfl) (fun σ h hn => ?_)
  have ok := rel_ok h
  obtain ⟨s, hs1, hs, ea⟩ := isIn_1 (hi := 7) (by decide) hn
  subst ea
  obtain ⟨τ0, e0, a0, f0⟩ := c_trial h
  have hC : ∀ c n fu m τ, n + c = 49 → c < fu → FX σ τ → BX τ 34 m → OKm m → m 5 = σ 134 5 → ∃ ρ, fX6_period_L20 (nI s) fu (nI n) τ = some (0, perL (σ 134) s c n m, ρ) ∧ FX σ ρ := by
    intro c
    induction c with
    | zero =>
      intro n fu m τ hcn hf hτ hB okm h5
      match fu, hf with
      | fu + 1, _ =>
        have : n = 49 := by omega
        subst this
        rw [fX6_period_L20.eq_2, if_pos (by decide)]
        exact ⟨τ, rfl, hτ⟩
    | succ c ih =>
      intro n fu m τ hcn hf hτ hB okm h5
      match fu, hf with
      | fu + 1, hf =>
        obtain ⟨τ2, e2, a2, f2⟩ := c_trialTurn okm hB (s := s) (by omega)
        have okS := mS_facts okm s
        have hfx := fx_trans hτ f2
        have bx := bx_frame (rel_bx h) (fun p h1 h2 => hfx.1 p (by unfold KeepR; omega))
        have e3 := c_liesAs okS.1 ok (okS.2.2.1.trans h5) a2 bx
        rw [fX6_period_L20.eq_2, if_neg (show ¬ (48 : Int32) < nI n from fun q => by have := (dI_lt (a := 48) (by omega) (by omega)).1 q; omega), Option.bind_some, e2, Option.bind_some, e3, Option.bind_some, nI_add1, perL.eq_2]
        cases hb : dB (LIES (mS m s).2 (σ 134)) with
        | true => rw [if_pos rfl, if_pos rfl]; exact ⟨τ2, rfl, hfx⟩
        | false =>
          rw [if_neg Bool.false_ne_true, if_neg Bool.false_ne_true]
          exact ih (n + 1) fu (mS m s).2 τ2 (by omega) (by omega) hfx a2 okS.1 (okS.2.2.1.trans h5)
  obtain ⟨ρ, eC, fC⟩ := hC 48 1 kFU (σ 134) τ0 rfl (by unfold kFU; omega) f0 a0 ok rfl
  refine ⟨perL (σ 134) s 48 1 (σ 134), ρ, by rw [e0, Option.bind_some]; exact eC, fC, fun σ' h' hK h3 => ?_⟩
  have e : th σ' 0 134 = σ 134 := by rw [th_p (by decide), hK 134 (by unfold KeepR; omega) (by decide)]
  obtain ⟨x1, q1, q2, q3, q4⟩ := m_aside e
  have hKx : MK x1 := mk_of (rel_mk h') (by rw [q3 140 (by decide), th_p (by decide)]) (by rw [q3 141 (by decide), th_p (by decide)])
  rw [q1, Option.bind_some]
  have fin : ∀ v τ, FY x1 τ → Zr (τ 134) → ∃ ρ, fX7_period_L71 (nI s) v τ = some (v, ρ) ∧ FY x1 ρ ∧ ρ 134 = σ 134 := by
    intro v τ hτ hz
    obtain ⟨τ2, s1, s2, s3⟩ := m_restore (fy_as hτ q2) h.1.2.1 hz
    unfold fX7_period_L71
    rw [s1, Option.bind_some]
    exact ⟨τ2, rfl, fy_trans hτ (fy_134 s3), s2⟩
  have hMl : ∀ c n fu m τ, n + c = 49 → c + 1 < fu → FY x1 τ → τ 134 = m → OKm m → Zr m → m 5 = σ 134 5 → Same (σ 134) m → ∃ ρ, fX7_period_L33 (nI s) fu (-1) (nI n) τ = some (perL (σ 134) s c n m, ρ) ∧ FY x1 ρ ∧ ρ 134 = σ 134 := by
    intro c
    induction c with
    | zero =>
      intro n fu m τ hcn hf hτ h134 okm hz h5 hsm
      match fu, hf with
      | fu + 1, _ =>
        have : n = 49 := by omega
        subst this
        rw [fX7_period_L33.eq_2, if_pos (by decide)]
        exact fin (-1) τ hτ (by rw [h134]; exact hz)
    | succ c ih =>
      intro n fu m τ hcn hf hτ h134 okm hz h5 hsm
      match fu, hf with
      | fu + 1, hf =>
        obtain ⟨τ1, r1, r2, r3, r4, r5⟩ := m_settledNow (σ := τ) (m := m) okm h134 (fy_mk hτ hKx) (s := s) (w := 0) (by omega) (by omega)
        have r1' : fX7_settledNow (nI s) 0 τ = some (nI (mS m s).1, τ1) := r1
        have okS := mS_facts okm s
        have hfy := fy_trans hτ r3
        have hsame := same_trans hsm okS.2.2.2.2.2
        have e3 := m_isAsBefore okS.1 ok (okS.2.2.1.trans h5) hsame r2 (fy_as hfy q2)
        have hz2 : Zr (mS m s).2 := zr_hi hz okS.2.1
        rw [fX7_period_L33.eq_2, if_neg (show ¬ (48 : Int32) < nI n from fun q => by have := (dI_lt (a := 48) (by omega) (by omega)).1 q; omega), if_pos rfl, r1', Option.bind_some, e3, Option.bind_some]
        simp only [fX7_period_L64, nI_add1]
        rw [perL.eq_2]
        cases hb : dB (LIES (mS m s).2 (σ 134)) with
        | true =>
          rw [if_pos rfl, if_pos rfl]
          match fu, hf with
          | fu + 1, _ =>
            rw [fX7_period_L33.eq_2]
            by_cases h49 : (48 : Int32) < nI (n + 1)
            · rw [if_pos h49]
              exact fin (nI n) τ1 hfy (by rw [r2]; exact hz2)
            · rw [if_neg h49, if_neg (nI_ne1 (by omega))]
              exact fin (nI n) τ1 hfy (by rw [r2]; exact hz2)
        | false =>
          rw [if_neg Bool.false_ne_true, if_neg Bool.false_ne_true]
          exact ih (n + 1) fu (mS m s).2 τ1 (by omega) (by omega) hfy r2 okS.1 hz2 (okS.2.2.1.trans h5) hsame
  obtain ⟨x2, r1, r2, r3⟩ := hMl 48 1 kFU (σ 134) x1 rfl (by unfold kFU; omega) fy_refl (by rw [q3 134 (by decide), e]) ok h.1.2.1 rfl same_refl
  exact ⟨x2, r1, f7_z (fz_trans q4 (fz_y r2)) (by rw [r3, e])⟩
