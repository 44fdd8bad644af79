/-! one cell of the picture, as the law looks at it -/
def DX (σ τ : Sto) : Prop := ∀ p, KP2 p → p ≠ 134 → τ p = σ p
section M3
variable {σ τ ρ : Sto} {m : Vc} {ps : List Vc} {x y : Int32} {s : Nat × Int32 × Int32}
variable {K32 : Int32 → Int32 → Int32 → Int32 → Int32 → Int32 → Int32 → Int32 → Sto → Option (Bool × Sto)} {K42 : Int32 → Int32 → Int32 → Int32 → Int32 → Int32 → Int32 → Int32 → Int32 → Sto → Option (Bool × Sto)} {v1 v2 v3 v4 v5 v6 v7 : Int32}
theorem dx_cx (h : CX σ τ) : DX σ τ := fun p hp _ => h p hp
theorem dx_trans (h : DX σ τ) (h' : DX τ ρ) : DX σ ρ := fun p hp h9 => by rw [h' p hp h9, h p hp h9]
theorem nw_dx (h : NW m σ) (hf : DX σ τ) : NW m τ := ⟨h.1, bx_frame h.2 (fun p a b => hf p (by unfold KP2; omega) (by omega))⟩
/-- what the cell adds to the law's sums -/
noncomputable def aImg (m : Vc) (x y : Int32) : Int32 := if gBox (m 0) (m 1) x y = true then nImg m x y else 0
noncomputable def aChp (m : Vc) (x y : Int32) : Int32 := kb (gBox (m 0) (m 1) x y && !decide (mBd m x y = -1))
theorem see_box_iff (ok : OKm m) (hs : mSee m x y = some s) : gBox (m 0) (m 1) x y = decide (s.1 = 0) := by
  cases hb : gBox (m 0) (m 1) x y with
  | true =>
    have h := see_box0 hb
    rw [hs] at h
    cases h
    rfl
  | false =>
    have := see_nbox (by rw [hb]; exact Bool.false_ne_true) hs
    rw [decide_eq_false (by omega)]
theorem see_same (ok : OKm m) (hs : mSee m x y = some s) (h0 : s.1 = 0) : s.2 = (x, y) := (see_0 (see_near hs).2 h0).2
theorem i_373 (h : NW m σ) (hs : mSee m x y = some s) {S : Int32} : ∃ τ, fL_isPicture_L373 K32 K42 v1 v2 v3 v4 v5 v6 x y (nI s.1) (mBd m s.2.1 s.2.2) S v7 σ = K42 v1 v2 (v3 + kb (gBox (m 0) (m 1) x y)) v4 (v5 + aImg m x y) (v6 + aChp m x y) (v7 + S) x (y + 1) τ ∧ CX σ τ := by
  have ok := h.1
  have h6 := see_far' ok hs
  have hb := see_box_iff ok hs
  unfold fL_isPicture_L373 aImg aChp
  by_cases h0 : s.1 = 0
  · have hx := see_same ok hs h0
    have hbt : gBox (m 0) (m 1) x y = true := by rw [hb, decide_eq_true h0]
    obtain ⟨τ, e1, f1⟩ := k_images h hbt
    refine ⟨τ, ?_, f1⟩
    rw [h0, if_pos (show nI 0 ≤ 0 by decide), e1, Option.bind_some, if_pos rfl, hbt, if_pos rfl, hx]
    dsimp only
    unfold fL_isPicture_L413 fL_isPicture_L416
    by_cases hc : mBd m x y = -1
    · rw [if_pos hc, decide_eq_true hc]; rfl
    · rw [if_neg hc, decide_eq_false hc]; rfl
  · have hbf : gBox (m 0) (m 1) x y = false := by rw [hb, decide_eq_false h0]
    refine ⟨σ, ?_, cx_refl⟩
    rw [if_neg (show ¬ nI s.1 ≤ 0 from fun c => h0 (by have := (dI_le (b := 0) (by omega) (by omega)).1 c; omega)), hbf, if_neg Bool.false_ne_true]
    unfold fL_isPicture_L416
    show K42 v1 v2 v3 v4 v5 v6 _ x _ σ = K42 v1 v2 (v3 + 0) v4 (v5 + 0) (v6 + 0) _ x _ σ
    rw [add0, add0, add0]
theorem i_360 (h : NW m σ) (hs : mSee m x y = some s) {B : Int32} : ∃ τ, fL_isPicture_L360 K32 K42 v1 v2 v3 v4 v5 v6 v7 x y (mCol m x y) (nI s.1) B (mBd m s.2.1 s.2.2) σ = K42 v1 v2 (v3 + kb (gBox (m 0) (m 1) x y)) v4 (v5 + aImg m x y) (v6 + aChp m x y) (v7 + if mCol m x y = 0 then 0 else B) x (y + 1) τ ∧ CX σ τ := by
  unfold fL_isPicture_L360
  by_cases hc : mCol m x y = 0
  · rw [if_pos hc, if_pos hc]; exact i_373 h hs
  · rw [if_neg hc, if_neg hc]; exact i_373 h hs
theorem col_see (hs : mSee m x y = some s) : mCol m x y = if mBd m s.2.1 s.2.2 = -1 then 0 else mC m (mBd m s.2.1 s.2.2).toNatClampNeg 1 := by
  unfold mCol
  rw [hs]
  rfl
theorem i_297 (h : NW m σ) (hs : mSee m x y = some s) {B : Int32} : ∃ τ, fL_isPicture_L297 K32 K42 v1 v2 v3 v4 v5 v6 v7 x y (mCol m x y) (nI s.1) s.2.1 s.2.2 B σ = K42 v1 v2 (v3 + kb (gBox (m 0) (m 1) x y)) v4 (v5 + aImg m x y) (v6 + aChp m x y) (v7 + if mCol m x y = 0 then 0 else B) x (y + 1) τ ∧ CX σ τ := by
  have ok := h.1
  have hn := came_le ok
  have hcol := col_see hs
  unfold fL_isPicture_L297
  rw [k_chipAt h (see_box' ok hs), Option.bind_some, if_pos rfl]
  dsimp only
  rcases mBd_cases m s.2.1 s.2.2 with ⟨h1, -⟩ | ⟨k, hk, ha, h1⟩
  · rw [if_pos h1]
    rw [if_pos h1] at hcol
    unfold fL_isPicture_L326
    rw [if_pos hcol, if_pos (show mBd m s.2.1 s.2.2 < 0 by rw [h1]; decide)]
    exact i_360 h hs
  · have hne : ¬ mBd m s.2.1 s.2.2 = -1 := by rw [h1]; exact nI_ne1 (by omega)
    rw [if_neg hne]
    rw [if_neg hne, h1, nI_n (by omega)] at hcol
    have c1 : fX6_chip (nI k) 1 σ = some (0, mC m k 1) := by
      have := k_chip h hk (v := 1) (by omega)
      rw [show nI 1 = 1 from rfl] at this
      rw [this]
      unfold chipV
      rw [if_neg (fun c => by omega)]
    have c3 : fX6_chip (nI k) 3 σ = some (0, s.2.1) := by
      have := k_chip h hk (v := 3) (by omega)
      rw [show nI 3 = 3 from rfl] at this
      rw [this]
      unfold chipV
      rw [if_neg (fun c => c.2 ha.1), ha.2.1]
    have c4 : fX6_chip (nI k) 4 σ = some (0, s.2.2) := by
      have := k_chip h hk (v := 4) (by omega)
      rw [show nI 4 = 4 from rfl] at this
      rw [this]
      unfold chipV
      rw [if_neg (fun c => c.2 ha.1), ha.2.2]
    have h0 := @nI_lt0 k (by omega)
    have e9 := @i_360 σ m x y s K32 K42 v1 v2 v3 v4 v5 v6 v7 h hs B
    rw [h1] at e9 ⊢
    rw [c1, Option.bind_some, if_pos rfl]
    dsimp only
    unfold fL_isPicture_L326
    rw [if_pos hcol, if_neg (show ¬ nI k < 0 by grind), c3, Option.bind_some, if_pos rfl]
    dsimp only
    rw [if_pos rfl, c4, Option.bind_some, if_pos rfl]
    dsimp only
    rw [if_pos rfl]
    exact e9
theorem br_see (hs : mSee m x y = some s) : mBr m x y = gBr (m 3) s.1 := by
  unfold mBr
  rw [hs]
theorem i_exit (h : NW m σ) (hn : gNear (m 0) (m 1) x y = true) (hs : mSee m x y = some s) {fu : Nat} : ∃ τ, fL_isPicture_L226 K32 K42 (fu + 1) v1 v2 v3 v4 v5 v6 v7 x y (mCol m x y) (nI s.1) s.2.1 s.2.2 (gBr (m 3) s.1) (nI s.1) σ = K42 v1 v2 (v3 + kb (gBox (m 0) (m 1) x y)) v4 (v5 + aImg m x y) (v6 + aChp m x y) (v7 + if mCol m x y = 0 then 0 else gBr (m 3) s.1) x (y + 1) τ ∧ CX σ τ := by
  have ok := h.1
  have h6 := see_far' ok hs
  have hbox := see_box' ok hs
  have hR := near_R ok.2.1 (box_near hbox)
  obtain ⟨τ, e1, f1⟩ := k_brightness h hn
  have hτ := nw_cx h f1
  obtain ⟨ρ, e2, f2⟩ := @i_297 τ m x y s K32 K42 v1 v2 v3 v4 v5 v6 v7 hτ hs (gBr (m 3) s.1)
  refine ⟨ρ, ?_, cx_trans f1 f2⟩
  rw [fL_isPicture_L226.eq_2, if_pos (by grind), e1, Option.bind_some, if_pos rfl]
  dsimp only
  rw [if_pos (br_see hs), k_isBox hτ hR, Option.bind_some]
  dsimp only
  rw [if_pos hbox]
  by_cases h0 : s.1 = 0
  · have hx := see_same ok hs h0
    rw [if_pos (show nI s.1 = 0 by rw [h0]; rfl), if_pos (show s.2.1 = x by rw [hx]), if_pos (show s.2.2 = y by rw [hx])]
    exact e2
  · rw [if_neg (show ¬ nI s.1 = 0 from fun c => h0 ((nI_inj (b := 0) (by omega) (by omega)).1 c))]
    exact e2
theorem i_226 (h : NW m σ) (hn : gNear (m 0) (m 1) x y = true) (hs : mSee m x y = some s) (n : Nat) : ∀ (j fu : Nat), j + n = s.1 → n < fu → ∃ τ, fL_isPicture_L226 K32 K42 fu v1 v2 v3 v4 v5 v6 v7 x y (mCol m x y) (nI s.1) s.2.1 s.2.2 (gBr (m 3) j) (nI j) σ = K42 v1 v2 (v3 + kb (gBox (m 0) (m 1) x y)) v4 (v5 + aImg m x y) (v6 + aChp m x y) (v7 + if mCol m x y = 0 then 0 else gBr (m 3) s.1) x (y + 1) τ ∧ CX σ τ := by
  have h6 := see_far' h.1 hs
  induction n with
  | zero =>
    intro j fu hj hf
    obtain ⟨fu, rfl⟩ : ∃ k, fu = k + 1 := ⟨fu - 1, by omega⟩
    have : j = s.1 := by omega
    subst this
    exact i_exit h hn hs
  | succ n ih =>
    intro j fu hj hf
    obtain ⟨fu, rfl⟩ : ∃ k, fu = k + 1 := ⟨fu - 1, by omega⟩
    rw [fL_isPicture_L226.eq_2, if_neg (by rw [dI_le (by omega) (by omega)]; omega), k_count_3 h, Option.bind_some, if_pos rfl]
    dsimp only
    rw [nI_add1, show gBr (m 3) j * m 3 / 100 = gBr (m 3) (j + 1) from rfl]
    exact ih (j + 1) fu (by omega) (by omega)
/-- a cell of the picture -/
theorem i_126 (h : NW m σ) (hn : gNear (m 0) (m 1) x y = true) : ∃ τ, fL_isPicture_L126 K32 K42 v1 v2 v3 v4 v5 v6 v7 x y (mCol m x y) (mRef m x y) (fX6_told (mSrc m x y) 0) (fX6_told (mSrc m x y) 1) (if mRef m x y = 0 then 1 else 0) σ = K42 v1 v2 (v3 + kb (gBox (m 0) (m 1) x y)) (v4 + kb (isSeen m x y)) (v5 + aImg m x y) (v6 + aChp m x y) (v7 + lgt m x y) x (y + 1) τ ∧ CX σ τ := by
  have ok := h.1
  unfold fL_isPicture_L126
  rw [k_isBox h (near_R ok.2.1 hn), Option.bind_some]
  dsimp only
  cases hs : mSee m x y with
  | none =>
    have hb : gBox (m 0) (m 1) x y = false := by
      cases hb : gBox (m 0) (m 1) x y with
      | false => rfl
      | true => rw [see_box0 hb] at hs; cases hs
    have e1 : mRef m x y = -1 := by unfold mRef; rw [hs]
    have e2 : mSrc m x y = -1 := by unfold mSrc; rw [hs]
    have e3 : mCol m x y = 0 := by unfold mCol; rw [hs]; rfl
    have e4 : mBr m x y = 0 := by unfold mBr; rw [hs]
    have e5 : isSeen m x y = false := by unfold isSeen; rw [hs]; rfl
    have e6 : lgt m x y = 0 := by unfold lgt; rw [if_neg (fun c => c.2 e3)]
    have e7 : aImg m x y = 0 := by unfold aImg; rw [hb, if_neg Bool.false_ne_true]
    have e8 : aChp m x y = 0 := by unfold aChp; rw [hb]; rfl
    obtain ⟨τ, e9, f9⟩ := k_brightness h hn
    refine ⟨τ, ?_, f9⟩
    rw [e1, e2, e3, e5, e6, e7, e8, hb]
    rw [if_neg (show ¬ (-1 : Int32) = 0 by decide), if_pos (show (0 : Int32) = kb false from rfl), if_pos rfl]
    unfold fL_isPicture_L148
    rw [if_pos (show fX6_told (-1) 0 = -100 from rfl)]
    unfold fL_isPicture_L160
    rw [if_pos rfl, if_pos rfl]
    unfold fL_isPicture_L174
    rw [if_pos (show fX6_told (-1) 1 = -100 from rfl)]
    unfold fL_isPicture_L186
    rw [if_pos rfl, if_pos rfl, if_pos rfl, e9, Option.bind_some, if_pos rfl]
    dsimp only
    rw [e4, if_pos rfl]
    unfold fL_isPicture_L416
    show K42 v1 v2 v3 v4 v5 v6 v7 x _ τ = K42 v1 v2 (v3 + 0) (v4 + 0) (v5 + 0) (v6 + 0) (v7 + 0) x _ τ
    rw [add0, add0, add0, add0, add0]
  | some s =>
    have h6 := see_far' ok hs
    have hbox := see_box' ok hs
    have hR := near_R ok.2.1 (box_near hbox)
    have hi := near_in ok.2.1 (box_near hbox)
    have e1 : mRef m x y = nI s.1 := by unfold mRef; rw [hs]
    have e2 : mSrc m x y = fX1_cellAt s.2.1 s.2.2 := by unfold mSrc; rw [hs]
    have e5 : isSeen m x y = true := by unfold isSeen; rw [hs]; rfl
    have e6 : lgt m x y = if mCol m x y = 0 then 0 else gBr (m 3) s.1 := by
      unfold lgt
      rw [br_see hs]
      by_cases hc : mCol m x y = 0
      · rw [if_neg (fun c => c.2 hc), if_pos hc]
      · rw [if_pos ⟨hn, hc⟩, if_neg hc]
    have hb := see_box_iff ok hs
    obtain ⟨τ, e9, f9⟩ := @i_226 σ m x y s K32 K42 v1 v2 v3 (v4 + 1) v5 v6 v7 h hn hs s.1 0 kFU (by omega) (by unfold kFU; omega)
    refine ⟨τ, ?_, f9⟩
    have g1 : (if nI s.1 = 0 then (1 : Int32) else 0) = kb (gBox (m 0) (m 1) x y) := by
      rw [hb]
      by_cases h0 : s.1 = 0
      · rw [h0, decide_eq_true rfl]; rfl
      · rw [decide_eq_false h0, if_neg (show ¬ nI s.1 = 0 from fun c => h0 ((nI_inj (b := 0) (by omega) (by omega)).1 c))]; rfl
    have n1 : ¬ nI s.1 = -1 := nI_ne1 (by omega)
    have t1 : ¬ s.2.1 = -100 := fun c => by rw [c] at hi; exact absurd hi.1.1 (by decide)
    have t2 : ¬ s.2.2 = -100 := fun c => by rw [c] at hi; exact absurd hi.2.1 (by decide)
    rw [e1, e2, e5, e6, told_cell hR, told_cell hR, if_pos rfl, if_neg (show ¬ (1 : Int32) = 0 by decide), if_pos g1, if_neg n1]
    unfold fL_isPicture_L148
    rw [if_neg t1]
    unfold fL_isPicture_L160
    rw [if_pos rfl, if_neg n1]
    unfold fL_isPicture_L174
    rw [if_neg t2]
    unfold fL_isPicture_L186
    rw [if_pos rfl, if_neg n1]
    exact e9
/-- one turn of the inner loop -/
theorem i_cell (h : NW m σ) (hx : -7 ≤ x ∧ x ≤ 7) (hy : -7 ≤ y ∧ y ≤ 7) (h1 : ¬ v1 < y) {fu : Nat} : ∃ τ, fL_isPicture_L42 K32 (fu + 1) v1 v2 v3 v4 v5 v6 v7 x y σ = fL_isPicture_L42 K32 fu v1 (v2 + kb (gNear (m 0) (m 1) x y)) (v3 + kb (gBox (m 0) (m 1) x y)) (v4 + kb (isSeen m x y)) (v5 + aImg m x y) (v6 + aChp m x y) (v7 + lgt m x y) x (y + 1) τ ∧ DX σ τ ∧ ∀ c, c < 10 → τ 134 c = σ 134 c + kb (gNear (m 0) (m 1) x y && decide (mCol m x y = nI c)) := by
  have ok := h.1
  rw [fL_isPicture_L42.eq_2, if_neg h1, k_isNear h ⟨hx, hy⟩, Option.bind_some]
  dsimp only
  cases hn : gNear (m 0) (m 1) x y with
  | false =>
    rw [if_neg Bool.false_ne_true]
    have hb : gBox (m 0) (m 1) x y = false := by unfold gBox; rw [hn]; rfl
    have e5 : isSeen m x y = false := by unfold isSeen mSee; rw [hn, if_neg Bool.false_ne_true]; rfl
    have e6 : lgt m x y = 0 := by unfold lgt; rw [if_neg (fun c => by rw [hn] at c; cases c.1)]
    have e7 : aImg m x y = 0 := by unfold aImg; rw [hb, if_neg Bool.false_ne_true]
    have e8 : aChp m x y = 0 := by unfold aChp; rw [hb]; rfl
    refine ⟨σ, ?_, fun _ _ _ => rfl, fun c _ => (add0 _).symm⟩
    rw [hb, e5, e6, e7, e8]
    unfold fL_isPicture_L416
    show fL_isPicture_L42 K32 fu v1 v2 v3 v4 v5 v6 v7 x _ σ = fL_isPicture_L42 K32 fu v1 (v2 + 0) (v3 + 0) (v4 + 0) (v5 + 0) (v6 + 0) (v7 + 0) x _ σ
    rw [add0, add0, add0, add0, add0, add0]
  | true =>
    rw [if_pos rfl]
    obtain ⟨τ1, e1, f1⟩ := k_colour h hn
    have hr := mCol_rng ok x y
    obtain ⟨c, c9, hc⟩ := isIn_lo (a := mCol m x y) (hi := 9) (by decide) (isIn_iff.2 hr)
    have hk : kin (mCol m x y) 10 = true := by rw [hc]; exact kin_nI (by omega) (by decide)
    generalize hσ : su τ1 134 (mCol m x y).toNatClampNeg (τ1 134 (mCol m x y).toNatClampNeg + 1) = σ1
    have d1 : DX σ σ1 := fun p hp h9 => by rw [← hσ, su_k h9, f1 p hp]
    obtain ⟨τ2, e2, f2⟩ := k_reflections (nw_dx h d1) hn
    obtain ⟨τ3, e3, f3⟩ := k_source (a := 0) (nw_cx (nw_dx h d1) f2) hn
    obtain ⟨τ4, e4, f4⟩ := k_source (a := 1) (nw_cx (nw_cx (nw_dx h d1) f2) f3) hn
    have f24 := cx_trans f2 (cx_trans f3 f4)
    obtain ⟨τ5, e5, f5⟩ := @i_126 τ4 m x y K32 (fL_isPicture_L42 K32 fu) v1 (v2 + 1) v3 v4 v5 v6 v7 (nw_cx (nw_dx h d1) f24) hn
    refine ⟨τ5, ?_, dx_trans d1 (dx_cx (cx_trans f24 f5)), fun j hj => ?_⟩
    · rw [e1, Option.bind_some, if_pos rfl]
      dsimp only
      rw [if_pos hk, if_pos hk, klet_eq, hσ, e2, Option.bind_some, if_pos rfl]
      dsimp only
      rw [e3, Option.bind_some, if_pos rfl]
      dsimp only
      rw [e4, Option.bind_some, if_pos rfl]
      dsimp only
      rw [show v2 + kb true = v2 + 1 from rfl, ← e5]
      split <;> rfl
    · rw [(cx_trans f24 f5) 134 (by unfold KP2; omega), ← hσ, Bool.true_and]
      have hcn : (mCol m x y).toNatClampNeg = c := by rw [hc, nI_n (by omega)]
      rw [hcn, su_at, f1 134 (by unfold KP2; omega)]
      by_cases e : j = c
      · subst e
        rw [if_pos rfl, decide_eq_true hc]
        rfl
      · rw [if_neg e, decide_eq_false (fun d => e (by rw [hc] at d; exact ((nI_inj (by omega) (by omega)).1 d).symm))]
        exact (add0 _).symm
end M3
