/-! the class's acts: m is the box now, ps its past (the latest first) -/
def RG (ps : List Vc) (σ : Sto) : Prop := ∃ e : Nat, (e < 8 ∧ ps.length ≤ 8) ∧ (σ 0 4 = nI ps.length ∧ σ 0 3 = nI e) ∧ ∀ j p, ps[j]? = some p → OKm p ∧ BX σ (43 + 9 * ((e + 7 - j) % 8)) p
def INV (m : Vc) (ps : List Vc) (σ : Sto) : Prop := NW m σ ∧ RG ps σ
/-- what stands beside the class is as it was -/
def AX (σ τ : Sto) : Prop := ∀ p, 133 ≤ p → τ p = σ p
def psh (m : Vc) (ps : List Vc) : List Vc := (m :: ps).take 8
section K1
variable {σ τ ρ : Sto} {m m' : Vc} {ps : List Vc}
theorem ax_refl : AX σ σ := fun _ _ => rfl
theorem ax_trans (h : AX σ τ) (h' : AX τ ρ) : AX σ ρ := fun p hp => by rw [h' p hp, h p hp]
theorem ax_cx (h : CX σ τ) : AX σ τ := fun p hp => h p (by unfold KP2; omega)
theorem rg_of (h : RG ps σ) (hf : ∀ p, p = 0 ∨ (43 ≤ p ∧ p ≤ 114) → τ p = σ p) : RG ps τ := by
  obtain ⟨e, h1, ⟨h2, h3⟩, h4⟩ := h
  refine ⟨e, h1, ⟨by rw [hf 0 (.inl rfl)]; exact h2, by rw [hf 0 (.inl rfl)]; exact h3⟩, fun j p hp => ?_⟩
  obtain ⟨a, b⟩ := h4 j p hp
  exact ⟨a, bx_frame b (fun q x y => hf q (.inr (by omega)))⟩
theorem inv_cx (h : INV m ps σ) (hf : CX σ τ) : INV m ps τ := ⟨nw_cx h.1 hf, rg_of h.2 (fun p hp => hf p (by unfold KP2; omega))⟩
theorem k_keep (h : INV m ps σ) : ∃ τ, fX6_keepForUndo σ = some τ ∧ INV m (psh m ps) τ ∧ ∀ p, (25 ≤ p ∧ p ≤ 42) ∨ 115 ≤ p → τ p = σ p := by
  obtain ⟨⟨ok, bx⟩, e, ⟨e8, u8⟩, ⟨b4, b3⟩, bj⟩ := h
  unfold fX6_keepForUndo
  rw [if_pos (by decide), if_pos (by decide), klet_eq, z0]
  have e03 : su σ 4 0 (σ 4 0 + 1) 0 3 = nI e := by rw [su_k (by decide), b3]
  rw [e03, and7 e (by omega), Nat.mod_eq_of_lt e8, if_pos (kin_nI e8 (by decide)), nI_n (by omega)]
  have hb25 : BX (su σ 4 0 (σ 4 0 + 1)) 25 m := bx_frame bx (fun p h1 h2 => su_k (by omega))
  obtain ⟨τ, e1, g1, g2⟩ := c_copy (b0 := 43 + 9 * e) (b1 := 25) (by omega) ok hb25
  rw [e1, Option.bind_some, klet_eq, klet_eq]
  have f03 : τ 0 3 = nI e := by rw [g2 0 (by omega), e03]
  have f04 : τ 0 4 = nI ps.length := by rw [g2 0 (by omega), su_k (by decide), b4]
  rw [f03, nI_add1, and7 (e + 1) (by omega), su_i (show 4 ≠ 3 by decide), f04, nI_add1]
  have hl : (psh m ps).length = if ps.length = 8 then 8 else ps.length + 1 := by
    unfold psh
    rw [List.length_take, List.length_cons]
    split <;> omega
  have e8' : (if (8 : Int32) < nI (ps.length + 1) then (8 : Int32) else nI (ps.length + 1)) = nI (psh m ps).length := by
    rw [hl]
    by_cases h : ps.length = 8
    · rw [h]; decide
    · rw [if_neg h, if_neg (fun c => by have := (dI_lt (a := 8) (by omega) (by omega)).1 c; omega)]
  rw [e8']
  have fr : ∀ p, p ≠ 0 → p ≠ 4 → (p < 43 + 9 * e ∨ 43 + 9 * e + 8 < p) → su (su τ 0 3 (nI ((e + 1) % 8))) 0 4 (nI (psh m ps).length) p = σ p := fun p p0 p4 pr => by
    rw [su_k p0, su_k p0, g2 p pr, su_k p4]
  refine ⟨_, rfl, ⟨⟨ok, bx_frame bx (fun p h1 h2 => fr p (by omega) (by omega) (by omega))⟩, (e + 1) % 8, ⟨by omega, by rw [hl]; split <;> omega⟩, ⟨su_eq, by rw [su_i (by decide), su_eq]⟩, fun j p hp => ?_⟩, fun p hp => fr p (by omega) (by omega) (by omega)⟩
  have hj : j < 8 := by
    have := (List.getElem?_eq_some_iff.mp hp).1
    rw [hl] at this
    split at this <;> omega
  unfold psh at hp
  rw [List.getElem?_take, if_pos hj] at hp
  cases j with
  | zero =>
    cases hp
    rw [show 43 + 9 * (((e + 1) % 8 + 7 - 0) % 8) = 43 + 9 * e by omega]
    exact ⟨ok, bx_frame g1 (fun p h1 h2 => by rw [su_k (by omega), su_k (by omega)])⟩
  | succ j =>
    rw [List.getElem?_cons_succ] at hp
    obtain ⟨a, b⟩ := bj j p hp
    rw [show ((e + 1) % 8 + 7 - (j + 1)) % 8 = (e + 7 - j) % 8 by omega]
    have hne : (e + 7 - j) % 8 ≠ e := by omega
    exact ⟨a, bx_frame b (fun q x y => fr q (by omega) (by omega) (by omega))⟩
theorem inv_now (h : INV m ps τ) (ok : OKm m') (hb : BX ρ 25 m') (hf : ∀ p, (p < 25 ∨ 42 < p) → ρ p = τ p) : INV m' ps ρ := ⟨⟨ok, hb⟩, rg_of h.2 (fun p hp => hf p (by omega))⟩
theorem k_refused {r : Nat} (h1 : 1 ≤ r) (h5 : r ≤ 5) (h : INV m ps σ) : ∃ τ, fX6_refused (nI r) σ = some (-(nI r), τ) ∧ INV m ps τ ∧ AX σ τ := by
  refine ⟨_, c_refused h1 h5, ⟨⟨h.1.1, bx_frame h.1.2 (fun p a b => su_k (by omega))⟩, rg_of h.2 (fun p hp => su_k (by omega))⟩, fun p hp => su_k (by omega)⟩
theorem k_turn (h : INV m ps σ) {s : Nat} (h1 : 1 ≤ s) (h7 : s ≤ 7) : ∃ τ, fX6_turn (nI s) σ = some (0, nI ((mD m + s) % gDirs (m 0)), τ) ∧ INV (mTurn m s) (psh m ps) τ ∧ AX σ τ := by
  obtain ⟨τ, e1, hI, hF⟩ := k_keep h
  obtain ⟨e2, b2⟩ := c_turnBy h.1.1 hI.1.2 (s := s) (by omega)
  refine ⟨su τ 25 1 (nI ((mD m + s) % gDirs (m 0))), ?_, inv_now hI (ok_turn h.1.1 s) b2 (fun p hp => su_k (by omega)), fun p hp => by rw [su_k (by omega), hF p (by omega)]⟩
  unfold fX6_turn
  rw [k_rng (in_1 (H := 7) (hi := 7) rfl (by decide) h1 h7), Option.bind_some, if_pos rfl, e1, Option.bind_some, Option.bind_some, e2, su_eq]
theorem k_setKeep (h : INV m ps σ) {v : Int32} (h1 : 1 ≤ v) (h7 : v ≤ 100) : ∃ τ, fX6_setKeep v σ = some (0, m 3, τ) ∧ INV (vset m 3 v) (psh m ps) τ ∧ AX σ τ := by
  obtain ⟨τ, e1, hI, hF⟩ := k_keep h
  refine ⟨su τ 25 2 v, ?_, inv_now hI (ok_keep h.1.1 ⟨h1, h7⟩) (bx_keep hI.1.2) (fun p hp => su_k (by omega)), fun p hp => by rw [su_k (by omega), hF p (by omega)]⟩
  unfold fX6_setKeep
  rw [k_rng (isIn_iff.2 ⟨h1, h7⟩), Option.bind_some, if_pos rfl, e1, Option.bind_some, klet_eq, hI.1.2.2.1.2.1]
theorem k_cover (h : INV m ps σ) {bb : Bool} (hb : ¬ (mV m).testBit 0 = bb) : ∃ τ, fX6_cover 0 (kb bb) σ = some (0, nSeen (mCov m 0), τ) ∧ INV (mCov m 0) (psh m ps) τ ∧ AX σ τ := by
  have ok := h.1.1
  have hg := @many_le (m 0)
  obtain ⟨τ, e1, hI, hF⟩ := k_keep h
  obtain ⟨e2, b2⟩ := c_setCov ok hI.1.2 (j := 0) (by omega) hb
  have ok' := ok_cov ok (j := 0) (by omega)
  have hI2 : INV (mCov m 0) (psh m ps) (su τ 25 4 (nI (mV m ^^^ 2 ^ 0))) := inv_now hI ok' b2 (fun p hp => su_k (by omega))
  obtain ⟨π, e3, f3⟩ := k_seenNow hI2.1
  refine ⟨π, ?_, inv_cx hI2 f3, fun p hp => by rw [f3 p (by unfold KP2; omega), su_k (by omega), hF p (by omega)]⟩
  unfold fX6_cover
  rw [c_many h.1.2.1, if_neg (by decide), if_pos (show (0 : Int32) < nI (gMany (m 0)) from (dI_lt (a := 0) (by omega) (by omega)).2 (by omega)), show (0 : Int32) = nI 0 from rfl, c_isCovered ok h.1.2 (j := 0) (by omega), if_neg (fun c => hb ((kb_inj _ _).1 c)), e1, Option.bind_some, Option.bind_some, e2, e3, Option.bind_some]
theorem k_coverNo (h : INV m ps σ) {bb : Bool} (hb : (mV m).testBit 0 = bb) : ∃ τ, fX6_cover 0 (kb bb) σ = some (0, -4, τ) ∧ INV m ps τ ∧ AX σ τ := by
  have ok := h.1.1
  have hg := @many_le (m 0)
  obtain ⟨τ, e1, hI, hF⟩ := k_refused (r := 4) (by decide) (by decide) h
  refine ⟨τ, ?_, hI, hF⟩
  unfold fX6_cover
  rw [c_many h.1.2.1, if_neg (by decide), if_pos (show (0 : Int32) < nI (gMany (m 0)) from (dI_lt (a := 0) (by omega) (by omega)).2 (by omega)), show (0 : Int32) = nI 0 from rfl, c_isCovered ok h.1.2 (j := 0) (by omega), if_pos (by rw [hb]), show (4 : Int32) = nI 4 from rfl, e1, Option.bind_some]
theorem k_tickNo (h : INV m ps σ) (h0 : mTkN m = 0) : ∃ τ, fX6_tick σ = some (-5, τ) ∧ INV m ps τ ∧ AX σ τ := by
  obtain ⟨τ, e1, _, f1⟩ := k_next h.1
  obtain ⟨ρ, e2, hI, hF⟩ := k_refused (r := 5) (by decide) (by decide) (inv_cx h f1)
  refine ⟨ρ, ?_, hI, ax_trans (ax_cx f1) hF⟩
  unfold fX6_tick
  rw [e1, Option.bind_some, if_pos (by rw [h0]; rfl), show (5 : Int32) = nI 5 from rfl, e2, Option.bind_some]
theorem k_tick (h : INV m ps σ) (h0 : ¬ mTkN m = 0) : ∃ τ, fX6_tick σ = some (nI (mTkN m), τ) ∧ INV (mTkV m) (psh m ps) τ ∧ AX σ τ := by
  have ok := h.1.1
  have hl := tkN_le ok
  obtain ⟨τ, e1, a1, f1⟩ := k_next h.1
  obtain ⟨κ, e2, hI, hF⟩ := k_keep (inv_cx h f1)
  have a3 : BX κ 34 (mTk m) := bx_frame a1 (fun p h1 h2 => hF p (by omega))
  rw [mTk_V h0] at a3
  obtain ⟨μ, e4, a4, x4⟩ := c_copy (b0 := 25) (b1 := 34) (by omega) (tk_ok ok) a3
  have hne : ¬ nI (mTkN m) = 0 := fun c => h0 ((nI_inj (b := 0) (by omega) (by omega)).1 c)
  refine ⟨μ, ?_, inv_now hI (tk_ok ok) a4 (fun p hp => x4 p (by omega)), fun p hp => by rw [x4 p (by omega), hF p (by omega), f1 p (by unfold KP2; omega)]⟩
  unfold fX6_tick
  rw [e1, Option.bind_some, if_neg hne, e2, Option.bind_some, e4, Option.bind_some]
theorem k_settleNo (h : INV m ps σ) (h0 : mTkN m = 0) : ∃ τ, fX6_settle σ = some (-5, τ) ∧ INV m ps τ ∧ AX σ τ := by
  obtain ⟨τ, e1, a1, f1⟩ := k_trial h.1
  obtain ⟨π, e2, a2, f2⟩ := c_settle h.1.1 a1
  have f12 := cx_trans f1 (cx_fq f2)
  obtain ⟨ρ, e3, hI, hF⟩ := k_refused (r := 5) (by decide) (by decide) (inv_cx h f12)
  refine ⟨ρ, ?_, hI, ax_trans (ax_cx f12) hF⟩
  unfold fX6_settle
  rw [e1, Option.bind_some, e2, Option.bind_some, if_pos (by rw [set_0.2 h0]; rfl), show (5 : Int32) = nI 5 from rfl, e3, Option.bind_some]
theorem k_settle (h : INV m ps σ) (h0 : ¬ mTkN m = 0) : ∃ τ, fX6_settle σ = some (nI (mSet' m).1, τ) ∧ INV (mSet' m).2 (psh m ps) τ ∧ AX σ τ := by
  have ok := h.1.1
  have hs := rest_le 721 m
  obtain ⟨okS, hG, hS⟩ := mSet_facts ok
  obtain ⟨τ, e1, a1, f1⟩ := k_trial h.1
  obtain ⟨π, e2, a2, f2⟩ := c_settle ok a1
  have f12 := cx_trans f1 (cx_fq f2)
  obtain ⟨κ, e3, hI, hF⟩ := k_keep (inv_cx h f12)
  have a3 : BX κ 34 (mSet' m).2 := bx_frame a2 (fun p h1 h2 => hF p (by omega))
  obtain ⟨μ, e4, a4, x4⟩ := c_copy (b0 := 25) (b1 := 34) (by omega) okS a3
  have hne' : ¬ nI (mSet' m).1 = 0 := fun c => h0 (set_0.1 ((nI_inj (b := 0) (by unfold mSet'; omega) (by omega)).1 c))
  refine ⟨μ, ?_, inv_now hI okS a4 (fun p hp => x4 p (by omega)), fun p hp => by rw [x4 p (by omega), hF p (by omega), f12 p (by unfold KP2; omega)]⟩
  unfold fX6_settle
  rw [e1, Option.bind_some, e2, Option.bind_some, if_neg hne', e3, Option.bind_some, e4, Option.bind_some]
theorem k_needChip (h : NW m σ) {k : Nat} (hk : k < mN m) : fX6_needChip (nI k) σ = some 0 := by
  have hn := came_le h.1
  rcases chip_cases h.1 (nI k) with ⟨j, h1, h2, h3⟩ | ⟨h1, h2⟩
  · rw [c_needChip h.1 h.2, h3, if_pos rfl]
  · exfalso
    rcases h1 with h1 | h1
    · have := @nI_lt0 k (by omega); grind
    · rw [came_eq h.1] at h1
      have := (dI_le (by omega) (by omega)).1 h1
      omega
theorem k_take (h : INV m ps σ) {k : Nat} (hk : k < mN m) (h6 : mC m k 6 = 1) : ∃ τ, fX6_take (nI k) σ = some (0, nIns (mSet m k 6 0), τ) ∧ INV (mSet m k 6 0) (psh m ps) τ ∧ AX σ τ := by
  have ok := h.1.1
  obtain ⟨τ, e1, hI, hF⟩ := k_keep h
  obtain ⟨π, e2, b2, f2⟩ := c_takeOut ok hI.1.2 hk h6
  have ok' := ok_take ok (k := k)
  refine ⟨π, ?_, inv_now hI ok' b2 (fun p hp => f2 p (by omega)), fun p hp => by rw [f2 p (by omega), hF p (by omega)]⟩
  unfold fX6_take
  rw [k_needChip h.1 hk, Option.bind_some, if_pos rfl, c_cellOf ok h.1.2 hk, Option.bind_some, if_neg (fun c => (mCell_no ok hk).1 c h6), e1, Option.bind_some, e2, Option.bind_some, c_chipsInBox ok' b2, Option.bind_some]
theorem k_takeNo (h : INV m ps σ) {k : Nat} (hk : k < mN m) (h6 : ¬ mC m k 6 = 1) : ∃ τ, fX6_take (nI k) σ = some (0, -3, τ) ∧ INV m ps τ ∧ AX σ τ := by
  have ok := h.1.1
  obtain ⟨τ, e1, hI, hF⟩ := k_refused (r := 3) (by decide) (by decide) h
  refine ⟨τ, ?_, hI, hF⟩
  unfold fX6_take
  rw [k_needChip h.1 hk, Option.bind_some, if_pos rfl, c_cellOf ok h.1.2 hk, Option.bind_some, if_pos ((mCell_no ok hk).2 h6), show (3 : Int32) = nI 3 from rfl, e1, Option.bind_some]
theorem k_paint (h : INV m ps σ) {k : Nat} (hk : k < mN m) (h6 : mC m k 6 = 1) {j : Nat} (j1 : 1 ≤ j) (j9 : j ≤ 9) : ∃ τ, fX6_paint (nI k) (nI j) σ = some (0, nCol (mSet m k 1 (nI j)) (nI j), τ) ∧ INV (mSet m k 1 (nI j)) (psh m ps) τ ∧ AX σ τ := by
  have ok := h.1.1
  have hi : fX7_isIn (nI j) 1 9 = true := in_1 (H := 9) (hi := 9) rfl (by decide) j1 j9
  obtain ⟨τ, e1, hI, hF⟩ := k_keep h
  obtain ⟨π, e2, b2, f2⟩ := c_paint ok hI.1.2 hk (v := nI j)
  have ok' := ok_paint ok (k := k) (isIn_iff.1 hi)
  have hI2 : INV (mSet m k 1 (nI j)) (psh m ps) π := inv_now hI ok' b2 (fun p hp => f2 p (by omega))
  obtain ⟨κ, e3, f3⟩ := k_cellsNow hI2.1 (k := j) (by omega)
  refine ⟨κ, ?_, inv_cx hI2 f3, fun p hp => by rw [f3 p (by unfold KP2; omega), f2 p (by omega), hF p (by omega)]⟩
  unfold fX6_paint
  rw [k_needChip h.1 hk, Option.bind_some, if_pos rfl, k_rng hi, Option.bind_some, if_pos rfl, c_cellOf ok h.1.2 hk, Option.bind_some, if_neg (fun c => (mCell_no ok hk).1 c h6), e1, Option.bind_some, e2, Option.bind_some, e3, Option.bind_some]
theorem k_paintNo (h : INV m ps σ) {k : Nat} (hk : k < mN m) (h6 : ¬ mC m k 6 = 1) {j : Nat} (j1 : 1 ≤ j) (j9 : j ≤ 9) : ∃ τ, fX6_paint (nI k) (nI j) σ = some (0, -3, τ) ∧ INV m ps τ ∧ AX σ τ := by
  have ok := h.1.1
  have hi : fX7_isIn (nI j) 1 9 = true := in_1 (H := 9) (hi := 9) rfl (by decide) j1 j9
  obtain ⟨τ, e1, hI, hF⟩ := k_refused (r := 3) (by decide) (by decide) h
  refine ⟨τ, ?_, hI, hF⟩
  unfold fX6_paint
  rw [k_needChip h.1 hk, Option.bind_some, if_pos rfl, k_rng hi, Option.bind_some, if_pos rfl, c_cellOf ok h.1.2 hk, Option.bind_some, if_pos ((mCell_no ok hk).2 h6), show (3 : Int32) = nI 3 from rfl, e1, Option.bind_some]
theorem k_addOk {a1 a2 a3 x y : Int32} (h : NW m σ) (hb : gBox (m 0) (m 1) x y = true) (g1 : 0 ≤ a1 ∧ a1 ≤ 3) (g2 : 1 ≤ a2 ∧ a2 ≤ 9) (g3 : 1 ≤ a3 ∧ a3 ≤ 9) : fX6_add a1 a2 a3 x y σ = if nI (mN m) < 30 then (if mBd m x y = -1 then (fX6_keepForUndo σ).bind fun r16 => (fX5_bring 25 a1 a2 a3 (fX1_cellAt x y) r16).bind fun r19 => some (0, r19.1, r19.2) else (fX6_refused 2 σ).bind fun r22 => some (0, r22.1, r22.2)) else (fX6_refused 1 σ).bind fun r25 => some (0, r25.1, r25.2) := by
  unfold fX6_add
  rw [k_needB h hb, Option.bind_some, if_pos rfl, k_rng (isIn_iff.2 g1), Option.bind_some, if_pos rfl, k_rng (isIn_iff.2 g2), Option.bind_some, if_pos rfl, k_rng (isIn_iff.2 g3), Option.bind_some, if_pos rfl, bx8 h.2, came_eq h.1, c_chipOn h.2 (near_R h.1.2.1 (box_near hb)), Option.bind_some]
theorem k_add {a1 a2 a3 x y : Int32} (h : INV m ps σ) (hb : gBox (m 0) (m 1) x y = true) (g1 : 0 ≤ a1 ∧ a1 ≤ 3) (g2 : 1 ≤ a2 ∧ a2 ≤ 9) (g3 : 1 ≤ a3 ∧ a3 ≤ 9) (hn : mN m < 30) (hf : mBd m x y = -1) : ∃ τ, fX6_add a1 a2 a3 x y σ = some (0, nI (mN m), τ) ∧ INV (mAdd m a1 a2 a3 x y) (psh m ps) τ ∧ AX σ τ := by
  have ok := h.1.1
  obtain ⟨τ, e1, hI, hF⟩ := k_keep h
  obtain ⟨π, e2, b2, f2⟩ := c_bring ok hI.1.2 (kd := a1) (col := a2) (w := a3) (x := x) (y := y) hn hb
  refine ⟨π, ?_, inv_now hI (ok_add ok hn g1 g2 g3 hb hf) b2 (fun p hp => f2 p (by omega)), fun p hp => by rw [f2 p (by omega), hF p (by omega)]⟩
  rw [k_addOk h.1 hb g1 g2 g3, if_pos (show nI (mN m) < 30 from (dI_lt (b := 30) (by omega) (by omega)).2 hn), if_pos hf, e1, Option.bind_some, e2, Option.bind_some]
theorem k_addMany {a1 a2 a3 x y : Int32} (h : INV m ps σ) (hb : gBox (m 0) (m 1) x y = true) (g1 : 0 ≤ a1 ∧ a1 ≤ 3) (g2 : 1 ≤ a2 ∧ a2 ≤ 9) (g3 : 1 ≤ a3 ∧ a3 ≤ 9) (hn : mN m = 30) : ∃ τ, fX6_add a1 a2 a3 x y σ = some (0, -1, τ) ∧ INV m ps τ ∧ AX σ τ := by
  obtain ⟨τ, e1, hI, hF⟩ := k_refused (r := 1) (by decide) (by decide) h
  refine ⟨τ, ?_, hI, hF⟩
  rw [k_addOk h.1 hb g1 g2 g3, if_neg (by rw [hn]; decide), show (1 : Int32) = nI 1 from rfl, e1, Option.bind_some]
theorem k_addFull {a1 a2 a3 x y : Int32} (h : INV m ps σ) (hb : gBox (m 0) (m 1) x y = true) (g1 : 0 ≤ a1 ∧ a1 ≤ 3) (g2 : 1 ≤ a2 ∧ a2 ≤ 9) (g3 : 1 ≤ a3 ∧ a3 ≤ 9) (hn : mN m < 30) (hf : ¬ mBd m x y = -1) : ∃ τ, fX6_add a1 a2 a3 x y σ = some (0, -2, τ) ∧ INV m ps τ ∧ AX σ τ := by
  obtain ⟨τ, e1, hI, hF⟩ := k_refused (r := 2) (by decide) (by decide) h
  refine ⟨τ, ?_, hI, hF⟩
  rw [k_addOk h.1 hb g1 g2 g3, if_pos (show nI (mN m) < 30 from (dI_lt (b := 30) (by omega) (by omega)).2 hn), if_neg hf, show (2 : Int32) = nI 2 from rfl, e1, Option.bind_some]
theorem k_undo {p : Vc} (h : INV m (p :: ps) σ) : ∃ τ, fX6_undo σ = some (nI ps.length, τ) ∧ INV p ps τ ∧ AX σ τ := by
  obtain ⟨-, e, ⟨e8, u8⟩, ⟨b4, b3⟩, bj⟩ := h
  rw [List.length_cons] at u8 b4
  have hne : ¬ nI (ps.length + 1) = 0 := fun c => by have := (nI_inj (b := 0) (by omega) (by omega)).1 c; omega
  have e7 : (e + 7) % 8 < 8 := Nat.mod_lt _ (by decide)
  obtain ⟨okP, bP⟩ := bj 0 p rfl
  rw [Nat.sub_zero] at bP
  have es : nI (ps.length + 1) - 1 = nI ps.length := nI_subn (i := ps.length + 1) (j := 1) (by omega)
  obtain ⟨τ, e1, g1, g2⟩ := c_copy (σ := su (su σ 0 3 (nI ((e + 7) % 8))) 0 4 (nI ps.length)) (b0 := 25) (b1 := 43 + 9 * ((e + 7) % 8)) (by omega) okP (bx_frame bP (fun p h1 h2 => by rw [su_k (by omega), su_k (by omega)]))
  have t04 : τ 0 4 = nI ps.length := by rw [g2 0 (by omega), su_eq]
  have t03 : τ 0 3 = nI ((e + 7) % 8) := by rw [g2 0 (by omega), su_i (by decide), su_eq]
  have tp : ∀ p, p ≠ 0 → (p < 25 ∨ 33 < p) → τ p = σ p := fun p p0 p1 => by rw [g2 p p1, su_k p0, su_k p0]
  refine ⟨τ, ?_, ⟨⟨okP, g1⟩, (e + 7) % 8, ⟨e7, by omega⟩, ⟨t04, t03⟩, fun j q hq => ?_⟩, fun p hp => tp p (by omega) (by omega)⟩
  · unfold fX6_undo
    rw [b4, if_neg hne, klet_eq, klet_eq, b3, and7' e e8, su_i (show 4 ≠ 3 by decide), b4, es, su_i (show 3 ≠ 4 by decide), su_eq, if_pos (kin_nI e7 (by decide)), nI_n (by omega), e1, Option.bind_some, t04]
  · have hj := (List.getElem?_eq_some_iff.mp hq).1
    obtain ⟨a, b⟩ := bj (j + 1) q (by rw [List.getElem?_cons_succ]; exact hq)
    rw [show ((e + 7) % 8 + 7 - j) % 8 = (e + 7 - (j + 1)) % 8 by omega]
    exact ⟨a, bx_frame b (fun x h1 h2 => tp x (by omega) (by omega))⟩
/-- what slot 0 holds -/
theorem k_save (h : INV m ps σ) : ∃ τ, fX6_save 0 σ = some (0, 0, τ) ∧ INV m ps τ ∧ (τ 3 0 = 1 ∧ BX τ 115 m) ∧ (∀ p, 133 ≤ p → τ p = σ p) := by
  have ok := h.1.1
  obtain ⟨τ, e1, g1, g2⟩ := c_copy (b0 := 115) (b1 := 25) (by omega) ok h.1.2
  have tp : ∀ p, p ≠ 3 → (p < 115 ∨ 115 + 8 < p) → su τ 3 0 1 p = σ p := fun p p0 p1 => by rw [su_k p0, g2 p p1]
  refine ⟨su τ 3 0 1, ?_, ⟨⟨ok, bx_frame h.1.2 (fun p a b => tp p (by omega) (by omega))⟩, rg_of h.2 (fun p hp => tp p (by omega) (by omega))⟩, ⟨su_eq, bx_frame g1 (fun p a b => su_k (by omega))⟩, fun p hp => tp p (by omega) (by omega)⟩
  unfold fX6_save
  rw [k_rng (by decide), Option.bind_some, if_pos rfl, if_pos (by decide), show 115 + 9 * (0 : Int32).toNatClampNeg = 115 from rfl, e1, Option.bind_some, if_pos (by decide), klet_eq]
  rfl
theorem brg_0 (m : Vc) (h : 0 < gHalf (m 0)) : BRG m m 0 := by
  intro x y _
  have : gMap (m 0) 0 (x, y) = (x, y) := by
    unfold gMap
    rw [if_pos h]
    rfl
  rw [this]
theorem k_matches (h : INV m ps σ) (h3 : σ 3 0 = 1) (hb : BX σ 115 m) : ∃ τ, fX6_matches 0 σ = some (0, 0, τ) ∧ CX σ τ := by
  have ok := h.1.1
  have hh := @half_le (m 0)
  obtain ⟨ρ, e1, g1, g2, g3, g4⟩ := k_look h.1
  have bS1 : BX ρ 115 m := bx_frame hb (fun p a b => g4 p (by unfold KP2; omega))
  obtain ⟨ρ2, e2, k1, k2⟩ := c_look (q0 := 14) (b := 115) ok (.inl (by omega)) bS1
  have g1' : PX 7 m ρ2 := by
    unfold PX
    rw [k2 (7 + 1) (by unfold F14; omega), k2 (7 + 2) (by unfold F14; omega), k2 (7 + 3) (by unfold F14; omega), k2 (7 + 4) (by unfold F14; omega)]
    exact g1
  have g3' : LX ρ2 26 (m 0) (m 1) := ⟨by rw [k2 26 (by unfold F14; omega)]; exact g2.1, fun c hc => by rw [k2 (26 + 1) (by unfold F14; omega)]; exact g2.2 c hc⟩
  refine ⟨ρ2, ?_, cx_trans g4 (cx_14 (.inr rfl) k2)⟩
  have hq : fX1_hasSamePicture (115 + 1) 26 σ = true := by
    unfold fX1_hasSamePicture
    have l1 := hb.1.1
    have l2 := h.1.2.1.1
    rw [l1.2.1, l1.2.2, l2.2.1, l2.2.2, if_pos rfl, if_pos rfl]
  unfold fX6_matches fX6_needSaved
  rw [k_rng (by decide), Option.bind_some, if_pos rfl, if_pos (by decide), show (0 : Int32).toNatClampNeg = 0 from rfl, h3, if_neg (by decide), Option.bind_some, if_pos rfl, if_pos (by decide), hq, if_pos rfl, e1, Option.bind_some, e2, Option.bind_some]
  show fX6_matches_L52 0 (3999999 + 1) (nI 0) ρ2 = _
  rw [fX6_matches_L52.eq_2, c_maps g3', if_neg (by rw [dI_le (by omega) (by omega)]; omega), c_brought ok ok (fun _ _ => rfl) g3' k1 g1' (k := 0) (by omega), Option.bind_some, dB_t (brg_0 m (by omega)), if_pos rfl]
  rfl
end K1
