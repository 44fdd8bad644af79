/-! the class's calls, told by the state alone: m is what the box is now -/
def KP2 (p : Nat) : Prop := p = 0 ∨ (3 ≤ p ∧ p ≤ 6) ∨ (23 ≤ p ∧ p ≤ 33) ∨ 43 ≤ p
/-- nothing of the box, its past and its slots was written -/
def CX (σ τ : Sto) : Prop := ∀ p, KP2 p → τ p = σ p
def NW (m : Vc) (σ : Sto) : Prop := OKm m ∧ BX σ 25 m
section K0
variable {σ τ ρ : Sto} {m : Vc}
theorem cx_refl : CX σ σ := fun _ _ => rfl
theorem cx_trans (h : CX σ τ) (h' : CX τ ρ) : CX σ ρ := fun p hp => by rw [h' p hp, h p hp]
theorem cx_14 {q : Nat} (hq : q = 7 ∨ q = 14) (h : ∀ p, F14 q p → τ p = σ p) : CX σ τ := fun p hp => h p (by unfold F14; unfold KP2 at hp; omega)
theorem cx_56 (h : ∀ p, F56 7 p → τ p = σ p) : CX σ τ := fun p hp => h p (by unfold F56; unfold KP2 at hp; omega)
theorem cx_fq (h : FQ 34 21 σ τ) : CX σ τ := fun p hp => h p (by unfold KP2 at hp; omega) (by unfold KP2 at hp; omega) (by unfold KP2 at hp; omega)
theorem cx_34 (h : ∀ p, (p < 34 ∨ 34 + 8 < p) → τ p = σ p) : CX σ τ := fun p hp => h p (by unfold KP2 at hp; omega)
theorem cx_setP {c : Nat} {v w : Int32} : CX σ (setP σ 7 c v w) := fun p hp => setP_k (by unfold KP2 at hp; omega) (by unfold KP2 at hp; omega)
theorem nw_cx (h : NW m σ) (hf : CX σ τ) : NW m τ := ⟨h.1, bx_frame h.2 (fun p a b => hf p (by unfold KP2; omega))⟩
theorem k_rng {a lo hi : Int32} (h : fX7_isIn a lo hi = true) : fX6_needRange a lo hi σ = some 0 := by rw [isIn_kb, if_pos h]
theorem k_r0 {k hi : Nat} {H : Int32} (hH : H = nI hi) (hh : hi < 1000) (h : k ≤ hi) : fX6_needRange (nI k) 0 H σ = some 0 := by
  subst hH
  exact k_rng (isIn_iff.2 ⟨nI_lt0 (by omega), (dI_le (by omega) (by omega)).2 h⟩)
theorem in_1 {k hi : Nat} {H : Int32} (hH : H = nI hi) (hh : hi < 1000) (h1 : 1 ≤ k) (h : k ≤ hi) : fX7_isIn (nI k) 1 H = true := by
  subst hH
  exact isIn_iff.2 ⟨(dI_le (a := 1) (by omega) (by omega)).2 h1, (dI_le (by omega) (by omega)).2 h⟩
theorem k_needP (h : NW m σ) {x y : Int32} (hn : gNear (m 0) (m 1) x y = true) : fX6_neededPictureCell x y σ = some (0, fX1_cellAt x y) := by
  unfold fX6_neededPictureCell
  rw [c_picCell h.2.1 h.1.2.1, Option.bind_some, hn, if_pos rfl, if_neg (cell_ne1 (near_R h.1.2.1 hn))]
theorem k_needB (h : NW m σ) {x y : Int32} (hn : gBox (m 0) (m 1) x y = true) : fX6_neededBoxCell x y σ = some (0, fX1_cellAt x y) := by
  unfold fX6_neededBoxCell
  rw [c_boxCell h.2.1 h.1.2.1, Option.bind_some, hn, if_pos rfl, if_neg (cell_ne1 (near_R h.1.2.1 (box_near hn)))]
theorem k_look (h : NW m σ) : ∃ ρ, fX3_look 7 25 σ = some ρ ∧ PX 7 m ρ ∧ LX ρ 26 (m 0) (m 1) ∧ ρ 25 = σ 25 ∧ CX σ ρ := by
  obtain ⟨ρ, e, h1, h2⟩ := c_look (q0 := 7) h.1 (.inl (by decide)) h.2
  exact ⟨ρ, e, h1, (bx_frame h.2 (fun p a b => h2 p (by unfold F14; omega))).1, h2 25 (by unfold F14; omega), cx_14 (.inl rfl) h2⟩
theorem k_trace (h : NW m σ) {x y : Int32} (hn : gNear (m 0) (m 1) x y = true) : fX3_trace 7 25 (fX1_cellAt x y) σ = some (setP σ 7 (ci x y) (mSrc m x y) (mRef m x y)) := c_trace h.1 h.2 (.inl (by decide)) hn
theorem k_colour (h : NW m σ) {x y : Int32} (hn : gNear (m 0) (m 1) x y = true) : ∃ τ, fX6_colour x y σ = some (0, mCol m x y, τ) ∧ CX σ τ := by
  have hR := near_R h.1.2.1 hn
  refine ⟨setP σ 7 (ci x y) (mSrc m x y) (mRef m x y), ?_, cx_setP⟩
  unfold fX6_colour
  rw [k_needP h hn, Option.bind_some, if_pos rfl, k_trace h hn, Option.bind_some]
  unfold fX3_sourceOf
  rw [if_pos (cell_is hR), if_pos (cell_kin hR), ci_e, Option.bind_some, setP_1, if_pos rfl, c_colourOn h.1 (nw_cx h cx_setP).2, Option.bind_some]
theorem k_reflections (h : NW m σ) {x y : Int32} (hn : gNear (m 0) (m 1) x y = true) : ∃ τ, fX6_reflections x y σ = some (0, mRef m x y, τ) ∧ CX σ τ := by
  have hR := near_R h.1.2.1 hn
  refine ⟨setP σ 7 (ci x y) (mSrc m x y) (mRef m x y), ?_, cx_setP⟩
  unfold fX6_reflections
  rw [k_needP h hn, Option.bind_some, if_pos rfl, k_trace h hn, Option.bind_some]
  unfold fX3_reflectionsOf
  rw [if_pos (cell_is hR), if_pos (cell_kin hR), ci_e, Option.bind_some, setP_2, if_pos rfl]
theorem k_source (h : NW m σ) {x y a : Int32} (hn : gNear (m 0) (m 1) x y = true) : ∃ τ, fX6_source x y a σ = some (0, fX6_told (mSrc m x y) a, τ) ∧ CX σ τ := by
  have hR := near_R h.1.2.1 hn
  refine ⟨setP σ 7 (ci x y) (mSrc m x y) (mRef m x y), ?_, cx_setP⟩
  unfold fX6_source
  rw [k_needP h hn, Option.bind_some, if_pos rfl, k_trace h hn, Option.bind_some]
  unfold fX3_sourceOf
  rw [if_pos (cell_is hR), if_pos (cell_kin hR), ci_e, Option.bind_some, setP_1, if_pos rfl]
theorem k_brightness (h : NW m σ) {x y : Int32} (hn : gNear (m 0) (m 1) x y = true) : ∃ τ, fX6_brightness x y σ = some (0, mBr m x y, τ) ∧ CX σ τ := by
  have hR := near_R h.1.2.1 hn
  refine ⟨setP σ 7 (ci x y) (mSrc m x y) (mRef m x y), ?_, cx_setP⟩
  unfold fX6_brightness
  rw [k_needP h hn, Option.bind_some, if_pos rfl, k_trace h hn, Option.bind_some]
  have hb := @c_bright (setP σ 7 (ci x y) (mSrc m x y) (mRef m x y)) 7 25 m (ci x y) h.1 (by rw [@cx_setP σ (ci x y) (mSrc m x y) (mRef m x y) 25 (by unfold KP2; omega)]; exact h.2.2.1.2.1) (ci_lt hR) (by rw [setP_2, if_pos rfl, cx_ci hR, cy_ci hR])
  rw [cx_ci hR, cy_ci hR, ci_nI hR] at hb
  rw [hb, Option.bind_some]
theorem k_images (h : NW m σ) {x y : Int32} (hn : gBox (m 0) (m 1) x y = true) : ∃ τ, fX6_images x y σ = some (0, nImg m x y, τ) ∧ CX σ τ := by
  have hR := near_R h.1.2.1 (box_near hn)
  obtain ⟨ρ, e1, g1, g2, g3, g4⟩ := k_look h
  refine ⟨ρ, ?_, g4⟩
  unfold fX6_images
  rw [k_needB h hn, Option.bind_some, if_pos rfl, e1, Option.bind_some, c_imagesOf h.1 g1 hR, Option.bind_some]
theorem k_chipAt (h : NW m σ) {x y : Int32} (hn : gBox (m 0) (m 1) x y = true) : fX6_chipAt x y σ = some (0, mBd m x y) := by
  have hR := near_R h.1.2.1 (box_near hn)
  unfold fX6_chipAt
  rw [k_needB h hn, Option.bind_some, if_pos rfl, c_chipOn h.2 hR, Option.bind_some]
theorem k_cellsOf (h : NW m σ) {k : Nat} (hk : k < 10) : ∃ τ, fX6_cellsOf (nI k) σ = some (0, nCol m (nI k), τ) ∧ CX σ τ := by
  obtain ⟨ρ, e1, g1, g2, g3, g4⟩ := k_look h
  refine ⟨ρ, ?_, g4⟩
  unfold fX6_cellsOf fX6_cellsNow
  rw [k_r0 (H := 9) (hi := 9) rfl (by decide) (by omega), Option.bind_some, if_pos rfl, e1, Option.bind_some, c_countColour h.1 g1 hk, Option.bind_some, Option.bind_some]
theorem k_commonest (h : NW m σ) : ∃ τ, fX6_commonest 0 σ = some (0, gCom m 0 9 1, τ) ∧ CX σ τ := by
  obtain ⟨ρ, e1, g1, g2, g3, g4⟩ := k_look h
  refine ⟨ρ, ?_, g4⟩
  unfold fX6_commonest
  rw [k_rng (by decide), Option.bind_some, if_pos rfl, e1, Option.bind_some, c_commonest h.1 g1, Option.bind_some]
theorem k_regions (h : NW m σ) {k : Nat} (hk : k < 10) : ∃ τ, fX6_regions (nI k) σ = some (0, nI (nRegs m (nI k)), τ) ∧ CX σ τ := by
  obtain ⟨ρ, e1, g1, g2, g3, g4⟩ := k_look h
  obtain ⟨ρ2, e2, g5⟩ := c_countRegions (q := 7) (q1 := 26) (col := nI k) h.1 (nI_lt0 (by omega)) ⟨by decide, by decide, by decide, by decide⟩ g2 (px_pxc g1)
  refine ⟨ρ2, ?_, cx_trans g4 (cx_56 g5)⟩
  unfold fX6_regions
  rw [k_r0 (H := 9) (hi := 9) rfl (by decide) (by omega), Option.bind_some, if_pos rfl, e1, Option.bind_some, e2, Option.bind_some]
theorem k_edges (h : NW m σ) : ∃ τ, fX6_edges σ = some (nEd m, τ) ∧ CX σ τ := by
  obtain ⟨ρ, e1, g1, g2, g3, g4⟩ := k_look h
  refine ⟨ρ, ?_, g4⟩
  unfold fX6_edges
  rw [e1, Option.bind_some, c_edges h.1 g2 g1, Option.bind_some]
theorem k_light (h : NW m σ) : ∃ τ, fX6_light σ = some (nLight m, τ) ∧ CX σ τ := by
  obtain ⟨ρ, e1, g1, g2, g3, g4⟩ := k_look h
  refine ⟨ρ, ?_, g4⟩
  unfold fX6_light
  rw [e1, Option.bind_some, c_light h.1 (by rw [g3]; exact h.2.2.1.2.1) g1, Option.bind_some]
theorem k_symmetries (h : NW m σ) : ∃ τ, fX6_symmetries σ = some (gSym m (2 * gHalf (m 0)), τ) ∧ CX σ τ := by
  obtain ⟨ρ, e1, g1, g2, g3, g4⟩ := k_look h
  refine ⟨ρ, ?_, g4⟩
  unfold fX6_symmetries
  rw [e1, Option.bind_some, c_mapsOf h.1 g2 g1, Option.bind_some]
theorem k_cellsNow (h : NW m σ) {k : Nat} (hk : k < 10) : ∃ τ, fX6_cellsNow (nI k) σ = some (nCol m (nI k), τ) ∧ CX σ τ := by
  obtain ⟨ρ, e1, g1, g2, g3, g4⟩ := k_look h
  refine ⟨ρ, ?_, g4⟩
  unfold fX6_cellsNow
  rw [e1, Option.bind_some, c_countColour h.1 g1 hk, Option.bind_some]
theorem k_seenNow (h : NW m σ) : ∃ τ, fX6_seenNow σ = some (nSeen m, τ) ∧ CX σ τ := by
  obtain ⟨ρ, e1, g1, g2, g3, g4⟩ := k_look h
  refine ⟨ρ, ?_, g4⟩
  unfold fX6_seenNow
  rw [e1, Option.bind_some, c_countSeen h.1 g1, Option.bind_some]
theorem k_chip (h : NW m σ) {k : Nat} (hk : k < mN m) {v : Nat} (hv : v ≤ 5) : fX6_chip (nI k) (nI v) σ = some (0, chipV m k v) := by
  have hn := came_le h.1
  have ok := h.1
  unfold fX6_chip
  rcases chip_cases h.1 (nI k) with ⟨j, h1, h2, h3⟩ | ⟨h1, h2⟩
  · rw [c_needChip h.1 h.2, h3, if_pos rfl, Option.bind_some, if_pos rfl, k_r0 (H := 5) (hi := 5) rfl (by decide) (by omega), Option.bind_some, if_pos rfl, c_kindOf ok h.2 hk, c_colourOf ok h.2 hk, c_weightOf ok h.2 hk, c_cellOf ok h.2 hk, c_ownMovesOf ok h.2 hk]
    simp only [Option.bind_some]
    rw [told_m ok hk (w := 3) (.inl ⟨rfl, rfl⟩), told_m ok hk (w := 4) (.inr ⟨rfl, rfl⟩)]
    match v, hv with
    | 0, _ => rfl
    | 1, _ => rfl
    | 2, _ => rfl
    | 3, _ => rfl
    | 4, _ => rfl
    | 5, _ => rfl
  · exfalso
    rcases h1 with h1 | h1
    · have := @nI_lt0 k (by omega); grind
    · rw [came_eq ok] at h1
      have := (dI_le (by omega) (by omega)).1 h1
      omega

theorem k_count_0 (h : NW m σ) : fX6_count 0 σ = some (0, m 0, σ) := by
  unfold fX6_count
  rw [k_rng (by decide), Option.bind_some, if_pos rfl, if_pos rfl, h.2.1.1.1]
theorem k_count_1 (h : NW m σ) : fX6_count 1 σ = some (0, m 1, σ) := by
  unfold fX6_count
  rw [k_rng (by decide), Option.bind_some, if_pos rfl, if_neg (show ¬ (1 : Int32) = 0 by decide), if_pos rfl, h.2.1.1.2.1]
theorem k_count_2 (h : NW m σ) : fX6_count 2 σ = some (0, m 2, σ) := by
  unfold fX6_count
  rw [k_rng (by decide), Option.bind_some, if_pos rfl, if_neg (show ¬ (2 : Int32) = 0 by decide), if_neg (show ¬ (2 : Int32) = 1 by decide), if_pos rfl, h.2.2.1.1]
theorem k_count_3 (h : NW m σ) : fX6_count 3 σ = some (0, m 3, σ) := by
  unfold fX6_count
  rw [k_rng (by decide), Option.bind_some, if_pos rfl, if_neg (show ¬ (3 : Int32) = 0 by decide), if_neg (show ¬ (3 : Int32) = 1 by decide), if_neg (show ¬ (3 : Int32) = 2 by decide), if_pos rfl, h.2.2.1.2.1]
theorem k_count_4 (h : NW m σ) : fX6_count 4 σ = some (0, m 4, σ) := by
  unfold fX6_count
  rw [k_rng (by decide), Option.bind_some, if_pos rfl, if_neg (show ¬ (4 : Int32) = 0 by decide), if_neg (show ¬ (4 : Int32) = 1 by decide), if_neg (show ¬ (4 : Int32) = 2 by decide), if_neg (show ¬ (4 : Int32) = 3 by decide), if_pos rfl, h.2.2.1.2.2.1]
theorem k_count_5 (h : NW m σ) : fX6_count 5 σ = some (0, m 5, σ) := by
  unfold fX6_count
  rw [k_rng (by decide), Option.bind_some, if_pos rfl, if_neg (show ¬ (5 : Int32) = 0 by decide), if_neg (show ¬ (5 : Int32) = 1 by decide), if_neg (show ¬ (5 : Int32) = 2 by decide), if_neg (show ¬ (5 : Int32) = 3 by decide), if_neg (show ¬ (5 : Int32) = 4 by decide), if_pos rfl, h.2.2.1.2.2.2.2.2.2.2]
theorem k_count_6 (h : NW m σ) : fX6_count 6 σ = some (0, nIns m, σ) := by
  unfold fX6_count
  rw [k_rng (by decide), Option.bind_some, if_pos rfl, if_neg (show ¬ (6 : Int32) = 0 by decide), if_neg (show ¬ (6 : Int32) = 1 by decide), if_neg (show ¬ (6 : Int32) = 2 by decide), if_neg (show ¬ (6 : Int32) = 3 by decide), if_neg (show ¬ (6 : Int32) = 4 by decide), if_neg (show ¬ (6 : Int32) = 5 by decide), if_pos rfl, c_chipsInBox h.1 h.2, Option.bind_some]
theorem k_count_7 (h : NW m σ) : fX6_count 7 σ = some (0, nBox m, σ) := by
  unfold fX6_count
  rw [k_rng (by decide), Option.bind_some, if_pos rfl, if_neg (show ¬ (7 : Int32) = 0 by decide), if_neg (show ¬ (7 : Int32) = 1 by decide), if_neg (show ¬ (7 : Int32) = 2 by decide), if_neg (show ¬ (7 : Int32) = 3 by decide), if_neg (show ¬ (7 : Int32) = 4 by decide), if_neg (show ¬ (7 : Int32) = 5 by decide), if_neg (show ¬ (7 : Int32) = 6 by decide), if_pos rfl, c_boxCells h.1 h.2.1, Option.bind_some]
theorem k_count_8 (h : NW m σ) : fX6_count 8 σ = some (0, nPic m, σ) := by
  unfold fX6_count
  rw [k_rng (by decide), Option.bind_some, if_pos rfl, if_neg (show ¬ (8 : Int32) = 0 by decide), if_neg (show ¬ (8 : Int32) = 1 by decide), if_neg (show ¬ (8 : Int32) = 2 by decide), if_neg (show ¬ (8 : Int32) = 3 by decide), if_neg (show ¬ (8 : Int32) = 4 by decide), if_neg (show ¬ (8 : Int32) = 5 by decide), if_neg (show ¬ (8 : Int32) = 6 by decide), if_neg (show ¬ (8 : Int32) = 7 by decide), if_pos rfl, c_pictureCells h.1 h.2.1, Option.bind_some]
theorem k_count_10 (h : NW m σ) : fX6_count 10 σ = some (0, m 6, σ) := by
  unfold fX6_count
  rw [k_rng (by decide), Option.bind_some, if_pos rfl, if_neg (show ¬ (10 : Int32) = 0 by decide), if_neg (show ¬ (10 : Int32) = 1 by decide), if_neg (show ¬ (10 : Int32) = 2 by decide), if_neg (show ¬ (10 : Int32) = 3 by decide), if_neg (show ¬ (10 : Int32) = 4 by decide), if_neg (show ¬ (10 : Int32) = 5 by decide), if_neg (show ¬ (10 : Int32) = 6 by decide), if_neg (show ¬ (10 : Int32) = 7 by decide), if_neg (show ¬ (10 : Int32) = 8 by decide), if_neg (show ¬ (10 : Int32) = 9 by decide), if_pos rfl, h.2.2.1.2.2.2.1]
theorem k_count_11 (h : NW m σ) : fX6_count 11 σ = some (0, m 7, σ) := by
  unfold fX6_count
  rw [k_rng (by decide), Option.bind_some, if_pos rfl, if_neg (show ¬ (11 : Int32) = 0 by decide), if_neg (show ¬ (11 : Int32) = 1 by decide), if_neg (show ¬ (11 : Int32) = 2 by decide), if_neg (show ¬ (11 : Int32) = 3 by decide), if_neg (show ¬ (11 : Int32) = 4 by decide), if_neg (show ¬ (11 : Int32) = 5 by decide), if_neg (show ¬ (11 : Int32) = 6 by decide), if_neg (show ¬ (11 : Int32) = 7 by decide), if_neg (show ¬ (11 : Int32) = 8 by decide), if_neg (show ¬ (11 : Int32) = 9 by decide), if_neg (show ¬ (11 : Int32) = 10 by decide), if_pos rfl, h.2.2.1.2.2.2.2.1]
theorem k_count_14 (h : NW m σ) : fX6_count 14 σ = some (0, nI (gDirs (m 0)), σ) := by
  unfold fX6_count
  rw [k_rng (by decide), Option.bind_some, if_pos rfl, if_neg (show ¬ (14 : Int32) = 0 by decide), if_neg (show ¬ (14 : Int32) = 1 by decide), if_neg (show ¬ (14 : Int32) = 2 by decide), if_neg (show ¬ (14 : Int32) = 3 by decide), if_neg (show ¬ (14 : Int32) = 4 by decide), if_neg (show ¬ (14 : Int32) = 5 by decide), if_neg (show ¬ (14 : Int32) = 6 by decide), if_neg (show ¬ (14 : Int32) = 7 by decide), if_neg (show ¬ (14 : Int32) = 8 by decide), if_neg (show ¬ (14 : Int32) = 9 by decide), if_neg (show ¬ (14 : Int32) = 10 by decide), if_neg (show ¬ (14 : Int32) = 11 by decide), if_neg (show ¬ (14 : Int32) = 12 by decide), if_neg (show ¬ (14 : Int32) = 13 by decide), if_pos rfl, c_dirs h.2.1]
theorem k_count_9 (h : NW m σ) : ∃ τ, fX6_count 9 σ = some (0, nSeen m, τ) ∧ CX σ τ := by
  obtain ⟨τ, e, f⟩ := k_seenNow h
  refine ⟨τ, ?_, f⟩
  unfold fX6_count
  rw [k_rng (by decide), Option.bind_some, if_pos rfl, if_neg (show ¬ (9 : Int32) = 0 by decide), if_neg (show ¬ (9 : Int32) = 1 by decide), if_neg (show ¬ (9 : Int32) = 2 by decide), if_neg (show ¬ (9 : Int32) = 3 by decide), if_neg (show ¬ (9 : Int32) = 4 by decide), if_neg (show ¬ (9 : Int32) = 5 by decide), if_neg (show ¬ (9 : Int32) = 6 by decide), if_neg (show ¬ (9 : Int32) = 7 by decide), if_neg (show ¬ (9 : Int32) = 8 by decide), if_pos rfl, e, Option.bind_some]
theorem k_ownMaps (h : NW m σ) : fX6_ownMaps σ = gOwn (m 0) := by
  have h0 : σ 26 0 = m 0 := h.2.1.1.1
  unfold fX6_ownMaps fX1_mapsByMirrors gOwn
  rw [h0]
theorem k_trial (h : NW m σ) : ∃ τ, fX5_copyFrom 34 25 σ = some τ ∧ BX τ 34 m ∧ CX σ τ := by
  obtain ⟨τ, e, a, b⟩ := c_copy (b0 := 34) (b1 := 25) (by omega) h.1 h.2
  exact ⟨τ, e, a, cx_34 (fun p hp => b p (by omega))⟩
theorem k_next (h : NW m σ) : ∃ τ, fX6_movesOfNextTick σ = some (nI (mTkN m), τ) ∧ BX τ 34 (mTk m) ∧ CX σ τ := by
  obtain ⟨τ, e1, a1, f1⟩ := k_trial h
  obtain ⟨ρ, e2, a2, f2⟩ := c_tick h.1 (q0 := 21) (.inl (by decide)) a1
  refine ⟨ρ, ?_, a2, cx_trans f1 (cx_fq f2)⟩
  unfold fX6_movesOfNextTick
  rw [e1, Option.bind_some, e2, Option.bind_some]
theorem k_moves (h : NW m σ) : ∃ τ, fX6_moves σ = some (nI (mTkN m), τ) ∧ CX σ τ := by
  obtain ⟨τ, e, _, f⟩ := k_next h
  refine ⟨τ, ?_, f⟩
  unfold fX6_moves
  rw [e, Option.bind_some]
theorem mSet_facts (ok : OKm m) : OKm (mSet' m).2 ∧ Geo m (mSet' m).2 ∧ Same m (mSet' m).2 := ⟨(rest_facts 721 m ok).1, (rest_facts 721 m ok).2.2.1, (rest_facts 721 m ok).2.2.2⟩
theorem k_restsAt (h : NW m σ) {k : Nat} (hk : k < mN m) (h6 : mC m k 6 = 1) {w : Int32} : ∃ τ, fX6_restsAt (nI k) w σ = some (0, (if w = 0 then mC (mSet' m).2 k 3 else mC (mSet' m).2 k 4), τ) ∧ CX σ τ := by
  have ok := h.1
  have hn := came_le ok
  obtain ⟨τ, e1, a1, f1⟩ := k_trial h
  obtain ⟨ρ, e2, a2, f2⟩ := c_settle ok a1
  obtain ⟨okS, hG, hS⟩ := mSet_facts ok
  have hkS : k < mN (mSet' m).2 := by rw [geo_N hG]; exact hk
  have h6S : mC (mSet' m).2 k 6 = 1 := by rw [hS k 6 (by omega)]; exact h6
  refine ⟨ρ, ?_, cx_trans f1 (cx_fq f2)⟩
  unfold fX6_restsAt
  rcases chip_cases ok (nI k) with ⟨j, h1, h2, h3⟩ | ⟨h1, h2⟩
  · rw [c_needChip ok h.2, h3, if_pos rfl, Option.bind_some, if_pos rfl, c_cellOf ok h.2 hk, Option.bind_some, if_neg (fun c => (mCell_no ok hk).1 c h6), e1, Option.bind_some, e2, Option.bind_some, c_cellOf okS a2 hkS, Option.bind_some, mCell_in h6S, told_cell (ok_in okS hkS h6S)]
  · exfalso
    rcases h1 with h1 | h1
    · have := @nI_lt0 k (by omega); grind
    · rw [came_eq ok] at h1
      have := (dI_le (by omega) (by omega)).1 h1
      omega
theorem turn_0 (ok : OKm m) : mTurn m 0 = m := by
  unfold mTurn
  rw [Nat.add_zero, Nat.mod_eq_of_lt ok.2.2.1.2]
  funext i
  unfold vset
  split
  · rename_i hi; rw [hi]; exact ok.2.2.1.1.symm
  · rfl
/-- what the class tells of the rest it would come to -/
noncomputable def sv0 (m : Vc) (v : Nat) : Int32 := sVal m 0 v
theorem mS_0 (ok : OKm m) : mS m 0 = mSet' m := by unfold mS; rw [turn_0 ok]
theorem k_settled (h : NW m σ) {v : Nat} (hv : v ≤ 4) : ∃ τ, fX6_settled 0 (nI v) σ = some (0, sVal m 0 v, τ) ∧ CX σ τ := by
  have ok := h.1
  obtain ⟨τ, e1, a1, f1⟩ := k_trial h
  obtain ⟨t1, b1⟩ := c_turnBy ok a1 (s := 0) (by decide)
  obtain ⟨ρ, e2, b2, f2⟩ := c_settle (ok_turn ok 0) b1
  have okS : OKm (mS m 0).2 := (mS_facts ok 0).1
  obtain ⟨π, e3, g1, g2⟩ := c_look (q0 := 7) (b := 34) okS (.inl (by decide)) b2
  have f1' : CX τ (su τ 34 1 (nI ((mD m + 0) % gDirs (m 0)))) := fun p hp => su_k (by unfold KP2 at hp; omega)
  have fA : CX σ π := cx_trans f1 (cx_trans f1' (cx_trans (cx_fq f2) (cx_14 (.inl rfl) g2)))
  have hb : BX π 34 (mS m 0).2 := bx_frame b2 (fun p x y => g2 p (by unfold F14; omega))
  have h7 : π 25 5 = m 7 := by rw [fA 25 (by unfold KP2; omega)]; exact h.2.2.1.2.2.2.2.1
  have hl34 : LX π 35 ((mS m 0).2 0) ((mS m 0).2 1) := hb.1
  unfold fX6_settled
  rw [k_rng (by decide), Option.bind_some, if_pos rfl, k_r0 (H := 5) (hi := 5) rfl (by decide) (by omega), Option.bind_some, if_pos rfl, e1, Option.bind_some, Option.bind_some, show fX5_turnBy 34 0 τ = _ from t1, e2, Option.bind_some]
  show ∃ τ', (fX3_look 7 34 ρ).bind _ = _ ∧ _
  rw [e3, Option.bind_some]
  match v, hv with
  | 0, _ => rw [if_pos (show nI 0 = 0 by decide)]; exact ⟨π, rfl, fA⟩
  | 1, _ =>
    rw [if_neg (show ¬ nI 1 = 0 by decide), if_pos (show nI 1 = 1 by decide), bx5 hb, h7]
    exact ⟨π, rfl, fA⟩
  | 2, _ =>
    rw [if_neg (show ¬ nI 2 = 0 by decide), if_neg (show ¬ nI 2 = 1 by decide), if_pos (show nI 2 = 2 by decide)]
    obtain ⟨ω, e5, g5⟩ := c_countRegions (q := 7) (q1 := 35) (col := 0) okS (by decide) ⟨by decide, by decide, by decide, by decide⟩ hl34 (px_pxc g1)
    rw [e5, Option.bind_some]
    exact ⟨ω, rfl, cx_trans fA (cx_56 g5)⟩
  | 3, _ =>
    rw [if_neg (show ¬ nI 3 = 0 by decide), if_neg (show ¬ nI 3 = 1 by decide), if_neg (show ¬ nI 3 = 2 by decide), if_pos (show nI 3 = 3 by decide), c_edges okS hl34 g1, Option.bind_some]
    exact ⟨π, rfl, fA⟩
  | 4, _ =>
    rw [if_neg (show ¬ nI 4 = 0 by decide), if_neg (show ¬ nI 4 = 1 by decide), if_neg (show ¬ nI 4 = 2 by decide), if_neg (show ¬ nI 4 = 3 by decide), if_pos (show nI 4 = 4 by decide), c_mapsOf okS hl34 g1, Option.bind_some]
    exact ⟨π, rfl, fA⟩
end K0

