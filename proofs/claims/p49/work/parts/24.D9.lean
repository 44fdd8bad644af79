noncomputable def nCol (m : Vc) (j : Int32) : Int32 := sm (fun k => kb (gNear (m 0) (m 1) (mx k) (my k) && decide (mCol m (mx k) (my k) = j))) 169
theorem pC_kb {m : Vc} {j : Nat} (hj : j < 10) (x y : Int32) : kb (decide (pC m x y = nI j)) = kb (gNear (m 0) (m 1) x y && decide (mCol m x y = nI j)) := by
  unfold pC
  cases gNear (m 0) (m 1) x y
  · simp only [Bool.false_eq_true, if_false, Bool.false_and]
    rw [decide_eq_false (fun c => nI_ne1 (show j < 2147483648 by omega) c.symm)]
  · simp
theorem col_sum {m : Vc} (ok : OKm m) {j : Nat} (hj : j < 10) : sm (fun c => kb (decide (pC m (cx c) (cy c) = nI j))) 225 = nCol m (nI j) := by
  rw [sm_congr (g := fun c => kb (gNear (m 0) (m 1) (cx c) (cy c) && decide (mCol m (cx c) (cy c) = nI j))) (fun c _ => pC_kb hj _ _)]
  rw [sm_grid (G := fun x y => kb (gNear (m 0) (m 1) x y && decide (mCol m x y = nI j))) (fun x y hn => by show kb (gNear (m 0) (m 1) x y && _) = 0; rw [near_nS ok hn]; rfl)]
  rfl
theorem nCol_rng (m : Vc) (j : Int32) : ∃ n, n ≤ 169 ∧ nCol m j = nI n := sm_kb 169 (by decide)
section Q2
variable {σ : Sto} {q b : Nat} {m : Vc}
theorem c_countColour (ok : OKm m) (h : PX q m σ) {j : Nat} (hj : j < 10) : fX3_countColour q (nI j) σ = some (nCol m (nI j)) := by
  unfold fX3_countColour
  rw [if_neg (by have := @nI_lt0 j (by omega); grind), if_neg (show ¬ (10 : Int32) ≤ nI j from fun c => by have := (dI_le (a := 10) (by omega) (by omega)).1 c; omega), if_pos (kin_nI hj (by decide)), nI_n (by omega), h.2 j hj, col_sum ok hj]
theorem lp_134 {τ : Sto} (h : LPic m τ) {k : Nat} (hk : k < 169) : τ 145 k = lC m (mx k) (my k) := h.2 k hk
theorem m_cellsWith (hm : σ 134 = m) (h : LPic m σ) {j : Int32} : fX7_cellsWith j σ = some (nCol m j) := by
  have h1 := sum_loop (L := fun fu w i => fX7_cellsWith_L4 j fu w i σ) (R := some) (f := fun k => kb (gNear (m 0) (m 1) (mx k) (my k) && decide (mCol m (mx k) (my k) = j))) (N := 169) (v := 0) (by decide) (fun fu w i hi => by
    show fX7_cellsWith_L4 j (fu + 1) w (nI i) σ = _
    rw [fX7_cellsWith_L4.eq_2, if_neg (le169 hi), m_picCell, Option.bind_some, if_pos (kn169 hi), nI_n (by omega), lp_134 h hi, hm]
    simp only [fX7_cellsWith_L34, fX7_cellsWith_L35, nI_add1]
    unfold lC
    cases gNear (m 0) (m 1) (mx i) (my i)
    · rw [if_neg (by decide)]; rfl
    · simp only [if_true, Bool.true_and]
      by_cases hc : mCol m (mx i) (my i) = j
      · rw [if_pos hc, decide_eq_true hc]; rfl
      · rw [if_neg hc, decide_eq_false hc]; rfl) (fun fu w => by show fX7_cellsWith_L4 j (fu + 1) w 169 σ = _; rw [fX7_cellsWith_L4.eq_2]; rfl)
  refine h1.trans ?_
  rw [zadd]
  rfl
noncomputable def aheadB (m : Vc) (c k : Int32) : Bool := decide (nCol m c < nCol m k) || (decide (nCol m k = nCol m c) && decide (k < c))
noncomputable def nAhead (m : Vc) (c : Int32) : Int32 := sm (fun i => kb (aheadB m c (nI (i + 1)))) 9
theorem fld_at {α S : Type} {L : Nat → S → Int32 → α} {R : S → α} {g : Nat → S → S} {a N : Nat} (hN : a + N < 2000000) {s0 : S}
    (step : ∀ fu s i, i < N → L (fu + 1) s (nI (a + i)) = L fu (g i s) (nI (a + i + 1))) (stop : ∀ fu s, L (fu + 1) s (nI (a + N)) = R s) : L kFU s0 (nI a) = R (fld g s0 N) := by
  have h : ∀ n i fu, i + n = N → n < fu → L fu (fld g s0 i) (nI (a + i)) = R (fld g s0 N) := by
    intro n
    induction n with
    | zero =>
      intro i fu hi hf
      match fu, hf with
      | fu + 1, _ =>
        have : i = N := by omega
        subst this
        exact stop fu _
    | succ n ih =>
      intro i fu hi hf
      match fu, hf with
      | fu + 1, hf =>
        rw [step fu _ i (by omega)]
        exact ih (i + 1) fu (by omega) (by omega)
  exact h N 0 kFU (by omega) (by unfold kFU; omega)
theorem cnt_sub {m : Vc} {c k : Int32} : (0 < nCol m k - nCol m c ↔ nCol m c < nCol m k) ∧ (nCol m k - nCol m c = 0 ↔ nCol m k = nCol m c) := by
  obtain ⟨a, ha, ea⟩ := nCol_rng m c
  obtain ⟨d, hd, ed⟩ := nCol_rng m k
  rw [ea, ed]
  have h1 : nI a ≤ nI 169 := (dI_le (by omega) (by omega)).2 ha
  have h2 : nI d ≤ nI 169 := (dI_le (by omega) (by omega)).2 hd
  have h3 := @nI_lt0 a (by omega)
  have h4 := @nI_lt0 d (by omega)
  rw [e169] at h1 h2
  constructor
  · constructor <;> intro h <;> grind
  · constructor <;> intro h <;> grind
theorem c_colourRank (ok : OKm m) (h : PX q m σ) {c : Nat} (hc : c < 10) : fX3_colourRank q (nI c) σ = some (nAhead m (nI c)) := by
  have h1 := fld_at (L := fun fu w i => fX3_colourRank_L4 q (nI c) fu w i σ) (R := some) (g := fun i w => w + kb (aheadB m (nI c) (nI (i + 1)))) (a := 1) (N := 9) (s0 := 0) (by decide) (fun fu w i hi => by
    show fX3_colourRank_L4 q (nI c) (fu + 1) w (nI (1 + i)) σ = fX3_colourRank_L4 q (nI c) fu (w + kb (aheadB m (nI c) (nI (i + 1)))) (nI (1 + i + 1)) σ
    rw [show 1 + i = i + 1 by omega]
    rw [fX3_colourRank_L4.eq_2, if_neg (show ¬ (10 : Int32) ≤ nI (i + 1) from fun c => by have := (dI_le (a := 10) (by omega) (by omega)).1 c; omega), c_countColour ok h (show i + 1 < 10 by omega), c_countColour ok h hc, Option.bind_some, Option.bind_some]
    simp only [fX3_colourRank_L38, fX3_colourRank_L41, nI_add1]
    unfold aheadB
    have e := @cnt_sub m (nI c) (nI (i + 1))
    simp only [e.1, e.2]
    by_cases h1 : nCol m (nI c) < nCol m (nI (i + 1))
    · rw [if_pos h1, decide_eq_true h1]; rfl
    · rw [if_neg h1, decide_eq_false h1]
      by_cases h2 : nCol m (nI (i + 1)) = nCol m (nI c)
      · rw [if_pos h2, decide_eq_true h2]
        by_cases h3 : nI c ≤ nI (i + 1)
        · rw [if_pos h3, decide_eq_false (show ¬ nI (i + 1) < nI c by grind)]
          show _ = fX3_colourRank_L4 q (nI c) fu (w + 0) _ σ
          rw [add0]
        · rw [if_neg h3, decide_eq_true (show nI (i + 1) < nI c by grind)]; rfl
      · rw [if_neg h2, decide_eq_false h2]
        show _ = fX3_colourRank_L4 q (nI c) fu (w + 0) _ σ
        rw [add0]) (fun fu w => by show fX3_colourRank_L4 q (nI c) (fu + 1) w 10 σ = _; rw [fX3_colourRank_L4.eq_2]; rfl)
  refine h1.trans ?_
  rw [fld_sm (fun i => kb (aheadB m (nI c) (nI (i + 1)))), zadd]
  rfl
noncomputable def gCom (m : Vc) (rank : Int32) : Nat → Nat → Int32
  | 0, _ => -1
  | n + 1, c => if 0 < nCol m (nI c) ∧ nAhead m (nI c) = rank then nI c else gCom m rank n (c + 1)
theorem c_commonest_L (ok : OKm m) (h : PX q m σ) {rank : Int32} (n : Nat) : ∀ (c fu : Nat), c + n = 10 → n < fu → fX3_commonestColour_L2 q rank fu (nI c) σ = some (gCom m rank n c) := by
  induction n with
  | zero =>
    intro c fu hc hf
    match fu, hf with
    | fu + 1, _ =>
      have : c = 10 := by omega
      subst this
      rw [fX3_commonestColour_L2.eq_2]
      rfl
  | succ n ih =>
    intro c fu hc hf
    match fu, hf with
    | fu + 1, hf =>
      rw [fX3_commonestColour_L2.eq_2, if_neg (show ¬ (10 : Int32) ≤ nI c from fun k => by have := (dI_le (a := 10) (by omega) (by omega)).1 k; omega), if_pos (kin_nI (by omega) (by decide)), nI_n (by omega), h.2 c (by omega), col_sum ok (by omega)]
      simp only [fX3_commonestColour_L28, nI_add1, c_colourRank ok h (show c < 10 by omega), Option.bind_some, ih (c + 1) fu (by omega) (by omega)]
      rw [gCom.eq_2]
      by_cases h1 : nCol m (nI c) ≤ 0
      · rw [if_pos h1, if_neg (fun k => by have := k.1; grind)]
      · rw [if_neg h1]
        by_cases h2 : nAhead m (nI c) = rank
        · rw [if_pos h2, if_pos ⟨by grind, h2⟩]
        · rw [if_neg h2, if_neg (fun k => h2 k.2)]
theorem c_commonest (ok : OKm m) (h : PX q m σ) {rank : Int32} : fX3_commonestColour q rank σ = some (gCom m rank 9 1) :=
  c_commonest_L ok h 9 1 kFU rfl (by unfold kFU; omega)
theorem m_ahead (hm : σ 134 = m) (h : LPic m σ) {rank : Int32} {c : Nat} (hc : c < 10) {K : Int32 → Sto → Option (Int32 × Sto)} : fX7_commonest_L40 rank K kFU (nI c) (nCol m (nI c)) 0 (nI 1) σ = if nCol m (nI c) ≤ 0 then K (nI (c + 1)) σ else if nAhead m (nI c) = rank then some (nI c, σ) else K (nI (c + 1)) σ := by
  have h1 := fld_at (L := fun fu w i => fX7_commonest_L40 rank K fu (nI c) (nCol m (nI c)) w i σ) (R := fun w => if nCol m (nI c) ≤ 0 then K (nI (c + 1)) σ else if w = rank then some (nI c, σ) else K (nI (c + 1)) σ) (g := fun i w => w + kb (aheadB m (nI c) (nI (i + 1)))) (a := 1) (N := 9) (s0 := 0) (by decide) (fun fu w i hi => by
    show fX7_commonest_L40 rank K (fu + 1) (nI c) (nCol m (nI c)) w (nI (1 + i)) σ = fX7_commonest_L40 rank K fu (nI c) (nCol m (nI c)) (w + kb (aheadB m (nI c) (nI (i + 1)))) (nI (1 + i + 1)) σ
    rw [show 1 + i = i + 1 by omega]
    rw [fX7_commonest_L40.eq_2, if_neg (show ¬ (9 : Int32) < nI (i + 1) from fun c => by have := (dI_lt (a := 9) (by omega) (by omega)).1 c; omega), m_cellsWith hm h, Option.bind_some, Option.bind_some]
    simp only [fX7_commonest_L75, fX7_commonest_L79, fX7_commonest_L80, nI_add1]
    unfold aheadB
    by_cases h1 : nCol m (nI c) < nCol m (nI (i + 1))
    · rw [if_pos h1, decide_eq_true h1]; rfl
    · rw [if_neg h1, decide_eq_false h1]
      by_cases h2 : nCol m (nI (i + 1)) = nCol m (nI c)
      · rw [if_pos h2, decide_eq_true h2]
        by_cases h3 : nI c ≤ nI (i + 1)
        · rw [if_pos h3, decide_eq_false (show ¬ nI (i + 1) < nI c by grind)]; rfl
        · rw [if_neg h3, decide_eq_true (show nI (i + 1) < nI c by grind)]; rfl
      · rw [if_neg h2, decide_eq_false h2]; rfl) (fun fu w => by
    show fX7_commonest_L40 rank K (fu + 1) (nI c) (nCol m (nI c)) w (nI 10) σ = _
    rw [fX7_commonest_L40.eq_2, if_pos (show (9 : Int32) < nI 10 by decide)]
    simp only [fX7_commonest_L104, nI_add1])
  refine h1.trans ?_
  rw [fld_sm (fun i => kb (aheadB m (nI c) (nI (i + 1)))), zadd]
  rfl
theorem m_commonest_L (hm : σ 134 = m) (h : LPic m σ) {rank : Int32} (n : Nat) : ∀ (c fu : Nat), c + n = 10 → n < fu → fX7_commonest_L22 rank fu (nI c) σ = some (gCom m rank n c, σ) := by
  induction n with
  | zero =>
    intro c fu hc hf
    match fu, hf with
    | fu + 1, _ =>
      have : c = 10 := by omega
      subst this
      rw [fX7_commonest_L22.eq_2]
      rfl
  | succ n ih =>
    intro c fu hc hf
    match fu, hf with
    | fu + 1, hf =>
      rw [fX7_commonest_L22.eq_2, if_neg (show ¬ (9 : Int32) < nI c from fun k => by have := (dI_lt (a := 9) (by omega) (by omega)).1 k; omega), m_cellsWith hm h, Option.bind_some]
      refine (m_ahead (K := fX7_commonest_L22 rank fu) hm h (show c < 10 by omega)).trans ?_
      rw [ih (c + 1) fu (by omega) (by omega)]
      rw [gCom.eq_2]
      by_cases h1 : nCol m (nI c) ≤ 0
      · rw [if_pos h1, if_neg (fun k => by have := k.1; grind)]
      · rw [if_neg h1]
        by_cases h2 : nAhead m (nI c) = rank
        · rw [if_pos h2, if_pos ⟨by grind, h2⟩]
        · rw [if_neg h2, if_neg (fun k => h2 k.2)]
theorem m_commonest (hm : σ 134 = m) (h : LPic m σ) {rank : Int32} : fX7_commonest_L22 rank kFU 1 σ = some (gCom m rank 9 1, σ) :=
  m_commonest_L hm h 9 1 kFU rfl (by unfold kFU; omega)
end Q2
def gBr (keep : Int32) (n : Nat) : Int32 := fld (fun _ v => v * keep / 100) 1000 n
def mBr (m : Vc) (x y : Int32) : Int32 := match mSee m x y with | none => 0 | some s => gBr (m 3) s.1
section Q3
variable {σ : Sto} {q b : Nat} {m : Vc}
theorem c_bright {c : Nat} (ok : OKm m) (hk : σ b 2 = m 3) (hc : c < 225) (h : σ (q + 2) c = mRef m (cx c) (cy c)) : fX3_brightnessOf q b (nI c) σ = some (mBr m (cx c) (cy c)) := by
  have hcell : fX1_isCell (nI c) = true := by
    have := cell_is (cxy_in hc)
    rw [cxy_at hc] at this
    exact this
  unfold fX3_brightnessOf fX3_reflectionsOf mBr
  rw [if_pos hcell, if_pos (kn225 hc), nI_n (by omega), h, Option.bind_some]
  unfold mRef
  cases hs : mSee m (cx c) (cy c) with
  | none => rfl
  | some s =>
    simp only
    have h6 := see_far' ok hs
    rw [if_neg (nI_ne1 (by omega))]
    exact fld_loop (L := fun fu w i => fX3_brightnessOf_L21 q b (nI c) fu (nI s.1) w i σ) (R := some) (g := fun _ v => v * m 3 / 100) (N := s.1) (s0 := 1000) (by omega) (fun fu w i hi => by
      show fX3_brightnessOf_L21 q b (nI c) (fu + 1) (nI s.1) w (nI i) σ = _
      rw [fX3_brightnessOf_L21.eq_2, if_neg (by rw [dI_le (by omega) (by omega)]; omega), hk, nI_add1]) (fun fu w => by
      show fX3_brightnessOf_L21 q b (nI c) (fu + 1) (nI s.1) w (nI s.1) σ = _
      rw [fX3_brightnessOf_L21.eq_2, if_pos (by grind)])
theorem m_bright {k : Nat} (ok : OKm m) (hm : σ 134 = m) (hk : k < 169) (h : SEEN m σ) : fX7_brightnessOf (nI k) σ = some (mBr m (mx k) (my k)) := by
  have h1 := h k hk
  unfold fX7_brightnessOf mBr
  rw [if_pos (kn169 hk), nI_n (by omega)]
  cases hs : mSee m (mx k) (my k) with
  | none =>
    rw [hs] at h1
    simp only at h1
    rw [if_pos h1]
  | some s =>
    rw [hs] at h1
    simp only at h1 ⊢
    have h6 := see_far' ok hs
    rw [h1.1, if_neg (nI_ne1 (by omega))]
    exact fld_loop (L := fun fu w i => fX7_brightnessOf_L18 (nI k) fu w i σ) (R := some) (g := fun _ v => v * m 3 / 100) (N := s.1) (s0 := 1000) (by omega) (fun fu w i hi => by
      show fX7_brightnessOf_L18 (nI k) (fu + 1) w (nI i) σ = _
      rw [fX7_brightnessOf_L18.eq_2, if_pos (kn169 hk), nI_n (by omega), h1.1, if_neg (by rw [dI_le (by omega) (by omega)]; omega)]
      simp only [w3, z3, if_true, hm, nI_add1]) (fun fu w => by
      show fX7_brightnessOf_L18 (nI k) (fu + 1) w (nI s.1) σ = _
      rw [fX7_brightnessOf_L18.eq_2, if_pos (kn169 hk), nI_n (by omega), h1.1, if_pos (by grind)])
noncomputable def lgt (m : Vc) (x y : Int32) : Int32 := if gNear (m 0) (m 1) x y = true ∧ mCol m x y ≠ 0 then mBr m x y else 0
noncomputable def nLight (m : Vc) : Int32 := sm (fun k => lgt m (mx k) (my k)) 169
noncomputable def nBri (m : Vc) : Int32 := sm (fun k => mBr m (mx k) (my k)) 169
theorem c_light (ok : OKm m) (hk : σ b 2 = m 3) (h : PX q m σ) : fX3_sumOfBrightness q b 1 σ = some (nLight m) := by
  have h1 := sum_loop (L := fun fu w i => fX3_sumOfBrightness_L5 q b 1 fu w i σ) (R := some) (f := fun c => lgt m (cx c) (cy c)) (N := 225) (v := 0) (by decide) (fun fu w i hi => by
    show fX3_sumOfBrightness_L5 q b 1 (fu + 1) w (nI i) σ = _
    rw [fX3_sumOfBrightness_L5.eq_2, if_neg (le225 hi), if_neg (show ¬ (1 : Int32) = 0 by decide), if_pos (kn225 hi), nI_n (by omega), (h.1 i hi).2.2]
    simp only [fX3_sumOfBrightness_L37, fX3_sumOfBrightness_L27, nI_add1, c_bright ok hk hi (h.1 i hi).2.1, Option.bind_some]
    unfold pC lgt
    have hr := mCol_rng ok (cx i) (cy i)
    cases gNear (m 0) (m 1) (cx i) (cy i)
    · rw [if_pos (show (if false = true then mCol m (cx i) (cy i) else -1) ≤ 0 by rw [if_neg Bool.false_ne_true]; decide), if_neg (fun c => Bool.false_ne_true c.1), add0]
    · rw [if_pos rfl]
      by_cases h0 : mCol m (cx i) (cy i) = 0
      · rw [if_pos (by rw [h0]; decide), if_neg (fun c => c.2 h0), add0]
      · rw [if_neg (by grind), if_pos ⟨rfl, h0⟩]) (fun fu w => by show fX3_sumOfBrightness_L5 q b 1 (fu + 1) w 225 σ = _; rw [fX3_sumOfBrightness_L5.eq_2]; rfl)
  refine h1.trans ?_
  rw [zadd, sm_grid (G := fun x y => lgt m x y) (fun x y hn => by show lgt m x y = 0; unfold lgt; rw [near_nS ok hn]; simp)]
  rfl
theorem c_bri (ok : OKm m) (hk : σ b 2 = m 3) (h : PX q m σ) : fX3_sumOfBrightness q b 0 σ = some (nBri m) := by
  have h1 := sum_loop (L := fun fu w i => fX3_sumOfBrightness_L5 q b 0 fu w i σ) (R := some) (f := fun c => mBr m (cx c) (cy c)) (N := 225) (v := 0) (by decide) (fun fu w i hi => by
    show fX3_sumOfBrightness_L5 q b 0 (fu + 1) w (nI i) σ = _
    rw [fX3_sumOfBrightness_L5.eq_2, if_neg (le225 hi), if_pos rfl]
    simp only [fX3_sumOfBrightness_L37, fX3_sumOfBrightness_L27, nI_add1, c_bright ok hk hi (h.1 i hi).2.1, Option.bind_some]) (fun fu w => by show fX3_sumOfBrightness_L5 q b 0 (fu + 1) w 225 σ = _; rw [fX3_sumOfBrightness_L5.eq_2]; rfl)
  refine h1.trans ?_
  rw [zadd, sm_grid (G := fun x y => mBr m x y) (fun x y hn => by show mBr m x y = 0; unfold mBr; rw [seen_S ok hn])]
  rfl
theorem m_light_L (ok : OKm m) (hm : σ 134 = m) (h : LPic m σ) : fX7_light_L13 kFU 0 0 σ = some (nLight m, σ) := by
  have h1 := sum_loop (L := fun fu w i => fX7_light_L13 fu w i σ) (R := fun w => some (w, σ)) (f := fun c => lgt m (mx c) (my c)) (N := 169) (v := 0) (by decide) (fun fu w i hi => by
    show fX7_light_L13 (fu + 1) w (nI i) σ = _
    rw [fX7_light_L13.eq_2, if_neg (le169 hi), m_picCell, Option.bind_some, if_pos (kn169 hi), nI_n (by omega), lp_134 h hi, hm]
    simp only [fX7_light_L46, fX7_light_L47, nI_add1, m_bright ok hm hi h.1, Option.bind_some]
    unfold lC lgt
    cases gNear (m 0) (m 1) (mx i) (my i)
    · rw [if_neg (by decide), if_neg (by simp)]
    · rw [if_pos rfl, if_pos rfl]
      by_cases h0 : mCol m (mx i) (my i) = 0
      · rw [if_pos h0, if_neg (fun c => c.2 h0)]
      · rw [if_neg h0, if_pos ⟨rfl, h0⟩]) (fun fu w => by show fX7_light_L13 (fu + 1) w 169 σ = _; rw [fX7_light_L13.eq_2]; rfl)
  refine h1.trans ?_
  rw [zadd]
  rfl
theorem m_mean_L (ok : OKm m) (hm : σ 134 = m) (h : SEEN m σ) {v : Int32} (hv : v ≠ 0) : fX7_meanBrightness_L14 kFU v 0 0 σ = some (FP.ddiv (FP.i2d (nBri m)) (FP.i2d v), σ) := by
  have h1 := sum_loop (L := fun fu w i => fX7_meanBrightness_L14 fu v w i σ) (R := fun w => some (FP.ddiv (FP.i2d w) (FP.i2d v), σ)) (f := fun c => mBr m (mx c) (my c)) (N := 169) (v := 0) (by decide) (fun fu w i hi => by
    show fX7_meanBrightness_L14 (fu + 1) v w (nI i) σ = _
    rw [fX7_meanBrightness_L14.eq_2, if_neg (le169 hi), m_bright ok hm hi h, Option.bind_some, nI_add1]) (fun fu w => by show fX7_meanBrightness_L14 (fu + 1) v w 169 σ = _; rw [fX7_meanBrightness_L14.eq_2, if_pos (by decide), if_neg hv])
  refine h1.trans ?_
  rw [zadd]
  rfl
end Q3
