theorem all_loop {α : Type} {L : Nat → Int32 → α} {T F : α} {P : Nat → Prop} {N : Nat} (hN : N < 2000000)
    (st : ∀ fu i, i < N → P i → L (fu + 1) (nI i) = L fu (nI (i + 1))) (sf : ∀ fu i, i < N → ¬ P i → L (fu + 1) (nI i) = F) (stop : ∀ fu, L (fu + 1) (nI N) = T) :
    ((∀ i, i < N → P i) → L kFU (nI 0) = T) ∧ ((¬ ∀ i, i < N → P i) → L kFU (nI 0) = F) := by
  have h : ∀ n i fu, i + n = N → n < fu → (∀ j, j < i → P j) → ((∀ i, i < N → P i) → L fu (nI i) = T) ∧ ((¬ ∀ i, i < N → P i) → L fu (nI i) = F) := by
    intro n
    induction n with
    | zero =>
      intro i fu hi hf hp
      match fu, hf with
      | fu + 1, _ =>
        have : i = N := by omega
        subst this
        exact ⟨fun _ => stop fu, fun c => absurd hp c⟩
    | succ n ih =>
      intro i fu hi hf hp
      match fu, hf with
      | fu + 1, hf =>
        by_cases hpi : P i
        · rw [st fu i (by omega) hpi]
          exact ih (i + 1) fu (by omega) (by omega) (fun j hj => by
            by_cases e : j = i
            · subst e; exact hpi
            · exact hp j (by omega))
        · rw [sf fu i (by omega) hpi]
          exact ⟨fun c => absurd (c i (by omega)) hpi, fun _ => rfl⟩
  exact h N 0 kFU (by omega) (by unfold kFU; omega) (fun j hj => absurd hj (by omega))
noncomputable def dB (p : Prop) : Bool := haveI := Classical.propDecidable p; decide p
theorem dB_t {p : Prop} (h : p) : dB p = true := @decide_eq_true p (Classical.propDecidable p) h
theorem dB_f {p : Prop} (h : ¬ p) : dB p = false := @decide_eq_false p (Classical.propDecidable p) h
/-- the map k brings each cell of the picture of m1 to one of that of m2 with the same colour -/
def BRG (m1 m2 : Vc) (k : Nat) : Prop := ∀ x y, gNear (m2 0) (m2 1) x y = true → mCol m1 x y = mCol m2 (gMap (m2 0) k (x, y)).1 (gMap (m2 0) k (x, y)).2
def sameN (m1 m2 : Vc) : Prop := ∀ x y, gNear (m1 0) (m1 1) x y = gNear (m2 0) (m2 1) x y
theorem brg_c {m1 m2 : Vc} (ok : OKm m2) {k : Nat} : BRG m1 m2 k ↔ ∀ c, c < 225 → gNear (m2 0) (m2 1) (cx c) (cy c) = true → mCol m1 (cx c) (cy c) = mCol m2 (gMap (m2 0) k (cx c, cy c)).1 (gMap (m2 0) k (cx c, cy c)).2 := by
  constructor
  · intro h c _ hn
    exact h _ _ hn
  · intro h x y hn
    have hR := near_R ok.2.1 hn
    have := h (ci x y) (ci_lt hR)
    rw [cx_ci hR, cy_ci hR] at this
    exact this hn
theorem brg_m {m1 m2 : Vc} (ok : OKm m2) {k : Nat} : BRG m1 m2 k ↔ ∀ c, c < 169 → gNear (m2 0) (m2 1) (mx c) (my c) = true → mCol m1 (mx c) (my c) = mCol m2 (gMap (m2 0) k (mx c, my c)).1 (gMap (m2 0) k (mx c, my c)).2 := by
  constructor
  · intro h c _ hn
    exact h _ _ hn
  · intro h x y hn
    have hS := near_S ok.2.1 hn
    have := h (mk x y) (mk_lt hS)
    rw [mx_mk hS, my_mk hS] at this
    exact this hn
section Q4
variable {σ : Sto} {q q1 q2 : Nat} {m m1 m2 : Vc}
theorem c_picColour (ok : OKm m) (h : PX q m σ) {x y : Int32} (hR : inR x y) : fX3_colourOf q (fX1_cellAt x y) σ = some (pC m x y) := by
  unfold fX3_colourOf
  rw [if_pos (cell_is hR), if_pos (cell_kin hR)]
  have := (h.1 (ci x y) (ci_lt hR)).2.2
  rw [cx_ci hR, cy_ci hR] at this
  rw [ci_e, this]
theorem c_brought (ok1 : OKm m1) (ok : OKm m2) (hs : sameN m1 m2) (hl : LX σ q2 (m2 0) (m2 1)) (h1 : PX q m1 σ) (h2 : PX q1 m2 σ) {k : Nat} (hk : k < 2 * gHalf (m2 0)) : fX3_isBroughtTo q q1 q2 (nI k) σ = some (dB (BRG m1 m2 k)) := by
  have h := all_loop (L := fun fu i => fX3_isBroughtTo_L3 q q1 q2 (nI k) fu i σ) (T := some true) (F := some false) (N := 225) (P := fun c => gNear (m2 0) (m2 1) (cx c) (cy c) = true → mCol m1 (cx c) (cy c) = mCol m2 (gMap (m2 0) k (cx c, cy c)).1 (gMap (m2 0) k (cx c, cy c)).2) (by decide)
    (fun fu i hi hP => by
      show fX3_isBroughtTo_L3 q q1 q2 (nI k) (fu + 1) (nI i) σ = _
      rw [fX3_isBroughtTo_L3.eq_2, if_neg (le225 hi), if_pos (kn225 hi), nI_n (by omega), (h1.1 i hi).2.2]
      simp only [fX3_isBroughtTo_L45, nI_add1]
      unfold pC
      rw [hs]
      cases hn : gNear (m2 0) (m2 1) (cx i) (cy i) with
      | false => rw [if_pos (by rfl)]
      | true =>
        have hm := c_map hl ok.1 ok.2.1 hk hn
        rw [cxy_at hi] at hm
        have hnm := near_map (k := k) ok.1 ok.2.1 (p := (cx i, cy i)) hn
        have hr := mCol_rng ok1 (cx i) (cy i)
        rw [if_pos rfl, if_neg (by grind), if_pos (kn225 hi), hm, Option.bind_some, c_picColour ok h2 (near_R ok.2.1 hnm), Option.bind_some]
        unfold pC
        rw [hnm, if_pos rfl, if_pos (hP hn)])
    (fun fu i hi hP => by
      show fX3_isBroughtTo_L3 q q1 q2 (nI k) (fu + 1) (nI i) σ = _
      rw [fX3_isBroughtTo_L3.eq_2, if_neg (le225 hi), if_pos (kn225 hi), nI_n (by omega), (h1.1 i hi).2.2]
      simp only [fX3_isBroughtTo_L45, nI_add1]
      unfold pC
      rw [hs]
      cases hn : gNear (m2 0) (m2 1) (cx i) (cy i) with
      | false => exact absurd (fun c => by rw [hn] at c; cases c) hP
      | true =>
        have hm := c_map hl ok.1 ok.2.1 hk hn
        rw [cxy_at hi] at hm
        have hnm := near_map (k := k) ok.1 ok.2.1 (p := (cx i, cy i)) hn
        have hr := mCol_rng ok1 (cx i) (cy i)
        rw [if_pos rfl, if_neg (by grind), if_pos (kn225 hi), hm, Option.bind_some, c_picColour ok h2 (near_R ok.2.1 hnm), Option.bind_some]
        unfold pC
        rw [hnm, if_pos rfl, if_neg (fun c => hP (fun _ => c))])
    (fun fu => by show fX3_isBroughtTo_L3 q q1 q2 (nI k) (fu + 1) 225 σ = _; rw [fX3_isBroughtTo_L3.eq_2]; rfl)
  rw [← brg_c ok] at h
  by_cases hb : BRG m1 m2 k
  · rw [dB_t hb]; exact h.1 hb
  · rw [dB_f hb]; exact h.2 hb
/-- the store, but for what stands(x, y) writes -/
def MS (σ τ : Sto) : Prop := (∀ p, p ≠ 133 → τ p = σ p) ∧ ∀ i, i ≠ 10 → i ≠ 11 → τ 133 i = σ 133 i
theorem ms_refl : MS σ σ := ⟨fun _ _ => rfl, fun _ _ _ => rfl⟩
theorem ms_mst {τ : Sto} {p : Int32 × Int32} (h : MS σ τ) : MS σ (mst τ p) := ⟨fun q hq => by rw [mst_of hq, h.1 q hq], fun i h1 h2 => by rw [mst_133 h1 h2, h.2 i h1 h2]⟩
theorem ms_trans {τ ρ : Sto} (h : MS σ τ) (h' : MS τ ρ) : MS σ ρ := ⟨fun q hq => by rw [h'.1 q hq, h.1 q hq], fun i h1 h2 => by rw [h'.2 i h1 h2, h.2 i h1 h2]⟩
theorem m_brings_L (ok : OKm m2) (hf : ∀ c, c < 169 → gNear (m2 0) (m2 1) (mx c) (my c) = true → σ q c = mCol m1 (mx c) (my c)) (ht : ∀ c, c < 169 → σ q1 c = lC m2 (mx c) (my c)) (hm : σ 134 = m2) (hq : q ≠ 133 ∧ q1 ≠ 133) {k : Nat} (hk : k < 2 * gHalf (m2 0)) (n : Nat) : ∀ (i fu : Nat) (τ : Sto), i + n = 169 → n < fu → MS σ τ →
    ∃ ρ bb, fX7_brings_L6 (nI k) q 169 q1 169 fu 1 (nI i) τ = some (bb, ρ) ∧ MS σ ρ ∧ (bb = true ↔ ∀ c, i ≤ c → c < 169 → gNear (m2 0) (m2 1) (mx c) (my c) = true → mCol m1 (mx c) (my c) = mCol m2 (gMap (m2 0) k (mx c, my c)).1 (gMap (m2 0) k (mx c, my c)).2) := by
  induction n with
  | zero =>
    intro i fu τ hi hfu hM
    match fu, hfu with
    | fu + 1, _ =>
      have : i = 169 := by omega
      subst this
      rw [fX7_brings_L6.eq_2, if_pos (by decide), if_pos (by decide)]
      exact ⟨τ, true, rfl, hM, ⟨fun _ c h1 h2 => absurd h2 (by omega), fun _ => rfl⟩⟩
  | succ n ih =>
    intro i fu τ hi hfu hM
    match fu, hfu with
    | fu + 1, hfu =>
      have hi2 : i < 169 := by omega
      have e134 : τ 134 = m2 := by rw [hM.1 134 (by decide), hm]
      rw [fX7_brings_L6.eq_2, if_neg (le169 hi2), if_neg (show ¬ (1 : Int32) = 0 by decide), m_picCell, Option.bind_some, e134]
      simp only [fX7_brings_L77, fX7_brings_L75, nI_add1]
      cases hn : gNear (m2 0) (m2 1) (mx i) (my i) with
      | false =>
        rw [if_neg Bool.false_ne_true]
        obtain ⟨ρ, bb, e, h1, h2⟩ := ih (i + 1) fu τ (by omega) (by omega) hM
        refine ⟨ρ, bb, e, h1, h2.trans ⟨fun h c c1 c2 c3 => ?_, fun h c c1 c2 c3 => h c (by omega) c2 c3⟩⟩
        by_cases hc : c = i
        · subst hc; rw [hn] at c3; cases c3
        · exact h c (by omega) c2 c3
      | true =>
        have hnm := near_map (k := k) ok.1 ok.2.1 (p := (mx i, my i)) hn
        have hS := near_S ok.2.1 hnm
        have e0 : some (fX7_stands (fX7_xOf (nI i)) (fX7_yOf (nI i)) τ) = some (mst τ (mx i, my i)) := rfl
        rw [if_pos rfl, e0, Option.bind_some, m_maps (by rw [e134]; exact hk), Option.bind_some, if_pos (kn169 hi2), nI_n (by omega), e134, mst_px, mst_py, if_pos (mcell_kin hS)]
        rw [show (fX7_cell (gMap (m2 0) k (mx i, my i)).1 (gMap (m2 0) k (mx i, my i)).2).toNatClampNeg = mk (gMap (m2 0) k (mx i, my i)).1 (gMap (m2 0) k (mx i, my i)).2 from rfl]
        rw [mst_of hq.1, mst_of hq.2, hM.1 q hq.1, hM.1 q1 hq.2, hf i hi2 hn, ht _ (mk_lt hS), mx_mk hS, my_mk hS]
        unfold lC
        rw [hnm, if_pos rfl]
        by_cases he : mCol m1 (mx i) (my i) = mCol m2 (gMap (m2 0) k (mx i, my i)).1 (gMap (m2 0) k (mx i, my i)).2
        · rw [if_pos he]
          obtain ⟨ρ, bb, e, h1, h2⟩ := ih (i + 1) fu (mst τ (gMap (m2 0) k (mx i, my i))) (by omega) (by omega) (ms_mst hM)
          refine ⟨ρ, bb, e, h1, h2.trans ⟨fun h c c1 c2 c3 => ?_, fun h c c1 c2 c3 => h c (by omega) c2 c3⟩⟩
          by_cases hc : c = i
          · subst hc; exact he
          · exact h c (by omega) c2 c3
        · rw [if_neg he]
          match fu, hfu with
          | fu + 1, _ =>
            rw [fX7_brings_L6.eq_2]
            refine ⟨mst τ (gMap (m2 0) k (mx i, my i)), false, ?_, ms_mst hM, ⟨Bool.noConfusion, fun h => absurd (h i (Nat.le_refl _) hi2 hn) he⟩⟩
            split
            · rw [if_pos (by decide)]; rfl
            · rw [if_pos rfl, if_pos (by decide)]; rfl
theorem m_brings (ok : OKm m2) (hf : ∀ c, c < 169 → gNear (m2 0) (m2 1) (mx c) (my c) = true → σ q c = mCol m1 (mx c) (my c)) (ht : ∀ c, c < 169 → σ q1 c = lC m2 (mx c) (my c)) (hm : σ 134 = m2) (hq : q ≠ 133 ∧ q1 ≠ 133) {k : Nat} (hk : k < 2 * gHalf (m2 0)) :
    ∃ ρ, fX7_brings (nI k) q 169 q1 169 σ = some (dB (BRG m1 m2 k), ρ) ∧ MS σ ρ := by
  obtain ⟨ρ, bb, e, h1, h2⟩ := m_brings_L ok hf ht hm hq hk 169 0 kFU σ (by omega) (by unfold kFU; omega) ms_refl
  refine ⟨ρ, ?_, h1⟩
  unfold fX7_brings
  have : bb = dB (BRG m1 m2 k) := by
    have h3 : bb = true ↔ BRG m1 m2 k := by
      rw [h2, brg_m ok]
      exact ⟨fun h c c1 => h c (by omega) c1, fun h c _ c1 => h c c1⟩
    by_cases hb : BRG m1 m2 k
    · rw [dB_t hb]; exact h3.2 hb
    · rw [dB_f hb]
      cases hbb : bb with
      | false => rfl
      | true => exact absurd (h3.1 hbb) hb
  rw [← this]
  exact e
noncomputable def gSym (m : Vc) (n : Nat) : Int32 := fld (fun i v => v ||| (if dB (BRG m m i) = true then 1 <<< (nI i &&& 31) else 0)) 0 n
theorem or0 (x : Int32) : x ||| 0 = x := by
  apply Int32.toBitVec_inj.1
  rw [Int32.toBitVec_or]
  exact BitVec.or_zero
theorem c_mapsOf (ok : OKm m) (hl : LX σ q1 (m 0) (m 1)) (h : PX q m σ) : fX6_mapsOf q q1 σ = some (gSym m (2 * gHalf (m 0))) := by
  have hh := @half_le (m 0)
  exact fld_loop (L := fun fu v i => fX6_mapsOf_L4 q q1 fu v i σ) (R := some) (N := 2 * gHalf (m 0)) (s0 := 0) (by omega) (fun fu v i hi => by
    show fX6_mapsOf_L4 q q1 (fu + 1) v (nI i) σ = _
    rw [fX6_mapsOf_L4.eq_2, c_maps hl, if_neg (by rw [dI_le (by omega) (by omega)]; omega), c_brought ok ok (fun _ _ => rfl) hl h h hi, Option.bind_some]
    simp only [fX6_mapsOf_L28, nI_add1]
    split
    · rfl
    · rw [or0]) (fun fu v => by
    show fX6_mapsOf_L4 q q1 (fu + 1) v (nI _) σ = _
    rw [fX6_mapsOf_L4.eq_2, c_maps hl, if_pos (by grind)])
theorem two_half {a : Int32} : 2 * nI (gHalf a) = nI (2 * gHalf a) := by
  unfold gHalf
  split <;> decide
theorem lp_ms {τ : Sto} (h : LPic m σ) (hM : MS σ τ) : LPic m τ := by
  refine ⟨fun k hk => ?_, fun k hk => by rw [hM.1 145 (by decide)]; exact h.2 k hk⟩
  have := h.1 k hk
  unfold StK at *
  rw [hM.1 143 (by decide), hM.1 144 (by decide)]
  exact this
theorem m_symNow (ok : OKm m) (hm : σ 134 = m) (h : LPic m σ) : ∃ ρ, fX7_symmetriesNow σ = some (gSym m (2 * gHalf (m 0)), ρ) ∧ MS σ ρ := by
  have hh := @half_le (m 0)
  have hL : ∀ n i fu τ, i + n = 2 * gHalf (m 0) → n < fu → MS σ τ → ∃ ρ, fX7_symmetriesNow_L4 fu (gSym m i) (nI i) τ = some (gSym m (2 * gHalf (m 0)), ρ) ∧ MS σ ρ := by
    intro n
    induction n with
    | zero =>
      intro i fu τ hi hf hM
      match fu, hf with
      | fu + 1, _ =>
        have : i = 2 * gHalf (m 0) := by omega
        subst this
        rw [fX7_symmetriesNow_L4.eq_2, m_half, Option.bind_some, hM.1 134 (by decide), hm, two_half, if_pos (by grind)]
        exact ⟨τ, rfl, hM⟩
    | succ n ih =>
      intro i fu τ hi hf hM
      match fu, hf with
      | fu + 1, hf =>
        have hlp := lp_ms h hM
        have e134 : τ 134 = m := by rw [hM.1 134 (by decide), hm]
        obtain ⟨ρ, e, hM2⟩ := m_brings (σ := τ) (q := 145) (q1 := 145) (m1 := m) (m2 := m) (k := i) ok (fun c hc hn => by rw [hlp.2 c hc]; unfold lC; rw [hn, if_pos rfl]) hlp.2 e134 ⟨by decide, by decide⟩ (show i < 2 * gHalf (m 0) by omega)
        rw [fX7_symmetriesNow_L4.eq_2, m_half, Option.bind_some, e134, two_half, if_neg (by rw [dI_le (by omega) (by omega)]; omega), e, Option.bind_some]
        simp only [fX7_symmetriesNow_L38, nI_add1]
        have hi1 := ih (i + 1) fu ρ (by omega) (by omega) (ms_trans hM hM2)
        have e5 : gSym m (i + 1) = gSym m i ||| (if dB (BRG m m i) = true then 1 <<< (nI i &&& 31) else 0) := rfl
        rw [e5] at hi1
        cases hb : dB (BRG m m i) with
        | true => rw [hb, if_pos rfl] at hi1; rw [if_pos rfl]; exact hi1
        | false => rw [hb, if_neg Bool.false_ne_true] at hi1; rw [if_neg Bool.false_ne_true]; exact hi1
  exact hL (2 * gHalf (m 0)) 0 kFU σ (by omega) (by unfold kFU; omega) ms_refl
end Q4
/-- edges at a cell -/
noncomputable def edB (m : Vc) (x y : Int32) (d : Nat) : Bool := gNear (m 0) (m 1) x y && (gNear (m 0) (m 1) (x + gSX (m 0) d) (y + gSY (m 0) d) && (!decide (mCol m x y = 0) && (!decide (mCol m (x + gSX (m 0) d) (y + gSY (m 0) d) = 0) && !decide (mCol m x y = mCol m (x + gSX (m 0) d) (y + gSY (m 0) d)))))
noncomputable def ed (m : Vc) (x y : Int32) : Int32 := sm (fun d => kb (edB m x y d)) (gDirs (m 0) / 2)
noncomputable def nEd (m : Vc) : Int32 := sm (fun k => ed m (mx k) (my k)) 169
theorem sm_zero {f : Nat → Int32} {n : Nat} (h : ∀ i, i < n → f i = 0) : sm f n = 0 := by
  induction n with
  | zero => rfl
  | succ n ih =>
    show sm f n + f n = 0
    rw [ih (fun i hi => h i (by omega)), h n (by omega)]
    rfl
theorem dirs_half {a : Int32} : nI (gDirs a) / 2 = nI (gDirs a / 2) := by
  unfold gDirs
  split <;> decide
theorem dirs_le {a : Int32} : 6 ≤ gDirs a ∧ gDirs a ≤ 8 := by unfold gDirs; split <;> decide
section Q5
variable {σ : Sto} {q q1 : Nat} {m : Vc}
theorem c_edges_c (ok : OKm m) (hl : LX σ q1 (m 0) (m 1)) (h : PX q m σ) {c : Nat} (hc : c < 225) {v : Int32} {K : Int32 → Int32 → Int32 → Sto → Option Int32} :
    fX3_countEdges_L23 q q1 K kFU v (nI (gDirs (m 0) / 2)) (nI c) 0 σ = K (v + ed m (cx c) (cy c)) (nI (gDirs (m 0) / 2)) (nI (c + 1)) σ := by
  have hd := @dirs_le (m 0)
  by_cases hp : pC m (cx c) (cy c) ≤ 0
  · have e0 : ed m (cx c) (cy c) = 0 := by
      refine sm_zero (fun d _ => ?_)
      unfold edB
      unfold pC at hp
      cases hn : gNear (m 0) (m 1) (cx c) (cy c) with
      | false => rfl
      | true =>
        rw [hn, if_pos rfl] at hp
        have hr := mCol_rng ok (cx c) (cy c)
        rw [decide_eq_true (show mCol m (cx c) (cy c) = 0 by grind)]
        simp
        rfl
    have : kFU = 3999999 + 1 := rfl
    rw [this, fX3_countEdges_L23.eq_2, if_neg (show ¬ nI (gDirs (m 0) / 2) ≤ (0 : Int32) by rw [show (0 : Int32) = nI 0 from rfl, dI_le (by omega) (by omega)]; omega), if_pos (kn225 hc), nI_n (by omega), (h.1 c hc).2.2, if_pos hp, e0, add0]
    simp only [fX3_countEdges_L79, nI_add1]
  · have hn : gNear (m 0) (m 1) (cx c) (cy c) = true := by
      unfold pC at hp
      cases hn : gNear (m 0) (m 1) (cx c) (cy c) with
      | true => rfl
      | false => rw [hn, if_neg Bool.false_ne_true] at hp; exact absurd (show (-1 : Int32) ≤ 0 by decide) hp
    have hpc : pC m (cx c) (cy c) = mCol m (cx c) (cy c) := by unfold pC; rw [hn, if_pos rfl]
    refine sum_loop (L := fun fu v d => fX3_countEdges_L23 q q1 K fu v (nI (gDirs (m 0) / 2)) (nI c) d σ) (R := fun v => K v (nI (gDirs (m 0) / 2)) (nI (c + 1)) σ) (f := fun d => kb (edB m (cx c) (cy c) d)) (N := gDirs (m 0) / 2) (by omega) (fun fu v d hdd => ?_) (fun fu v => ?_)
    · show fX3_countEdges_L23 q q1 K (fu + 1) v (nI (gDirs (m 0) / 2)) (nI c) (nI d) σ = _
      have hnb := c_picNb hl ok.2.1 (show d < gDirs (m 0) by omega) hn
      rw [cxy_at hc] at hnb
      rw [fX3_countEdges_L23.eq_2, if_neg (by rw [dI_le (by omega) (by omega)]; omega), if_pos (kn225 hc), nI_n (by omega), (h.1 c hc).2.2, if_neg hp, hnb, Option.bind_some]
      simp only [fX3_countEdges_L73, nI_add1]
      unfold edB
      rw [hn, hpc]
      rw [hpc] at hp
      rw [decide_eq_false (show ¬ mCol m (cx c) (cy c) = 0 by grind)]
      cases hn2 : gNear (m 0) (m 1) (cx c + gSX (m 0) d) (cy c + gSY (m 0) d) with
      | false =>
        rw [if_neg Bool.false_ne_true]
        show (some (-1)).bind _ = fX3_countEdges_L23 q q1 K fu (v + 0) _ _ _ σ
        rw [Option.bind_some, if_pos (show (-1 : Int32) ≤ 0 by decide), add0]
      | true =>
        have hp2 : pC m (cx c + gSX (m 0) d) (cy c + gSY (m 0) d) = mCol m (cx c + gSX (m 0) d) (cy c + gSY (m 0) d) := by unfold pC; rw [hn2, if_pos rfl]
        have hr2 := mCol_rng ok (cx c + gSX (m 0) d) (cy c + gSY (m 0) d)
        rw [if_pos rfl, c_picColour ok h (near_R ok.2.1 hn2), Option.bind_some, hp2]
        by_cases h0 : mCol m (cx c + gSX (m 0) d) (cy c + gSY (m 0) d) = 0
        · rw [if_pos (by rw [h0]; decide), decide_eq_true h0]
          show _ = fX3_countEdges_L23 q q1 K fu (v + 0) _ _ _ σ
          rw [add0]
        · rw [if_neg (by grind), decide_eq_false h0, if_pos (kn225 hc)]
          by_cases he : mCol m (cx c) (cy c) = mCol m (cx c + gSX (m 0) d) (cy c + gSY (m 0) d)
          · rw [if_pos he.symm, decide_eq_true he]
            show _ = fX3_countEdges_L23 q q1 K fu (v + 0) _ _ _ σ
            rw [add0]
          · rw [if_neg (fun c => he c.symm), decide_eq_false he]
            rfl
    · show fX3_countEdges_L23 q q1 K (fu + 1) v (nI (gDirs (m 0) / 2)) (nI c) (nI (gDirs (m 0) / 2)) σ = _
      rw [fX3_countEdges_L23.eq_2, if_pos (by grind)]
      simp only [fX3_countEdges_L79, nI_add1]
theorem c_edges (ok : OKm m) (hl : LX σ q1 (m 0) (m 1)) (h : PX q m σ) : fX3_countEdges q q1 σ = some (nEd m) := by
  unfold fX3_countEdges
  rw [c_dirs hl, dirs_half]
  have h1 := sum_loop (L := fun fu v c => fX3_countEdges_L12 q q1 fu v (nI (gDirs (m 0) / 2)) c σ) (R := some) (f := fun c => ed m (cx c) (cy c)) (N := 225) (v := 0) (by decide) (fun fu v c hc => by
    show fX3_countEdges_L12 q q1 (fu + 1) v (nI (gDirs (m 0) / 2)) (nI c) σ = _
    rw [fX3_countEdges_L12.eq_2, if_neg (le225 hc), c_edges_c ok hl h hc]) (fun fu v => by show fX3_countEdges_L12 q q1 (fu + 1) v _ 225 σ = _; rw [fX3_countEdges_L12.eq_2]; rfl)
  refine h1.trans ?_
  rw [zadd, sm_grid (G := fun x y => ed m x y) (fun x y hn => sm_zero (fun d _ => by unfold edB; rw [near_nS ok hn]; rfl))]
  rfl
theorem m_edges (ok : OKm m) (hk : MK σ) (hm : σ 134 = m) (h : LPic m σ) : fX7_edgesNow σ = some (nEd m) := by
  have hd := @dirs_le (m 0)
  have h1 := sum_loop (L := fun fu v c => fX7_edgesNow_L4 fu v c σ) (R := some) (f := fun c => ed m (mx c) (my c)) (N := 169) (v := 0) (by decide) (fun fu v c hc => by
    show fX7_edgesNow_L4 (fu + 1) v (nI c) σ = _
    rw [fX7_edgesNow_L4.eq_2, if_neg (le169 hc)]
    refine sum_loop (L := fun fu' v d => fX7_edgesNow_L13 (fX7_edgesNow_L4 fu) fu' v (nI c) d σ) (R := fun v => fX7_edgesNow_L4 fu v (nI (c + 1)) σ) (f := fun d => kb (edB m (mx c) (my c) d)) (N := gDirs (m 0) / 2) (by omega) (fun fu' v d hdd => ?_) (fun fu' v => ?_)
    · show fX7_edgesNow_L13 (fX7_edgesNow_L4 fu) (fu' + 1) v (nI c) (nI d) σ = _
      rw [fX7_edgesNow_L13.eq_2, m_dirs, Option.bind_some, hm, dirs_half, if_neg (by rw [dI_le (by omega) (by omega)]; omega), m_stepX hk (show d < gDirs (σ 134 0) by rw [hm]; omega), m_stepY hk (show d < gDirs (σ 134 0) by rw [hm]; omega), Option.bind_some, Option.bind_some, m_picCell, Option.bind_some, hm]
      simp only [fX7_edgesNow_L119, fX7_edgesNow_L113, fX7_edgesNow_L114, nI_add1]
      unfold edB
      cases hn : gNear (m 0) (m 1) (mx c) (my c) with
      | false =>
        rw [if_neg Bool.false_ne_true]
        show _ = fX7_edgesNow_L13 (fX7_edgesNow_L4 fu) fu' (v + 0) _ _ σ
        rw [add0]
      | true =>
        rw [if_pos rfl, m_near, Option.bind_some, hm]
        rw [show fX7_xOf (nI c) = mx c from rfl, show fX7_yOf (nI c) = my c from rfl]
        cases hn2 : gNear (m 0) (m 1) (mx c + gSX (m 0) d) (my c + gSY (m 0) d) with
        | false =>
          rw [if_neg Bool.false_ne_true]
          show _ = fX7_edgesNow_L13 (fX7_edgesNow_L4 fu) fu' (v + 0) _ _ σ
          rw [add0]
        | true =>
          have hS := near_S ok.2.1 hn2
          have hl1 : σ 145 c = mCol m (mx c) (my c) := by rw [lp_134 h hc]; unfold lC; rw [hn, if_pos rfl]
          have hl2 : σ 145 (mk (mx c + gSX (m 0) d) (my c + gSY (m 0) d)) = mCol m (mx c + gSX (m 0) d) (my c + gSY (m 0) d) := by rw [lp_134 h (mk_lt hS), mx_mk hS, my_mk hS]; unfold lC; rw [hn2, if_pos rfl]
          rw [if_pos rfl, if_pos (mcell_kin hS), if_pos (kn169 hc), nI_n (by omega), hl1]
          rw [show (fX7_cell (mx c + gSX (m 0) d) (my c + gSY (m 0) d)).toNatClampNeg = mk (mx c + gSX (m 0) d) (my c + gSY (m 0) d) from rfl, hl2]
          by_cases h0 : mCol m (mx c) (my c) = 0
          · rw [if_pos h0, decide_eq_true h0]; rfl
          · rw [if_neg h0, decide_eq_false h0]
            by_cases h2 : mCol m (mx c + gSX (m 0) d) (my c + gSY (m 0) d) = 0
            · rw [if_pos h2, decide_eq_true h2]; rfl
            · rw [if_neg h2, decide_eq_false h2, if_pos (kn169 hc)]
              by_cases he : mCol m (mx c) (my c) = mCol m (mx c + gSX (m 0) d) (my c + gSY (m 0) d)
              · rw [if_pos he, decide_eq_true he]; rfl
              · rw [if_neg he, decide_eq_false he]; rfl
    · show fX7_edgesNow_L13 (fX7_edgesNow_L4 fu) (fu' + 1) v (nI c) (nI _) σ = _
      rw [fX7_edgesNow_L13.eq_2, m_dirs, Option.bind_some, hm, dirs_half, if_pos (by grind), nI_add1]) (fun fu v => by show fX7_edgesNow_L4 (fu + 1) v 169 σ = _; rw [fX7_edgesNow_L4.eq_2]; rfl)
  refine h1.trans ?_
  rw [zadd]
  rfl
end Q5
