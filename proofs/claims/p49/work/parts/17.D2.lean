def inR (x y : Int32) : Prop := (-7 ≤ x ∧ x ≤ 7) ∧ -7 ≤ y ∧ y ≤ 7
def rOK (r : Int32) : Prop := 1 ≤ r ∧ r ≤ 6
theorem cell_fin : ∀ i, i < 15 → ∀ j, j < 15 → (0 ≤ fX1_cellAt (nI i - 7) (nI j - 7) ∧ fX1_cellAt (nI i - 7) (nI j - 7) < 225) ∧ fX1_xOf (fX1_cellAt (nI i - 7) (nI j - 7)) = nI i - 7 ∧ fX1_yOf (fX1_cellAt (nI i - 7) (nI j - 7)) = nI j - 7 := by decide +kernel
theorem cell_all {x y : Int32} (h : inR x y) : (0 ≤ fX1_cellAt x y ∧ fX1_cellAt x y < 225) ∧ fX1_xOf (fX1_cellAt x y) = x ∧ fX1_yOf (fX1_cellAt x y) = y := by
  refine co_enum (P := fun x => (0 ≤ fX1_cellAt x y ∧ fX1_cellAt x y < 225) ∧ fX1_xOf (fX1_cellAt x y) = x ∧ fX1_yOf (fX1_cellAt x y) = y) (fun i hi => ?_) x h.1.1 h.1.2
  refine co_enum (P := fun y => (0 ≤ fX1_cellAt (nI i - 7) y ∧ fX1_cellAt (nI i - 7) y < 225) ∧ fX1_xOf (fX1_cellAt (nI i - 7) y) = nI i - 7 ∧ fX1_yOf (fX1_cellAt (nI i - 7) y) = y) (fun j hj => ?_) y h.2.1 h.2.2
  exact cell_fin i hi j hj
theorem cell_x {x y : Int32} (h : inR x y) : fX1_xOf (fX1_cellAt x y) = x := (cell_all h).2.1
theorem cell_y {x y : Int32} (h : inR x y) : fX1_yOf (fX1_cellAt x y) = y := (cell_all h).2.2
theorem cell_is {x y : Int32} (h : inR x y) : fX1_isCell (fX1_cellAt x y) = true := by
  have := (cell_all h).1
  unfold fX1_isCell
  rw [if_neg (by grind), if_neg (by grind)]
theorem e225 : nI 225 = 225 := by decide
theorem cell_kin {x y : Int32} (h : inR x y) : kin (fX1_cellAt x y) 225 = true := by
  have h1 := (cell_all h).1
  exact (kin_iff (by decide)).2 ⟨h1.1, by rw [e225]; exact h1.2⟩
theorem cell_inj {x y u v : Int32} (h : inR x y) (h' : inR u v) (e : fX1_cellAt x y = fX1_cellAt u v) : x = u ∧ y = v := by
  constructor
  · rw [← cell_x h, ← cell_x h', e]
  · rw [← cell_y h, ← cell_y h', e]
def ci (x y : Int32) : Nat := (fX1_cellAt x y).toNatClampNeg
theorem ci_lt {x y : Int32} (h : inR x y) : ci x y < 225 := by
  have h1 := (cell_all h).1
  exact i32_n h1.1 (by rw [e225]; exact h1.2) (by decide)
theorem ci_nI {x y : Int32} (h : inR x y) : nI (ci x y) = fX1_cellAt x y := i32_nI (cell_all h).1.1
theorem ci_inj {x y u v : Int32} (h : inR x y) (h' : inR u v) (e : ci x y = ci u v) : x = u ∧ y = v :=
  cell_inj h h' (by rw [← ci_nI h, ← ci_nI h', e])
theorem cell_ne1 {x y : Int32} (h : inR x y) : fX1_cellAt x y ≠ -1 := by
  have := (cell_all h).1
  grind
def cx (c : Nat) : Int32 := fX1_xOf (nI c)
def cy (c : Nat) : Int32 := fX1_yOf (nI c)
theorem cxy_fin : ∀ c, c < 225 → (((-7 ≤ cx c ∧ cx c ≤ 7) ∧ -7 ≤ cy c ∧ cy c ≤ 7) ∧ fX1_cellAt (cx c) (cy c) = nI c) := by decide +kernel
theorem cxy_in {c : Nat} (h : c < 225) : inR (cx c) (cy c) := (cxy_fin c h).1
theorem cxy_at {c : Nat} (h : c < 225) : fX1_cellAt (cx c) (cy c) = nI c := (cxy_fin c h).2
theorem cxy_ci {c : Nat} (h : c < 225) : ci (cx c) (cy c) = c := by
  unfold ci
  rw [cxy_at h, nI_n (by omega)]
theorem cx_ci {x y : Int32} (h : inR x y) : cx (ci x y) = x := by
  unfold cx
  rw [ci_nI h]
  exact cell_x h
theorem cy_ci {x y : Int32} (h : inR x y) : cy (ci x y) = y := by
  unfold cy
  rw [ci_nI h]
  exact cell_y h
theorem isIn_iff {v lo hi : Int32} : fX7_isIn v lo hi = true ↔ lo ≤ v ∧ v ≤ hi := by
  unfold fX7_isIn
  by_cases h1 : v < lo <;> by_cases h2 : hi < v <;> simp [h1, h2] <;> grind
theorem near_iff {a r x y : Int32} (hr : rOK r) : gNear a r x y = true ↔ (-r ≤ x ∧ x ≤ r) ∧ (-r ≤ y ∧ y ≤ r) ∧ (gHex a = true → -r ≤ x + y ∧ x + y ≤ r) := by
  unfold gNear
  rw [Bool.and_eq_true, Bool.and_eq_true, isIn_iff, isIn_iff]
  have h1 := hr.1
  have h2 := hr.2
  constructor
  · rintro ⟨hx, hy, hz⟩
    refine ⟨hx, hy, fun hh => ?_⟩
    rw [hh] at hz
    simp at hz
    unfold fX7_abs at hz
    split at hz <;> grind
  · rintro ⟨hx, hy, hz⟩
    refine ⟨hx, hy, ?_⟩
    cases hh : gHex a
    · rfl
    · have := hz hh
      simp
      unfold fX7_abs
      split <;> grind
theorem near_in {a r x y : Int32} (hr : rOK r) (h : gNear a r x y = true) : (-6 ≤ x ∧ x ≤ 6) ∧ -6 ≤ y ∧ y ≤ 6 := by
  have h3 := (near_iff hr).1 h
  have h1 := hr.1
  have h2 := hr.2
  obtain ⟨⟨h4, h5⟩, ⟨h6, h7⟩, _⟩ := h3
  refine ⟨⟨?_, ?_⟩, ?_, ?_⟩ <;> grind
theorem near_R {a r x y : Int32} (hr : rOK r) (h : gNear a r x y = true) : inR x y := by
  have := near_in hr h
  refine ⟨⟨?_, ?_⟩, ?_, ?_⟩ <;> grind
theorem box_near {a r x y : Int32} (h : gBox a r x y = true) : gNear a r x y = true := by
  unfold gBox at h
  rw [Bool.and_eq_true] at h
  exact h.1
theorem hex_cases {a : Int32} (ha : gAng a) : (gHex a = true ∧ (a = 60 ∨ a = 30)) ∨ (gHex a = false ∧ (a = 180 ∨ a = 90 ∨ a = 45)) := by
  rcases ha with h | h | h | h | h <;> subst h <;> decide
theorem near_turn {a r : Int32} (hr : rOK r) {p : Int32 × Int32} (h : gNear a r p.1 p.2 = true) : gNear a r (gTurn a p).1 (gTurn a p).2 = true := by
  rw [near_iff hr] at h ⊢
  have h1 := hr.1
  have h2 := hr.2
  obtain ⟨⟨h4, h5⟩, ⟨h6, h7⟩, h8⟩ := h
  unfold gTurn
  cases hh : gHex a
  · simp only [Bool.false_eq_true, if_false]
    refine ⟨⟨?_, ?_⟩, ⟨?_, ?_⟩, fun c => ?_⟩ <;> grind
  · have := h8 hh
    simp only [if_true]
    refine ⟨⟨?_, ?_⟩, ⟨?_, ?_⟩, fun c => ⟨?_, ?_⟩⟩ <;> grind
theorem near_mir {a r : Int32} (ha : gAng a) (hr : rOK r) {m : Nat} {p : Int32 × Int32} (h : gNear a r p.1 p.2 = true) : gNear a r (gMir a m p).1 (gMir a m p).2 = true := by
  rw [near_iff hr] at h ⊢
  have h1 := hr.1
  have h2 := hr.2
  obtain ⟨⟨h4, h5⟩, ⟨h6, h7⟩, h8⟩ := h
  unfold gMir
  by_cases hm : m = 0
  · rw [if_pos hm]
    cases hh : gHex a
    · simp only [Bool.false_eq_true, if_false]
      refine ⟨⟨?_, ?_⟩, ⟨?_, ?_⟩, fun c => ?_⟩ <;> grind
    · have := h8 hh
      simp only [if_true]
      refine ⟨⟨?_, ?_⟩, ⟨?_, ?_⟩, fun c => ⟨?_, ?_⟩⟩ <;> grind
  · rw [if_neg hm]
    rcases ha with h | h | h | h | h <;> subst h <;> simp [gHex] at h8 ⊢
    · exact ⟨⟨h6, h7⟩, h4, h5⟩
    · refine ⟨⟨?_, ?_⟩, ⟨?_, ?_⟩⟩ <;> grind
    · exact ⟨⟨h6, h7⟩, h4, h5⟩
    · refine ⟨⟨?_, ?_⟩, ⟨?_, ?_⟩, ⟨?_, ?_⟩⟩ <;> grind
    · refine ⟨⟨?_, ?_⟩, ⟨?_, ?_⟩, ⟨?_, ?_⟩⟩ <;> grind
theorem near_turns {a r : Int32} (hr : rOK r) (n : Nat) : ∀ {p : Int32 × Int32}, gNear a r p.1 p.2 = true → gNear a r (gTurns a n p).1 (gTurns a n p).2 = true := by
  induction n with
  | zero => exact fun h => h
  | succ n ih => exact fun h => ih (near_turn hr h)
theorem near_map {a r : Int32} (ha : gAng a) (hr : rOK r) {k : Nat} {p : Int32 × Int32} (h : gNear a r p.1 p.2 = true) : gNear a r (gMap a k p).1 (gMap a k p).2 = true := by
  unfold gMap
  split
  · exact near_turns hr _ h
  · exact near_turns hr _ (near_mir ha hr h)
def gZone (a r x y : Int32) : Int32 := if gNear a r x y = true then (if gBet a x y = true then 2 else 1) else 0
def LX (σ : Sto) (q : Nat) (a r : Int32) : Prop := (σ q 0 = a ∧ σ q 1 = r ∧ σ q 2 = kb (gHex a)) ∧ ∀ c, c < 225 → σ (q + 1) c = gZone a r (cx c) (cy c)
section CLASS1
variable {σ : Sto} {q : Nat} {a r : Int32}
theorem lx_zone (hl : LX σ q a r) {x y : Int32} (h : inR x y) : σ (q + 1) (fX1_cellAt x y).toNatClampNeg = gZone a r x y := by
  have := hl.2 (ci x y) (ci_lt h)
  rw [cx_ci h, cy_ci h] at this
  exact this
theorem lx_hex (hl : LX σ q a r) : σ q 2 = 0 ↔ gHex a = false := by
  rw [hl.1.2.2]
  cases gHex a <;> decide
theorem c_isInBox (hl : LX σ q a r) {x y : Int32} (h : inR x y) : fX1_isInBox q (fX1_cellAt x y) σ = some (gBox a r x y) := by
  have h1 := (cell_all h).1
  unfold fX1_isInBox
  rw [if_neg (by grind), if_neg (by grind), if_pos (cell_kin h), lx_zone hl h]
  unfold gZone gBox
  cases gNear a r x y <;> cases gBet a x y <;> rfl
theorem c_isInBox_none : fX1_isInBox q (-1) σ = some false := rfl
theorem c_isInPicture (hl : LX σ q a r) {x y : Int32} (h : inR x y) : fX1_isInPicture q (fX1_cellAt x y) σ = some (gNear a r x y) := by
  have h1 := (cell_all h).1
  unfold fX1_isInPicture
  rw [if_neg (by grind), if_neg (by grind), if_pos (cell_kin h), lx_zone hl h]
  unfold gZone
  cases gNear a r x y <;> cases gBet a x y <;> rfl
theorem c_dirs (hl : LX σ q a r) : fX1_directions q σ = nI (gDirs a) := by
  unfold fX1_directions gDirs
  have := lx_hex hl
  cases hh : gHex a <;> simp [hh] at this <;> simp [this] <;> rfl
theorem c_maps (hl : LX σ q a r) : fX1_maps q σ = nI (2 * gHalf a) := by
  unfold fX1_maps gHalf
  have := lx_hex hl
  cases hh : gHex a <;> simp [hh] at this <;> simp [this] <;> rfl
theorem c_many (hl : LX σ q a r) : fX1_mirrors q σ = nI (gMany a) := by
  unfold fX1_mirrors gMany
  rw [hl.1.1]
  by_cases h : a = 180 <;> simp [h] <;> rfl
theorem c_wrapped (hl : LX σ q a r) {d : Int32} : fX1_wrapped q d σ = krem d (nI (gDirs a)) := by
  unfold fX1_wrapped gDirs
  have := lx_hex hl
  cases hh : gHex a <;> simp [hh] at this <;> simp [this] <;> rfl
theorem c_stepX (hl : LX σ q a r) {d : Nat} (h : d < gDirs a) : fX1_stepX q (nI d) σ = some (gSX a d) := by
  unfold fX1_stepX gSX
  have := lx_hex hl
  unfold gDirs at h
  cases hh : gHex a <;> simp [hh] at this <;> simp only [hh, Bool.false_eq_true, if_false, if_true] at h ⊢ <;> simp only [this, if_true, if_false]
  · clear hh this hl
    revert d
    decide
  · clear hh this hl
    revert d
    decide
theorem c_stepY (hl : LX σ q a r) {d : Nat} (h : d < gDirs a) : fX1_stepY q (nI d) σ = some (gSY a d) := by
  unfold fX1_stepY gSY
  have := lx_hex hl
  unfold gDirs at h
  cases hh : gHex a <;> simp [hh] at this <;> simp only [hh, Bool.false_eq_true, if_false, if_true] at h ⊢ <;> simp only [this, if_true, if_false]
  · clear hh this hl
    revert d
    decide
  · clear hh this hl
    revert d
    decide
theorem step_sm {d : Nat} : (-1 ≤ gSX a d ∧ gSX a d ≤ 1) ∧ -1 ≤ gSY a d ∧ gSY a d ≤ 1 := by
  by_cases hd : d < 8
  · unfold gSX gSY
    cases gHex a
    · revert d; decide
    · revert d; decide
  · unfold gSX gSY
    cases gHex a
    · simp only [Bool.false_eq_true, if_false, List.getD_eq_getElem?_getD]
      rw [List.getElem?_eq_none (by simp; omega), List.getElem?_eq_none (by simp; omega)]; decide
    · simp only [if_true, List.getD_eq_getElem?_getD]
      rw [List.getElem?_eq_none (by simp; omega), List.getElem?_eq_none (by simp; omega)]; decide
theorem step_R {x y : Int32} (h : (-6 ≤ x ∧ x ≤ 6) ∧ -6 ≤ y ∧ y ≤ 6) (d : Nat) : inR (x + gSX a d) (y + gSY a d) := by
  have := @step_sm a d
  obtain ⟨⟨h1, h2⟩, h3, h4⟩ := this
  obtain ⟨⟨h5, h6⟩, h7, h8⟩ := h
  refine ⟨⟨?_, ?_⟩, ?_, ?_⟩ <;> grind
theorem c_neighbour (hl : LX σ q a r) {d : Nat} (h : d < gDirs a) {x y : Int32} : fX1_neighbour q (fX1_cellAt x y) (nI d) σ = some (fX1_cellAt (x + gSX a d) (y + gSY a d)) := by
  unfold fX1_neighbour
  rw [c_stepX hl h, c_stepY hl h]
  simp only [Option.bind_some]
  unfold fX1_cellAt
  congr 1
  grind
theorem c_boxNb (hl : LX σ q a r) (hr : rOK r) {d : Nat} (h : d < gDirs a) {x y : Int32} (hn : gNear a r x y = true) : fX1_boxNeighbour q (fX1_cellAt x y) (nI d) σ = some (if gBox a r (x + gSX a d) (y + gSY a d) = true then fX1_cellAt (x + gSX a d) (y + gSY a d) else -1) := by
  unfold fX1_boxNeighbour
  rw [c_neighbour hl h, Option.bind_some, c_isInBox hl (step_R (near_in hr hn) d), Option.bind_some]
  split <;> rfl
theorem c_picNb (hl : LX σ q a r) (hr : rOK r) {d : Nat} (h : d < gDirs a) {x y : Int32} (hn : gNear a r x y = true) : fX1_pictureNeighbour q (fX1_cellAt x y) (nI d) σ = some (if gNear a r (x + gSX a d) (y + gSY a d) = true then fX1_cellAt (x + gSX a d) (y + gSY a d) else -1) := by
  unfold fX1_pictureNeighbour
  rw [c_neighbour hl h, Option.bind_some, c_isInPicture hl (step_R (near_in hr hn) d), Option.bind_some]
  split <;> rfl
theorem c_isFar {x : Int32} : fX1_isFar q x = false ↔ -6 ≤ x ∧ x ≤ 6 := by
  unfold fX1_isFar
  by_cases h1 : x < -6 <;> by_cases h2 : x ≤ 6 <;> simp [h1, h2] <;> grind
theorem c_picCell (hl : LX σ q a r) (hr : rOK r) {x y : Int32} : fX1_pictureCell q x y σ = some (if gNear a r x y = true then fX1_cellAt x y else -1) := by
  unfold fX1_pictureCell
  cases hx : fX1_isFar q x
  · cases hy : fX1_isFar q y
    · have hx := c_isFar.1 hx
      have hy := c_isFar.1 hy
      have hR : inR x y := by refine ⟨⟨?_, ?_⟩, ?_, ?_⟩ <;> grind
      simp only [Bool.false_eq_true, if_false]
      rw [c_isInPicture hl hR, Option.bind_some]
      split <;> rfl
    · simp only [Bool.false_eq_true, if_false, if_true]
      rw [if_neg]
      intro c
      have := near_in hr c
      rw [c_isFar.2 this.2] at hy
      cases hy
  · simp only [if_true]
    rw [if_neg]
    intro c
    have := near_in hr c
    rw [c_isFar.2 this.1] at hx
    cases hx
theorem c_boxCell (hl : LX σ q a r) (hr : rOK r) {x y : Int32} : fX1_boxCell q x y σ = some (if gBox a r x y = true then fX1_cellAt x y else -1) := by
  unfold fX1_boxCell
  rw [c_picCell hl hr, Option.bind_some]
  cases hn : gNear a r x y
  · simp only [Bool.false_eq_true, if_false, c_isInBox_none, Option.bind_some]
    rw [if_neg]
    intro c
    rw [box_near c] at hn
    cases hn
  · simp only [if_true]
    rw [c_isInBox hl (near_R hr hn), Option.bind_some]
    split <;> rfl
theorem c_dep (hl : LX σ q a r) {d : Nat} (h : d < gDirs a) {x y : Int32} (hR : inR x y) : fX1_depthOf q (fX1_cellAt x y) (nI d) σ = some (gDep a d x y) := by
  unfold fX1_depthOf gDep
  rw [c_stepX hl h, c_stepY hl h]
  have := lx_hex hl
  simp only [Option.bind_some, cell_x hR, cell_y hR]
  cases hh : gHex a <;> simp [hh] at this <;> simp [this]
theorem c_mir (hl : LX σ q a r) {m : Nat} (hm : m < 2) {x y : Int32} (hR : inR x y) : fX1_mirrorCell q (nI m) (fX1_cellAt x y) σ = fX1_cellAt (gMir a m (x, y)).1 (gMir a m (x, y)).2 := by
  unfold fX1_mirrorCell gMir
  have := lx_hex hl
  simp only [cell_x hR, cell_y hR, hl.1.1]
  match m, hm with
  | 0, _ =>
    rw [if_pos (show nI 0 = 0 from rfl), if_pos rfl]
    cases hh : gHex a <;> simp [hh] at this <;> simp [this]
  | 1, _ =>
    rw [if_neg (show ¬ nI 1 = 0 by decide), if_neg (show ¬ (1 = 0) by decide)]
    by_cases h1 : a = 60
    · subst h1; rfl
    · by_cases h2 : a = 90
      · subst h2; rfl
      · rw [if_neg h1, if_neg h2, if_neg h2, if_neg h1]
theorem c_turnCell (hl : LX σ q a r) {p : Int32 × Int32} (hR : inR p.1 p.2) : fX1_turnCell q (fX1_cellAt p.1 p.2) σ = fX1_cellAt (gTurn a p).1 (gTurn a p).2 := by
  unfold fX1_turnCell gTurn
  have := lx_hex hl
  simp only [cell_x hR, cell_y hR]
  cases hh : gHex a <;> simp [hh] at this <;> simp [this]
theorem c_map_L (hl : LX σ q a r) (hr : rOK r) {A1 A2 : Int32} {j : Nat} (hj : j < 12) (n : Nat) : ∀ (i fu : Nat) (p : Int32 × Int32), i + n = j → n < fu → gNear a r p.1 p.2 = true →
    fX1_mapCell_L41 q A1 A2 fu (nI j) (fX1_cellAt p.1 p.2) (nI i) σ = some (fX1_cellAt (gTurns a n p).1 (gTurns a n p).2) := by
  induction n with
  | zero =>
    intro i fu p hi hf hp
    match fu, hf with
    | fu + 1, _ =>
      unfold fX1_mapCell_L41
      rw [if_pos ((dI_le (by omega) (by omega)).2 (by omega))]
      rfl
  | succ n ih =>
    intro i fu p hi hf hp
    match fu, hf with
    | fu + 1, hf =>
      unfold fX1_mapCell_L41
      rw [if_neg (by rw [dI_le (by omega) (by omega)]; omega), nI_add1, c_turnCell hl (near_R hr hp)]
      exact ih (i + 1) fu _ (by omega) (by omega) (near_turn hr hp)
theorem half_le : 4 ≤ gHalf a ∧ gHalf a ≤ 6 := by unfold gHalf; split <;> decide
theorem c_map (hl : LX σ q a r) (ha : gAng a) (hr : rOK r) {k : Nat} (hk : k < 2 * gHalf a) {x y : Int32} (hn : gNear a r x y = true) : fX1_mapCell q (nI k) (fX1_cellAt x y) σ = some (fX1_cellAt (gMap a k (x, y)).1 (gMap a k (x, y)).2) := by
  have hh := @half_le a
  have h2 : fX1_maps q σ / 2 = nI (gHalf a) := by
    rw [c_maps hl]
    unfold gHalf
    split <;> decide
  unfold fX1_mapCell fX1_mapCell_L19 fX1_mapCell_L36 gMap
  simp only [h2, dI_le (show gHalf a < 2147483648 by omega) (show k < 2147483648 by omega)]
  by_cases hlt : k < gHalf a
  · rw [if_neg (by omega), if_neg (by omega), if_pos hlt]
    exact c_map_L hl hr (by omega) k 0 kFU (x, y) (by omega) (by unfold kFU; omega) hn
  · rw [if_pos (by omega), if_pos (by omega), if_neg hlt]
    have e : nI k - nI (gHalf a) = nI (k - gHalf a) := by
      have : nI k = nI (k - gHalf a) + nI (gHalf a) := by
        unfold nI
        rw [← Int32.ofNat_add]
        congr 1
        omega
      rw [this]
      grind
    rw [e]
    have := c_mir hl (m := 0) (by decide) (near_R hr hn)
    rw [show nI 0 = 0 from rfl] at this
    rw [this]
    exact c_map_L hl hr (by omega) (k - gHalf a) 0 kFU _ (by omega) (by unfold kFU; omega) (near_mir (m := 0) ha hr (p := (x, y)) hn)
end CLASS1
