theorem nI_i {i : Nat} (h : i < 2147483648) : (nI i).toInt = i := by
  unfold nI
  rw [Int32.toInt_ofNat_of_lt (by omega)]
theorem nI_n {i : Nat} (h : i < 2147483648) : (nI i).toNatClampNeg = i := by
  have := nI_i h
  unfold Int32.toNatClampNeg
  omega
theorem nI_add1 (i : Nat) : nI i + 1 = nI (i + 1) := by
  unfold nI
  rw [Int32.ofNat_add]
  rfl
theorem dI_le {a b : Nat} (ha : a < 2147483648) (hb : b < 2147483648) : nI a ≤ nI b ↔ a ≤ b := by
  rw [Int32.le_iff_toInt_le, nI_i ha, nI_i hb]
  omega
theorem dI_lt {a b : Nat} (ha : a < 2147483648) (hb : b < 2147483648) : nI a < nI b ↔ a < b := by
  rw [Int32.lt_iff_toInt_lt, nI_i ha, nI_i hb]
  omega
theorem nI_inj {a b : Nat} (ha : a < 2147483648) (hb : b < 2147483648) : nI a = nI b ↔ a = b := by
  rw [← Int32.toInt_inj, nI_i ha, nI_i hb]
  omega
theorem i32_nI {x : Int32} (h : 0 ≤ x) : nI x.toNatClampNeg = x := by
  rw [Int32.le_iff_toInt_le] at h
  have h1 : (0 : Int32).toInt = 0 := by decide
  rw [h1] at h
  apply Int32.toInt_inj.1
  have h2 : x.toInt < 2147483648 := by have := Int32.toInt_lt x; omega
  rw [nI_i (by unfold Int32.toNatClampNeg; omega)]
  unfold Int32.toNatClampNeg
  omega
theorem i32_n {x : Int32} {N : Nat} (h0 : 0 ≤ x) (h1 : x < nI N) (hN : N < 2147483648) : x.toNatClampNeg < N := by
  rw [Int32.le_iff_toInt_le] at h0
  rw [Int32.lt_iff_toInt_lt, nI_i hN] at h1
  have h2 : (0 : Int32).toInt = 0 := by decide
  unfold Int32.toNatClampNeg
  omega
theorem kin_iff {x : Int32} {N : Nat} (hN : N < 2147483648) : kin x N = true ↔ 0 ≤ x ∧ x < nI N := by
  unfold kin
  rw [Bool.and_eq_true, decide_eq_true_eq, decide_eq_true_eq]
  have h0 : (0 : Int32).toInt = 0 := by decide
  rw [Int32.lt_iff_toInt_lt, Int32.le_iff_toInt_le, Int32.lt_iff_toInt_lt, nI_i hN, h0]
  unfold Int32.toNatClampNeg
  omega
theorem kin_nI {i N : Nat} (h : i < N) (hN : N < 2147483648) : kin (nI i) N = true := by
  unfold kin
  rw [nI_n (by omega), Bool.and_eq_true, decide_eq_true_eq, decide_eq_true_eq]
  refine ⟨?_, h⟩
  rw [Int32.lt_iff_toInt_lt, nI_i (by omega)]
  have h0 : (0 : Int32).toInt = 0 := by decide
  omega
theorem i32_enum {P : Int32 → Prop} (lo : Int32) (n : Nat) (hn : n < 2147483648) (h : ∀ i, i < n → P (lo + nI i)) (u : Int32) (h1 : 0 ≤ u - lo) (h2 : u - lo < nI n) : P u := by
  have h3 := h (u - lo).toNatClampNeg (i32_n h1 h2 hn)
  rw [i32_nI h1] at h3
  have h4 : lo + (u - lo) = u := by grind
  rw [h4] at h3
  exact h3
theorem co_enum {P : Int32 → Prop} (h : ∀ i, i < 15 → P (nI i - 7)) (u : Int32) (h1 : -7 ≤ u) (h2 : u ≤ 7) : P u := by
  have e15 : nI 15 = 15 := by decide
  refine i32_enum (-7) 15 (by decide) (fun i hi => ?_) u (by grind) (by rw [e15]; grind)
  have h3 := h i hi
  have h4 : -7 + nI i = nI i - 7 := by grind
  rw [h4]
  exact h3
theorem klet_eq {α β : Type} (x : α) (f : α → β) : klet x f = f x := rfl
abbrev Vc : Type := Nat → Int32
def gAng (a : Int32) : Prop := a = 180 ∨ a = 90 ∨ a = 45 ∨ a = 60 ∨ a = 30
def gHex (a : Int32) : Bool := decide (a = 60) || decide (a = 30)
def gDirs (a : Int32) : Nat := if gHex a = true then 6 else 8
def gHalf (a : Int32) : Nat := if gHex a = true then 6 else 4
def gSX (a : Int32) (d : Nat) : Int32 := (if gHex a = true then [1, 0, -1, -1, 0, 1] else [1, 1, 0, -1, -1, -1, 0, 1]).getD d 0
def gSY (a : Int32) (d : Nat) : Int32 := (if gHex a = true then [0, 1, 1, 0, -1, -1] else [0, 1, 1, 1, 0, -1, -1, -1]).getD d 0
def gNear (a r x y : Int32) : Bool := fX7_isIn x (-r) r && (fX7_isIn y (-r) r && (!(gHex a) || !(decide (r < fX7_abs (x + y)))))
def gBet (a x y : Int32) : Bool := if a = 180 then decide (0 ≤ y) else if a = 90 ∨ a = 60 then decide (0 ≤ x) && decide (0 ≤ y) else decide (0 ≤ y) && decide (y ≤ x)
def gBox (a r x y : Int32) : Bool := gNear a r x y && gBet a x y
def gDep (a : Int32) (d : Nat) (x y : Int32) : Int32 := if gHex a = true then 2 * (x * gSX a d + y * gSY a d) + x * gSY a d + y * gSX a d else x * gSX a d + y * gSY a d
def gMir (a : Int32) (m : Nat) (p : Int32 × Int32) : Int32 × Int32 :=
  if m = 0 then (if gHex a = true then p.1 + p.2 else p.1, -p.2) else if a = 90 then (-p.1, p.2) else if a = 60 then (-p.1, p.1 + p.2) else (p.2, p.1)
def gTurn (a : Int32) (p : Int32 × Int32) : Int32 × Int32 := (-p.2, if gHex a = true then p.1 + p.2 else p.1)
def gTurns (a : Int32) : Nat → Int32 × Int32 → Int32 × Int32
  | 0, p => p
  | n + 1, p => gTurns a n (gTurn a p)
def gMap (a : Int32) (k : Nat) (p : Int32 × Int32) : Int32 × Int32 :=
  if k < gHalf a then gTurns a k p else gTurns a (k - gHalf a) (gMir a 0 p)
def gMany (a : Int32) : Nat := if a = 180 then 1 else 2
theorem k220 (i : Nat) (h : i < 220) : kin (nI i) 220 = true := kin_nI h (by decide)
section MODEL1
variable {σ : Sto}
theorem z0 : Int32.toNatClampNeg 0 = 0 := by decide
theorem w0 : (kin 0 220 = true) = True := by decide
theorem z1 : Int32.toNatClampNeg 1 = 1 := by decide
theorem w1 : (kin 1 220 = true) = True := by decide
theorem z2 : Int32.toNatClampNeg 2 = 2 := by decide
theorem w2 : (kin 2 220 = true) = True := by decide
theorem z3 : Int32.toNatClampNeg 3 = 3 := by decide
theorem w3 : (kin 3 220 = true) = True := by decide
theorem z4 : Int32.toNatClampNeg 4 = 4 := by decide
theorem w4 : (kin 4 220 = true) = True := by decide
theorem z5 : Int32.toNatClampNeg 5 = 5 := by decide
theorem w5 : (kin 5 220 = true) = True := by decide
theorem z6 : Int32.toNatClampNeg 6 = 6 := by decide
theorem w6 : (kin 6 220 = true) = True := by decide
theorem z7 : Int32.toNatClampNeg 7 = 7 := by decide
theorem w7 : (kin 7 220 = true) = True := by decide
theorem z8 : Int32.toNatClampNeg 8 = 8 := by decide
theorem w8 : (kin 8 220 = true) = True := by decide
theorem z9 : Int32.toNatClampNeg 9 = 9 := by decide
theorem w9 : (kin 9 220 = true) = True := by decide
theorem u60 : (kin 0 6 = true) = True := by decide
theorem m_isHex : fX7_isHex σ = some (gHex (σ 134 0)) := by
  unfold fX7_isHex gHex
  simp only [w0, z0, if_true]
  by_cases h1 : σ 134 0 = 60 <;> by_cases h2 : σ 134 0 = 30 <;> simp [h1, h2]
theorem m_dirs : fX7_directions σ = some (nI (gDirs (σ 134 0))) := by
  unfold fX7_directions gDirs
  rw [m_isHex]
  cases gHex (σ 134 0) <;> rfl
theorem m_half : fX7_half σ = some (nI (gHalf (σ 134 0))) := by
  unfold fX7_half gHalf
  rw [m_isHex]
  cases gHex (σ 134 0) <;> rfl
theorem m_many : fX7_mirrorMany σ = some (nI (gMany (σ 134 0))) := by
  unfold fX7_mirrorMany gMany
  simp only [w0, z0, if_true]
  by_cases h1 : σ 134 0 = 180 <;> simp [h1] <;> rfl
def MK (σ : Sto) : Prop := (∀ i, i < 14 → σ 140 i = [1, 1, 0, -1, -1, -1, 0, 1, 1, 0, -1, -1, 0, 1].getD i 0) ∧ ∀ i, i < 14 → σ 141 i = [0, 1, 1, 1, 0, -1, -1, -1, 0, 1, 1, 0, -1, -1].getD i 0
theorem m_stepX (hk : MK σ) {d : Nat} (h : d < gDirs (σ 134 0)) : fX7_stepX (nI d) σ = some (gSX (σ 134 0) d) := by
  unfold fX7_stepX
  rw [m_isHex]
  unfold gDirs at h
  unfold gSX
  cases hx : gHex (σ 134 0)
  · rw [hx] at h
    have h8 : d < 8 := h
    have e : nI d + 0 = nI d := by grind
    simp only [Option.bind_some, e, kin_nI (show d < 14 by omega) (by decide), nI_n (show d < 2147483648 by omega), if_true, Bool.false_eq_true, if_false]
    rw [hk.1 d (by omega)]
    clear hx h e
    revert d
    decide
  · rw [hx] at h
    have h6 : d < 6 := h
    have e : nI d + 8 = nI (d + 8) := by unfold nI; rw [Int32.ofNat_add]; rfl
    simp only [Option.bind_some, e, kin_nI (show d + 8 < 14 by omega) (by decide), nI_n (show d + 8 < 2147483648 by omega), if_true]
    rw [hk.1 (d + 8) (by omega)]
    clear hx h e
    revert d
    decide
theorem m_stepY (hk : MK σ) {d : Nat} (h : d < gDirs (σ 134 0)) : fX7_stepY (nI d) σ = some (gSY (σ 134 0) d) := by
  unfold fX7_stepY
  rw [m_isHex]
  unfold gDirs at h
  unfold gSY
  cases hx : gHex (σ 134 0)
  · rw [hx] at h
    have h8 : d < 8 := h
    have e : nI d + 0 = nI d := by grind
    simp only [Option.bind_some, e, kin_nI (show d < 14 by omega) (by decide), nI_n (show d < 2147483648 by omega), if_true, Bool.false_eq_true, if_false]
    rw [hk.2 d (by omega)]
    clear hx h e
    revert d
    decide
  · rw [hx] at h
    have h6 : d < 6 := h
    have e : nI d + 8 = nI (d + 8) := by unfold nI; rw [Int32.ofNat_add]; rfl
    simp only [Option.bind_some, e, kin_nI (show d + 8 < 14 by omega) (by decide), nI_n (show d + 8 < 2147483648 by omega), if_true]
    rw [hk.2 (d + 8) (by omega)]
    clear hx h e
    revert d
    decide
theorem m_near {x y : Int32} : fX7_isNear x y σ = some (gNear (σ 134 0) (σ 134 1) x y) := by
  unfold fX7_isNear fX7_isNear_L44 fX7_isNear_L45 gNear
  simp only [w1, z1, if_true, m_isHex, Option.bind_some]
  cases fX7_isIn x (-(σ 134 1)) (σ 134 1) <;> cases fX7_isIn y (-(σ 134 1)) (σ 134 1) <;> cases gHex (σ 134 0) <;> by_cases h : σ 134 1 < fX7_abs (x + y) <;> simp [h]
theorem m_box {x y : Int32} : fX7_isBox x y σ = some (gBox (σ 134 0) (σ 134 1) x y) := by
  unfold fX7_isBox gBox gBet
  rw [m_near]
  simp only [w0, z0, if_true, Option.bind_some, fX7_isBox_L62]
  cases gNear (σ 134 0) (σ 134 1) x y
  · simp
  · by_cases h1 : σ 134 0 = 60
    · by_cases hx : x < 0 <;> by_cases hy : y < 0 <;> simp [h1, hx, hy] <;> grind
    · by_cases h2 : σ 134 0 = 90
      · by_cases hx : x < 0 <;> by_cases hy : y < 0 <;> simp [h2, hx, hy] <;> grind
      · by_cases h3 : σ 134 0 = 180
        · by_cases hy : y < 0 <;> simp [h3, hy] <;> grind
        · by_cases hy : y < 0 <;> by_cases hx : x < y <;> simp [h1, h2, h3, hx, hy] <;> grind
theorem m_dep (hk : MK σ) {x y : Int32} {d : Nat} (hd : σ 134 2 = nI d) (h : d < gDirs (σ 134 0)) : fX7_depthOf x y σ = some (gDep (σ 134 0) d x y) := by
  unfold fX7_depthOf gDep
  simp only [w2, z2, if_true, hd, m_stepX hk h, m_stepY hk h, Option.bind_some, m_isHex]
  split <;> rfl
theorem m_turned {d : Nat} {by' : Int32} : fX7_turned (nI d) by' σ = some (krem ((nI d + by') + nI (gDirs (σ 134 0))) (nI (gDirs (σ 134 0)))) := by
  unfold fX7_turned
  simp only [m_dirs, Option.bind_some]
  rw [if_neg (by unfold gDirs; split <;> decide)]
def mst (σ : Sto) (p : Int32 × Int32) : Sto := su (su σ 133 10 p.1) 133 11 p.2
theorem m_stands {x y : Int32} : fX7_stands x y σ = mst σ (x, y) := rfl
theorem m_becomes {x y : Int32} : fX7_becomes x y σ = mst σ (x, y) := rfl
theorem mst_px {p} : mst σ p 133 10 = p.1 := rfl
theorem mst_py {p} : mst σ p 133 11 = p.2 := rfl
theorem mst_mst {p q} : mst (mst σ p) q = mst σ q := by
  funext a b
  unfold mst su
  by_cases h : a = 133 <;> by_cases h1 : b = 11 <;> by_cases h2 : b = 10 <;> simp [h, h1, h2]
theorem mst_o {p} {k i : Nat} (h : k ≠ 133) : mst σ p k i = σ k i := by
  unfold mst su
  simp [h]
theorem mst_of {p} {k : Nat} (h : k ≠ 133) : mst σ p k = σ k := by
  funext i
  exact mst_o h
theorem m_mirrors {m : Nat} (hm : m < 2) {p} : fX7_mirrors (nI m) (mst σ p) = some (mst σ (gMir (σ 134 0) m p)) := by
  unfold fX7_mirrors gMir
  simp only [w0, z0, if_true, m_isHex, Option.bind_some, m_becomes, mst_px, mst_py, mst_mst, mst_of (show 134 ≠ 133 by decide)]
  match m, hm with
  | 0, _ =>
    rw [if_pos (show nI 0 = 0 from rfl), if_pos rfl]
    cases gHex (σ 134 0) <;> rfl
  | 1, _ =>
    rw [if_neg (show ¬ nI 1 = 0 by decide), if_neg (show ¬ (1 = 0) by decide)]
    by_cases h1 : σ 134 0 = 90
    · rw [if_pos h1, if_pos h1]
    · rw [if_neg h1, if_neg h1]
      by_cases h2 : σ 134 0 = 60
      · rw [if_pos h2, if_pos h2]
      · rw [if_neg h2, if_neg h2]
theorem m_turnsOnce {p} : fX7_turnsOnce (mst σ p) = some (mst σ (gTurn (σ 134 0) p)) := by
  unfold fX7_turnsOnce gTurn
  simp only [m_isHex, Option.bind_some, m_becomes, mst_px, mst_py, mst_mst, mst_of (show 134 ≠ 133 by decide)]
  cases gHex (σ 134 0) <;> rfl
theorem m_maps_L {K : Int32} {j : Nat} (hj : j < 6) (hK : krem K (nI (gHalf (σ 134 0))) = nI j) (n : Nat) : ∀ (i fu : Nat) p, i + n = j → n < fu →
    fX7_maps_L15 K fu (nI i) (mst σ p) = some (mst σ (gTurns (σ 134 0) n p)) := by
  induction n with
  | zero =>
    intro i fu p hi hf
    match fu, hf with
    | fu + 1, _ =>
      unfold fX7_maps_L15
      simp only [m_half, Option.bind_some, mst_of (show 134 ≠ 133 by decide), hK]
      rw [if_neg (by unfold gHalf; split <;> decide), if_pos ((dI_le (by omega) (by omega)).2 (by omega))]
      rfl
  | succ n ih =>
    intro i fu p hi hf
    match fu, hf with
    | fu + 1, hf =>
      unfold fX7_maps_L15
      simp only [m_half, Option.bind_some, mst_of (show 134 ≠ 133 by decide), hK, m_turnsOnce]
      rw [if_neg (by unfold gHalf; split <;> decide), if_neg (by rw [dI_le (by omega) (by omega)]; omega), nI_add1]
      exact ih (i + 1) fu _ (by omega) (by omega)
theorem m_maps {k : Nat} (hk : k < 2 * gHalf (σ 134 0)) {p} : fX7_maps (nI k) (mst σ p) = some (mst σ (gMap (σ 134 0) k p)) := by
  have h12 : gHalf (σ 134 0) ≤ 6 := by unfold gHalf; split <;> decide
  have h4 : 4 ≤ gHalf (σ 134 0) := by unfold gHalf; split <;> decide
  unfold fX7_maps gMap fX7_maps_L13
  simp only [m_half, Option.bind_some, mst_of (show 134 ≠ 133 by decide)]
  have hr : ∀ h, 4 ≤ h → h ≤ 6 → ∀ k, k < 2 * h → krem (nI k) (nI h) = nI (if k < h then k else k - h) := by
    intro h ha hb
    match h, ha, hb with
    | 4, _, _ => decide
    | 5, _, _ => decide
    | 6, _, _ => decide
  have hr := hr _ h4 h12 k hk
  by_cases hlt : k < gHalf (σ 134 0)
  · rw [if_pos hlt, if_pos ((dI_lt (by omega) (by omega)).2 hlt)]
    rw [if_pos hlt] at hr
    exact m_maps_L (by omega) hr k 0 kFU p (by omega) (by unfold kFU; omega)
  · rw [if_neg hlt, if_neg (by rw [dI_lt (by omega) (by omega)]; exact hlt)]
    rw [if_neg hlt] at hr
    have := @m_mirrors σ 0 (by decide) p
    rw [show nI 0 = 0 from rfl] at this
    rw [this, Option.bind_some]
    exact m_maps_L (by omega) hr (k - gHalf (σ 134 0)) 0 kFU _ (by omega) (by unfold kFU; omega)
end MODEL1
