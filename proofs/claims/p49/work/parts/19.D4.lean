def inS (x y : Int32) : Prop := (-6 ≤ x ∧ x ≤ 6) ∧ -6 ≤ y ∧ y ≤ 6
theorem co6_enum {P : Int32 → Prop} (h : ∀ i, i < 13 → P (nI i - 6)) (u : Int32) (h1 : -6 ≤ u) (h2 : u ≤ 6) : P u := by
  have e13 : nI 13 = 13 := by decide
  refine i32_enum (-6) 13 (by decide) (fun i hi => ?_) u (by grind) (by rw [e13]; grind)
  have h3 := h i hi
  have h4 : -6 + nI i = nI i - 6 := by grind
  rw [h4]
  exact h3
theorem mcell_fin : ∀ i, i < 13 → ∀ j, j < 13 → (0 ≤ fX7_cell (nI i - 6) (nI j - 6) ∧ fX7_cell (nI i - 6) (nI j - 6) < 169) ∧ fX7_xOf (fX7_cell (nI i - 6) (nI j - 6)) = nI i - 6 ∧ fX7_yOf (fX7_cell (nI i - 6) (nI j - 6)) = nI j - 6 := by decide +kernel
theorem mcell_all {x y : Int32} (h : inS x y) : (0 ≤ fX7_cell x y ∧ fX7_cell x y < 169) ∧ fX7_xOf (fX7_cell x y) = x ∧ fX7_yOf (fX7_cell x y) = y := by
  refine co6_enum (P := fun x => (0 ≤ fX7_cell x y ∧ fX7_cell x y < 169) ∧ fX7_xOf (fX7_cell x y) = x ∧ fX7_yOf (fX7_cell x y) = y) (fun i hi => ?_) x h.1.1 h.1.2
  refine co6_enum (P := fun y => (0 ≤ fX7_cell (nI i - 6) y ∧ fX7_cell (nI i - 6) y < 169) ∧ fX7_xOf (fX7_cell (nI i - 6) y) = nI i - 6 ∧ fX7_yOf (fX7_cell (nI i - 6) y) = y) (fun j hj => ?_) y h.2.1 h.2.2
  exact mcell_fin i hi j hj
theorem e169 : nI 169 = 169 := by decide
theorem mcell_kin {x y : Int32} (h : inS x y) : kin (fX7_cell x y) 169 = true := by
  have h1 := (mcell_all h).1
  exact (kin_iff (by decide)).2 ⟨h1.1, by rw [e169]; exact h1.2⟩
def mk (x y : Int32) : Nat := (fX7_cell x y).toNatClampNeg
theorem mk_lt {x y : Int32} (h : inS x y) : mk x y < 169 := by
  have h1 := (mcell_all h).1
  exact i32_n h1.1 (by rw [e169]; exact h1.2) (by decide)
theorem mk_nI {x y : Int32} (h : inS x y) : nI (mk x y) = fX7_cell x y := i32_nI (mcell_all h).1.1
def mx (k : Nat) : Int32 := fX7_xOf (nI k)
def my (k : Nat) : Int32 := fX7_yOf (nI k)
theorem mx_mk {x y : Int32} (h : inS x y) : mx (mk x y) = x := by
  unfold mx
  rw [mk_nI h]
  exact (mcell_all h).2.1
theorem my_mk {x y : Int32} (h : inS x y) : my (mk x y) = y := by
  unfold my
  rw [mk_nI h]
  exact (mcell_all h).2.2
theorem mk_inj {x y u v : Int32} (h : inS x y) (h' : inS u v) (e : mk x y = mk u v) : x = u ∧ y = v := by
  constructor
  · rw [← mx_mk h, ← mx_mk h', e]
  · rw [← my_mk h, ← my_mk h', e]
theorem mxy_fin : ∀ c, c < 169 → (((-6 ≤ mx c ∧ mx c ≤ 6) ∧ -6 ≤ my c ∧ my c ≤ 6) ∧ fX7_cell (mx c) (my c) = nI c) := by decide +kernel
theorem mxy_in {c : Nat} (h : c < 169) : inS (mx c) (my c) := (mxy_fin c h).1
theorem mxy_at {c : Nat} (h : c < 169) : fX7_cell (mx c) (my c) = nI c := (mxy_fin c h).2
theorem mxy_mk {c : Nat} (h : c < 169) : mk (mx c) (my c) = c := by
  unfold mk
  rw [mxy_at h, nI_n (by omega)]
theorem inS_R {x y : Int32} (h : inS x y) : inR x y := by
  obtain ⟨⟨h1, h2⟩, h3, h4⟩ := h
  refine ⟨⟨?_, ?_⟩, ?_, ?_⟩ <;> grind
theorem near_S {a r x y : Int32} (hr : rOK r) (h : gNear a r x y = true) : inS x y := near_in hr h
section MODEL3
variable {σ : Sto}
theorem m_picCell {k : Nat} : fX7_isPictureCell (nI k) σ = some (gNear (σ 134 0) (σ 134 1) (mx k) (my k)) := by
  unfold fX7_isPictureCell
  rw [m_near]
  rfl
theorem m_boxCell {k : Nat} : fX7_isBoxCell (nI k) σ = some (gBox (σ 134 0) (σ 134 1) (mx k) (my k)) := by
  unfold fX7_isBoxCell
  rw [m_box]
  rfl
theorem m_laysChips_L (ok : OKm (σ 134)) (n : Nat) : ∀ (i fu : Nat) (τ : Sto), i + n = mN (σ 134) → n < fu → (∀ p, p ≠ 142 → τ p = σ p) → (∀ x y, inS x y → τ 142 (mk x y) = mBdL (σ 134) x y i) →
    ∃ ρ, fX7_laysChips_L24 fu (nI i) τ = some ρ ∧ (∀ x y, inS x y → ρ 142 (mk x y) = mBd (σ 134) x y) ∧ ∀ p, p ≠ 142 → ρ p = σ p := by
  have hn := came_le ok
  induction n with
  | zero =>
    intro i fu τ hi hf hp hx
    match fu, hf with
    | fu + 1, _ =>
      unfold fX7_laysChips_L24
      simp only [w5, z5, if_true, hp 134 (by decide), came_eq ok]
      rw [if_pos ((dI_le (by omega) (by omega)).2 (by omega))]
      refine ⟨τ, rfl, fun x y h => ?_, hp⟩
      rw [hx x y h]
      unfold mBd
      rw [← hi]
      rfl
  | succ n ih =>
    intro i fu τ hi hf hp hx
    match fu, hf with
    | fu + 1, hf =>
      unfold fX7_laysChips_L24
      simp only [w5, z5, if_true, hp 134 (by decide), came_eq ok]
      rw [if_neg (by rw [dI_le (by omega) (by omega)]; omega), m_isInside (by omega)]
      simp only [Option.bind_some, m_c (show i < 30 by omega) (w := 3) (by decide) (W := 3) rfl, m_c (show i < 30 by omega) (w := 4) (by decide) (W := 4) rfl, fX7_laysChips_L63, nI_add1, hp 134 (by decide)]
      have hi' : i < mN (σ 134) := by omega
      by_cases h6 : mC (σ 134) i 6 = 1
      · have hS : inS (mC (σ 134) i 3) (mC (σ 134) i 4) := near_S ok.2.1 (ok_near ok hi' h6)
        simp only [h6, decide_true, if_true, mcell_kin hS, klet_eq]
        refine ih (i + 1) fu _ (by omega) (by omega) (fun p h => by rw [su_k h, hp p h]) (fun x y h => ?_)
        unfold mBdL
        rw [su_at]
        by_cases he : mAt (σ 134) x y i
        · rw [if_pos he, if_pos]
          unfold mk
          rw [he.2.1, he.2.2]
        · rw [if_neg he, if_neg]
          · exact hx x y h
          · intro c
            have := mk_inj h hS c
            exact he ⟨h6, this.1.symm, this.2.symm⟩
      · simp only [h6, decide_false, Bool.false_eq_true, if_false]
        refine ih (i + 1) fu _ (by omega) (by omega) hp (fun x y h => ?_)
        unfold mBdL
        rw [if_neg (fun c => h6 c.1)]
        exact hx x y h
theorem m_laysChips_L2 (ok : OKm (σ 134)) (n : Nat) : ∀ (i fu : Nat) (τ : Sto), i + n = 169 → n < fu → (∀ p, p ≠ 142 → τ p = σ p) → (∀ k, k < i → τ 142 k = -1) →
    ∃ ρ, fX7_laysChips_L2 fu (nI i) τ = some ρ ∧ (∀ x y, inS x y → ρ 142 (mk x y) = mBd (σ 134) x y) ∧ ∀ p, p ≠ 142 → ρ p = σ p := by
  induction n with
  | zero =>
    intro i fu τ hi hf hp hx
    match fu, hf with
    | fu + 1, _ =>
      unfold fX7_laysChips_L2
      rw [← e169, if_pos ((dI_le (by omega) (by omega)).2 (by omega))]
      have hn := came_le ok
      exact m_laysChips_L ok (mN (σ 134)) 0 kFU τ (by omega) (by unfold kFU; omega) hp (fun x y h => hx _ (by have := mk_lt h; omega))
  | succ n ih =>
    intro i fu τ hi hf hp hx
    match fu, hf with
    | fu + 1, hf =>
      unfold fX7_laysChips_L2
      rw [← e169, if_neg (by rw [dI_le (by omega) (by omega)]; omega), if_pos (kin_nI (by omega) (by decide)), klet_eq, nI_add1, nI_n (by omega)]
      refine ih (i + 1) fu _ (by omega) (by omega) (fun p h => by rw [su_k h, hp p h]) (fun k hk => ?_)
      rw [su_at]
      split
      · rfl
      · exact hx k (by omega)
theorem m_laysChips (ok : OKm (σ 134)) : ∃ ρ, fX7_laysChips σ = some ρ ∧ (∀ x y, inS x y → ρ 142 (mk x y) = mBd (σ 134) x y) ∧ ∀ p, p ≠ 142 → ρ p = σ p :=
  m_laysChips_L2 ok 169 0 kFU σ (by omega) (by unfold kFU; omega) (fun _ _ => rfl) (fun k hk => absurd hk (by omega))
end MODEL3
def gCan (a : Int32) (v m : Nat) : Bool := decide (m < gMany a) && !(v.testBit m)
def gFol (a : Int32) (v : Nat) : Nat → Nat → Nat → Int32 × Int32 → Option (Nat × Int32 × Int32)
  | 0, _, _, _ => none
  | n + 1, u, m, p => if gCan a v m = true then (if gBet a (gMir a m p).1 (gMir a m p).2 = true then some (u, gMir a m p) else gFol a v n (u + 1) (1 - m) (gMir a m p)) else none
def gBest : Option (Nat × Int32 × Int32) → Option (Nat × Int32 × Int32) → Option (Nat × Int32 × Int32)
  | none, o => o
  | some s, none => some s
  | some s, some t => if t.1 < s.1 then some t else some s
def gSee (a : Int32) (v : Nat) (p : Int32 × Int32) : Option (Nat × Int32 × Int32) :=
  if gBet a p.1 p.2 = true then some (0, p) else gBest (gFol a v 6 1 0 p) (gFol a v 6 1 1 p)
def gChk1 (a : Int32) (v : Nat) (p : Int32 × Int32) (m : Nat) : Bool :=
  !(gCan a v m) || (match gSee a v p, gSee a v (gMir a m p) with
    | none, _ => true
    | some _, none => false
    | some s, some t => decide (t.1 ≤ s.1 + 1) && (!(decide (t.1 = s.1 + 1)) || decide (t.2 = s.2)))
def gChk2 (a : Int32) (v : Nat) (p : Int32 × Int32) : Bool :=
  match gSee a v p with
    | none => true
    | some s => decide (s.1 ≤ 6) && (decide (s.1 = 0) || ((gCan a v 0 && (match gSee a v (gMir a 0 p) with | none => false | some t => decide (t.1 + 1 = s.1))) || (gCan a v 1 && (match gSee a v (gMir a 1 p) with | none => false | some t => decide (t.1 + 1 = s.1)))))
def gChk (a : Int32) (v : Nat) (k : Nat) : Bool := !(gNear a 6 (mx k) (my k)) || ((gChk1 a v (mx k, my k) 0 && gChk1 a v (mx k, my k) 1) && gChk2 a v (mx k, my k))
set_option maxRecDepth 100000 in
theorem gChk_fin : ∀ v, v < 4 → ∀ k, k < 169 → (gChk 180 v k && gChk 90 v k && gChk 45 v k && gChk 60 v k && gChk 30 v k) = true := by decide +kernel
