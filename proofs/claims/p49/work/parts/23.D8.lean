def fld {S : Type} (g : Nat → S → S) (s : S) : Nat → S
  | 0 => s
  | n + 1 => g n (fld g s n)
theorem fld_loop_L {α S : Type} {L : Nat → S → Int32 → α} {R : S → α} {g : Nat → S → S} {N : Nat} (hN : N < 2147483648) {s0 : S}
    (step : ∀ fu s i, i < N → L (fu + 1) s (nI i) = L fu (g i s) (nI (i + 1))) (stop : ∀ fu s, L (fu + 1) s (nI N) = R s) (n : Nat) : ∀ (i fu : Nat), i + n = N → n < fu → L fu (fld g s0 i) (nI i) = R (fld g s0 N) := by
  induction n with
  | zero =>
    intro i fu hi hf
    match fu, hf with
    | fu + 1, _ =>
      have : i = N := by omega
      subst this
      exact stop fu _
  | succ n ih =>
    intro i fu hi hf
    match fu, hf with
    | fu + 1, hf =>
      rw [step fu _ i (by omega)]
      exact ih (i + 1) fu (by omega) (by omega)
theorem fld_loop {α S : Type} {L : Nat → S → Int32 → α} {R : S → α} {g : Nat → S → S} {N : Nat} (hN : N < 2000000) {s0 : S}
    (step : ∀ fu s i, i < N → L (fu + 1) s (nI i) = L fu (g i s) (nI (i + 1))) (stop : ∀ fu s, L (fu + 1) s (nI N) = R s) : L kFU s0 (nI 0) = R (fld g s0 N) :=
  fld_loop_L (by omega) step stop N 0 kFU (by omega) (by unfold kFU; omega)
theorem fld_sm (f : Nat → Int32) (v : Int32) (n : Nat) : fld (fun i v => v + f i) v n = v + sm f n := by
  induction n with
  | zero => show v = v + 0; grind
  | succ n ih =>
    show fld _ v n + f n = v + (sm f n + f n)
    rw [ih]
    grind
theorem sum_loop {α : Type} {L : Nat → Int32 → Int32 → α} {R : Int32 → α} {f : Nat → Int32} {N : Nat} (hN : N < 2000000) {v : Int32}
    (step : ∀ fu v i, i < N → L (fu + 1) v (nI i) = L fu (v + f i) (nI (i + 1))) (stop : ∀ fu v, L (fu + 1) v (nI N) = R v) : L kFU v (nI 0) = R (v + sm f N) := by
  rw [← fld_sm]
  exact fld_loop hN step stop
theorem add0 (x : Int32) : x + 0 = x := by grind
theorem zadd (x : Int32) : 0 + x = x := by grind
theorem le225 {i : Nat} (h : i < 225) : ¬ (225 : Int32) ≤ nI i := by
  rw [← e225, dI_le (by omega) (by omega)]; omega
theorem le169 {i : Nat} (h : i < 169) : ¬ (169 : Int32) ≤ nI i := by
  rw [← e169, dI_le (by omega) (by omega)]; omega
theorem kn225 {i : Nat} (h : i < 225) : kin (nI i) 225 = true := kin_nI h (by decide)
theorem kn169 {i : Nat} (h : i < 169) : kin (nI i) 169 = true := kin_nI h (by decide)
def isSeen (m : Vc) (x y : Int32) : Bool := (mSee m x y).isSome
theorem seen_S {m : Vc} (ok : OKm m) {x y : Int32} (h : ¬ inS x y) : mSee m x y = none := by
  cases hs : mSee m x y with
  | none => rfl
  | some s => exact absurd (near_S ok.2.1 (see_near hs).1) h
theorem near_nS {m : Vc} (ok : OKm m) {x y : Int32} (h : ¬ inS x y) : gNear (m 0) (m 1) x y = false := by
  cases hn : gNear (m 0) (m 1) x y with
  | false => rfl
  | true => exact absurd (near_S ok.2.1 hn) h
theorem mSrc_1 {m : Vc} (ok : OKm m) {x y : Int32} : mSrc m x y = -1 ↔ isSeen m x y = false := by
  unfold mSrc isSeen
  cases hs : mSee m x y with
  | none => simp
  | some s =>
    have := cell_ne1 (near_R ok.2.1 (box_near (see_box' ok hs)))
    simp [this]
theorem mRef_1 {m : Vc} (ok : OKm m) {x y : Int32} : mRef m x y = -1 ↔ isSeen m x y = false := by
  unfold mRef isSeen
  cases hs : mSee m x y with
  | none => simp
  | some s =>
    have := see_far' ok hs
    have := @nI_ne1 s.1 (by omega)
    simp [this]
theorem seen_ref {m : Vc} {τ : Sto} (h : SEEN m τ) {k : Nat} (hk : k < 169) : τ 143 k = mRef m (mx k) (my k) := by
  have := h k hk
  unfold mRef
  cases hs : mSee m (mx k) (my k) with
  | none => rw [hs] at this; exact this
  | some s => rw [hs] at this; exact this.1
def nSeen (m : Vc) : Int32 := sm (fun k => kb (isSeen m (mx k) (my k))) 169
theorem bit_kb : ∀ b : Bool, fX7_bit (kb b) = kb b := by decide
section Q1
variable {σ : Sto} {q b : Nat} {m : Vc}
theorem c_countSeen (ok : OKm m) (h : PX q m σ) : fX3_countSeen q σ = some (nSeen m) := by
  have h1 := sum_loop (L := fun fu v i => fX3_countSeen_L4 q fu v i σ) (R := some) (f := fun c => kb (isSeen m (cx c) (cy c))) (N := 225) (v := 0) (by decide) (fun fu v i hi => by
    show fX3_countSeen_L4 q (fu + 1) v (nI i) σ = _
    rw [fX3_countSeen_L4.eq_2]
    rw [if_neg (le225 hi), if_pos (kn225 hi), nI_n (by omega), (h.1 i hi).1]
    simp only [fX3_countSeen_L24, nI_add1, mSrc_1 ok]
    cases isSeen m (cx i) (cy i)
    · rw [if_pos rfl]; show _ = fX3_countSeen_L4 q fu (v + 0) _ σ; rw [add0]
    · rfl) (fun fu v => by show fX3_countSeen_L4 q (fu + 1) v 225 σ = _; rw [fX3_countSeen_L4.eq_2]; rfl)
  refine h1.trans ?_
  rw [zadd, sm_grid (G := fun x y => kb (isSeen m x y)) (fun x y hn => by show kb (isSeen m x y) = 0; unfold isSeen; rw [seen_S ok hn]; rfl)]
  rfl
theorem m_seen_L {R : Type} (ok : OKm m) (h : SEEN m σ) : fX7_seenMany_L8 kFU 0 0 σ = some (nSeen m, σ) := by
  have h1 := sum_loop (L := fun fu v i => fX7_seenMany_L8 fu v i σ) (R := fun v => some (v, σ)) (f := fun c => kb (isSeen m (mx c) (my c))) (N := 169) (v := 0) (by decide) (fun fu v i hi => by
    show fX7_seenMany_L8 (fu + 1) v (nI i) σ = _
    rw [fX7_seenMany_L8.eq_2]
    rw [if_neg (le169 hi), if_pos (kn169 hi), nI_n (by omega), seen_ref h hi]
    simp only [fX7_seenMany_L31, nI_add1, mRef_1 ok]
    cases isSeen m (mx i) (my i)
    · rw [if_pos rfl]; rfl
    · rfl) (fun fu v => by show fX7_seenMany_L8 (fu + 1) v 169 σ = _; rw [fX7_seenMany_L8.eq_2]; rfl)
  refine h1.trans ?_
  rw [zadd]
  rfl
theorem m_seenMany (ok : OKm (σ 134)) : ∃ ρ, fX7_seenMany σ = some (nSeen (σ 134), ρ) ∧ SEEN (σ 134) ρ ∧ FR P3 σ ρ := by
  obtain ⟨ρ, e, h1, h2⟩ := m_laysSeen ok
  unfold fX7_seenMany
  rw [e, Option.bind_some]
  exact ⟨ρ, m_seen_L (R := Unit) ok h1, h1, h2⟩
def nBox (m : Vc) : Int32 := sm (fun k => kb (gBox (m 0) (m 1) (mx k) (my k))) 169
def nPic (m : Vc) : Int32 := sm (fun k => kb (gNear (m 0) (m 1) (mx k) (my k))) 169
theorem c_boxCells (ok : OKm m) (h : LX σ q (m 0) (m 1)) : fX1_boxCells q σ = some (nBox m) := by
  have h1 := sum_loop (L := fun fu v i => fX1_boxCells_L4 q fu v i σ) (R := some) (f := fun c => kb (gBox (m 0) (m 1) (cx c) (cy c))) (N := 225) (v := 0) (by decide) (fun fu v i hi => by
    show fX1_boxCells_L4 q (fu + 1) v (nI i) σ = _
    rw [fX1_boxCells_L4.eq_2]
    have h2 := c_isInBox h (cxy_in hi)
    rw [cxy_at hi] at h2
    rw [if_neg (le225 hi), h2, Option.bind_some]
    simp only [fX1_boxCells_L22, nI_add1]
    cases gBox (m 0) (m 1) (cx i) (cy i)
    · rw [if_neg (by decide)]; show _ = fX1_boxCells_L4 q fu (v + 0) _ σ; rw [add0]
    · rfl) (fun fu v => by show fX1_boxCells_L4 q (fu + 1) v 225 σ = _; rw [fX1_boxCells_L4.eq_2]; rfl)
  refine h1.trans ?_
  rw [zadd, sm_grid (G := fun x y => kb (gBox (m 0) (m 1) x y)) (fun x y hn => by show kb (gBox (m 0) (m 1) x y) = 0; unfold gBox; rw [near_nS ok hn]; rfl)]
  rfl
theorem c_pictureCells (ok : OKm m) (h : LX σ q (m 0) (m 1)) : fX1_pictureCells q σ = some (nPic m) := by
  have h1 := sum_loop (L := fun fu v i => fX1_pictureCells_L4 q fu v i σ) (R := some) (f := fun c => kb (gNear (m 0) (m 1) (cx c) (cy c))) (N := 225) (v := 0) (by decide) (fun fu v i hi => by
    show fX1_pictureCells_L4 q (fu + 1) v (nI i) σ = _
    rw [fX1_pictureCells_L4.eq_2]
    have h2 := c_isInPicture h (cxy_in hi)
    rw [cxy_at hi] at h2
    rw [if_neg (le225 hi), h2, Option.bind_some]
    simp only [fX1_pictureCells_L22, nI_add1]
    cases gNear (m 0) (m 1) (cx i) (cy i)
    · rw [if_neg (by decide)]; show _ = fX1_pictureCells_L4 q fu (v + 0) _ σ; rw [add0]
    · rfl) (fun fu v => by show fX1_pictureCells_L4 q (fu + 1) v 225 σ = _; rw [fX1_pictureCells_L4.eq_2]; rfl)
  refine h1.trans ?_
  rw [zadd, sm_grid (G := fun x y => kb (gNear (m 0) (m 1) x y)) (fun x y hn => by show kb (gNear (m 0) (m 1) x y) = 0; rw [near_nS ok hn]; rfl)]
  rfl
theorem m_boxMany : fX7_boxMany σ = some (nBox (σ 134)) := by
  have h1 := sum_loop (L := fun fu v i => fX7_boxMany_L4 fu v i σ) (R := some) (f := fun c => kb (gBox (σ 134 0) (σ 134 1) (mx c) (my c))) (N := 169) (v := 0) (by decide) (fun fu v i hi => by
    show fX7_boxMany_L4 (fu + 1) v (nI i) σ = _
    rw [fX7_boxMany_L4.eq_2]
    rw [if_neg (le169 hi), m_boxCell, Option.bind_some, nI_add1, bit_kb]) (fun fu v => by show fX7_boxMany_L4 (fu + 1) v 169 σ = _; rw [fX7_boxMany_L4.eq_2]; rfl)
  refine h1.trans ?_
  rw [zadd]
  rfl
theorem m_pictureMany : fX7_pictureMany σ = some (nPic (σ 134)) := by
  have h1 := sum_loop (L := fun fu v i => fX7_pictureMany_L4 fu v i σ) (R := some) (f := fun c => kb (gNear (σ 134 0) (σ 134 1) (mx c) (my c))) (N := 169) (v := 0) (by decide) (fun fu v i hi => by
    show fX7_pictureMany_L4 (fu + 1) v (nI i) σ = _
    rw [fX7_pictureMany_L4.eq_2]
    rw [if_neg (le169 hi), m_picCell, Option.bind_some, nI_add1, bit_kb]) (fun fu v => by show fX7_pictureMany_L4 (fu + 1) v 169 σ = _; rw [fX7_pictureMany_L4.eq_2]; rfl)
  refine h1.trans ?_
  rw [zadd]
  rfl
def isImg (m : Vc) (u v x y : Int32) : Bool := match mSee m x y with | none => false | some s => decide (s.2 = (u, v))
def nImg (m : Vc) (u v : Int32) : Int32 := sm (fun k => kb (isImg m u v (mx k) (my k))) 169
theorem c_imagesOf (ok : OKm m) (h : PX q m σ) {u v : Int32} (hR : inR u v) : fX3_imagesOf q (fX1_cellAt u v) σ = some (nImg m u v) := by
  have h1 := sum_loop (L := fun fu w i => fX3_imagesOf_L4 q (fX1_cellAt u v) fu w i σ) (R := some) (f := fun c => kb (isImg m u v (cx c) (cy c))) (N := 225) (v := 0) (by decide) (fun fu w i hi => by
    show fX3_imagesOf_L4 q (fX1_cellAt u v) (fu + 1) w (nI i) σ = _
    rw [fX3_imagesOf_L4.eq_2]
    rw [if_neg (le225 hi), if_pos (kn225 hi), nI_n (by omega), (h.1 i hi).1]
    simp only [fX3_imagesOf_L24, nI_add1]
    unfold mSrc isImg
    cases hs : mSee m (cx i) (cy i) with
    | none =>
      simp only
      rw [if_neg (fun c => cell_ne1 hR c.symm)]
      show _ = fX3_imagesOf_L4 q _ fu (w + 0) _ σ
      rw [add0]
    | some s =>
      simp only
      have hbR := near_R ok.2.1 (box_near (see_box' ok hs))
      by_cases he : s.2 = (u, v)
      · rw [if_pos (by rw [he]), decide_eq_true he]
        rfl
      · rw [if_neg (fun c => he (by have := cell_inj hbR hR c; exact Prod.ext this.1 this.2)), decide_eq_false he]
        show _ = fX3_imagesOf_L4 q _ fu (w + 0) _ σ
        rw [add0]) (fun fu w => by show fX3_imagesOf_L4 q _ (fu + 1) w 225 σ = _; rw [fX3_imagesOf_L4.eq_2]; rfl)
  refine h1.trans ?_
  rw [zadd, sm_grid (G := fun x y => kb (isImg m u v x y)) (fun x y hn => by show kb (isImg m u v x y) = 0; unfold isImg; rw [seen_S ok hn]; rfl)]
  rfl
theorem m_images_L (ok : OKm m) (h : SEEN m σ) {u v : Int32} (hS : inS u v) : fX7_images_L24 u v kFU 0 0 σ = some (nImg m u v, σ) := by
  have h1 := sum_loop (L := fun fu w i => fX7_images_L24 u v fu w i σ) (R := fun w => some (w, σ)) (f := fun c => kb (isImg m u v (mx c) (my c))) (N := 169) (v := 0) (by decide) (fun fu w i hi => by
    show fX7_images_L24 u v (fu + 1) w (nI i) σ = _
    rw [fX7_images_L24.eq_2]
    rw [if_neg (le169 hi), if_pos (kn169 hi), nI_n (by omega), if_pos (kn169 hi)]
    simp only [fX7_images_L63, fX7_images_L64, nI_add1]
    have hk := h i hi
    unfold isImg
    cases hs : mSee m (mx i) (my i) with
    | none =>
      rw [hs] at hk
      simp only at hk
      rw [if_pos hk]
      rfl
    | some s =>
      rw [hs] at hk
      simp only at hk ⊢
      have h6 := see_far' ok hs
      have hbS := near_S ok.2.1 (box_near (see_box' ok hs))
      rw [if_neg (by rw [hk.1]; exact nI_ne1 (by omega)), hk.2]
      by_cases he : s.2 = (u, v)
      · rw [if_pos (by rw [he]), decide_eq_true he]
        rfl
      · rw [if_neg (fun c => he (by
          have e : mk s.2.1 s.2.2 = mk u v := by unfold mk; rw [c]
          have := mk_inj hbS hS e
          exact Prod.ext this.1 this.2)), decide_eq_false he]
        rfl) (fun fu w => by show fX7_images_L24 u v (fu + 1) w 169 σ = _; rw [fX7_images_L24.eq_2]; rfl)
  refine h1.trans ?_
  rw [zadd]
  rfl
end Q1
