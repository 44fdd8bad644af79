def F7 (σ τ : Sto) : Prop := FX σ τ ∧ τ 133 7 = σ 133 7
section F7S
variable {σ τ : Sto}
theorem f7_refl : F7 σ σ := ⟨fx_refl, rfl⟩
theorem f7_trans {ρ : Sto} (h : F7 σ τ) (h' : F7 τ ρ) : F7 σ ρ := ⟨fx_trans h.1 h'.1, by rw [h'.2, h.2]⟩
theorem f7_fr3 (h : FR P3 σ τ) : F7 σ τ := ⟨fx_fr3 h, h.2 7 (by decide) (by decide)⟩
theorem f7_fr5 (h : FR P5 σ τ) : F7 σ τ := ⟨fx_fr5 h, h.2 7 (by decide) (by decide)⟩
theorem f7_ms (h : MS σ τ) : F7 σ τ := ⟨fx_ms h, h.2 7 (by decide) (by decide)⟩
theorem f7_51 (h : ∀ p, F51 p → τ p = σ p) : F7 σ τ := ⟨fx_51 h, by rw [h 133 ⟨by decide, by decide⟩]⟩
end F7S
/-- a call that changes nothing that counts -/
theorem call_q {cl : Sto → Option KP} {md : Sto → Option (Int32 × Sto)} {xs : List Nat}
    (H : ∀ σ, REL σ → ∃ tag v σ1, cl σ = some (tag, v, σ1) ∧ FX σ σ1 ∧ ∀ σ', REL σ' → (∀ p, KeepR p → p ≠ 154 → σ' p = σ p) → (∀ i, K33 i → σ' 133 i = σ 133 i) → ∃ w σ2, md σ' = some (w, σ2) ∧ FX σ' σ2 ∧ THR xs tag (σ2 133 7) ∧ (tag = 0 → v = w)) : CALL cl md xs := by
  intro σ h
  obtain ⟨tag, v, σ1, e, hf, H'⟩ := H σ h
  refine ⟨tag, v, σ1, e, fun σ1' he => ?_⟩
  have h1 := rel_54 (rel_fx' h hf) he
  obtain ⟨w, σ2, e2, hf2, ht, hv⟩ := H' σ1' h1 (fun p hp h54 => by rw [he p h54, hf.1 p hp]) (fun i hi => by rw [he 133 (by decide), hf.2 i hi])
  exact ⟨w, σ2, e2, ht, hv, rel_fx' h1 hf2, hf2.1 154 (by unfold KeepR; omega)⟩
theorem thr_0 {xs : List Nat} : THR xs 0 0 := .inl ⟨rfl, rfl⟩
theorem thr_1 {a : Nat} {l : List Nat} (h : a ≠ 0) : THR (a :: l) a 1 := .inr ⟨h, 0, rfl, rfl⟩
theorem thr_2 {a b : Nat} {l : List Nat} (h : b ≠ 0) : THR (a :: b :: l) b 2 := .inr ⟨h, 1, rfl, rfl⟩
section BASE
variable {σ : Sto}
theorem rel_ok (h : REL σ) : OKm (σ 134) := h.1.1
theorem rel_bx (h : REL σ) : BX σ 25 (σ 134) := h.1.2.2.1
theorem rel_mk (h : REL σ) : MK σ := h.1.2.2.2
theorem c_needP (h : REL σ) {x y : Int32} : fX6_neededPictureCell x y σ = some (if gNear (σ 134 0) (σ 134 1) x y = true then (0, fX1_cellAt x y) else (3, 0)) := by
  have ok := rel_ok h
  unfold fX6_neededPictureCell
  rw [c_picCell (rel_bx h).1 ok.2.1, Option.bind_some]
  cases hn : gNear (σ 134 0) (σ 134 1) x y with
  | true => rw [if_pos rfl, if_neg (cell_ne1 (near_R ok.2.1 hn)), if_pos rfl]
  | false => rw [if_neg Bool.false_ne_true, if_pos rfl, if_neg Bool.false_ne_true]
theorem c_needB (h : REL σ) {x y : Int32} : fX6_neededBoxCell x y σ = some (if gBox (σ 134 0) (σ 134 1) x y = true then (0, fX1_cellAt x y) else (3, 0)) := by
  have ok := rel_ok h
  unfold fX6_neededBoxCell
  rw [c_boxCell (rel_bx h).1 ok.2.1, Option.bind_some]
  cases hn : gBox (σ 134 0) (σ 134 1) x y with
  | true => rw [if_pos rfl, if_neg (cell_ne1 (near_R ok.2.1 (box_near hn))), if_pos rfl]
  | false => rw [if_neg Bool.false_ne_true, if_pos rfl, if_neg Bool.false_ne_true]
theorem m_laysPic' (h : REL σ) {v : Int32} : ∃ ρ, fX7_laysPicture (th σ v) = some ρ ∧ LPic (σ 134) ρ ∧ F7 (th σ v) ρ ∧ ρ 134 = σ 134 ∧ MK ρ := by
  have e : th σ v 134 = σ 134 := th_p (by decide)
  obtain ⟨ρ, e1, h1, h2⟩ := @m_laysPicture (th σ v) (by rw [e]; exact rel_ok h)
  rw [e] at h1
  have g : ∀ p, P5 p → ρ p = σ p := fun p hp => by rw [h2.1 p hp, th_p hp.1]
  refine ⟨ρ, e1, h1, f7_fr5 h2, g 134 ⟨by decide, by decide, by decide, by decide, by decide⟩, mk_of (rel_mk h) (g 140 ⟨by decide, by decide, by decide, by decide, by decide⟩) (g 141 ⟨by decide, by decide, by decide, by decide, by decide⟩)⟩
theorem m_laysSeen' (h : REL σ) {v : Int32} : ∃ ρ, fX7_laysSeen (th σ v) = some ρ ∧ SEEN (σ 134) ρ ∧ F7 (th σ v) ρ ∧ ρ 134 = σ 134 := by
  have e : th σ v 134 = σ 134 := th_p (by decide)
  obtain ⟨ρ, e1, h1, h2⟩ := @m_laysSeen (th σ v) (by rw [e]; exact rel_ok h)
  rw [e] at h1
  exact ⟨ρ, e1, h1, f7_fr3 h2, by rw [h2.1 134 ⟨by decide, by decide, by decide⟩, e]⟩
theorem c_look' (h : REL σ) : ∃ ρ, fX3_look 7 25 σ = some ρ ∧ PX 7 (σ 134) ρ ∧ (∀ p, F14 7 p → ρ p = σ p) ∧ LX ρ 26 (σ 134 0) (σ 134 1) ∧ FX σ ρ := by
  obtain ⟨ρ, e, h1, h2⟩ := c_look (q0 := 7) (rel_ok h) (.inl (by decide)) (rel_bx h)
  exact ⟨ρ, e, h1, h2, (bx_frame (rel_bx h) (fun p a b => h2 p (by unfold F14; omega))).1, fx_14 (.inl rfl) h2⟩
theorem f7_th {v : Int32} {τ : Sto} (h : F7 (th σ v) τ) : FX σ τ ∧ τ 133 7 = v := ⟨fx_trans fx_th h.1, by rw [h.2, th_7]⟩
theorem px_pxc {q : Nat} {m : Vc} (h : PX q m σ) : PXc q m σ := fun c hc => (h.1 c hc).2.2
theorem lp_pm {m : Vc} (h : LPic m σ) (hm : σ 134 = m) (hk : MK σ) : PM m σ := ⟨hm, hk, h.2⟩
end BASE
/-- lifts of answers without a store, or without an exception -/
def liN (o : Option (Nat × Int32)) (σ : Sto) : Option KP := o.bind fun r => some (r.1, r.2, σ)
def liS (o : Option (Int32 × Sto)) : Option KP := o.bind fun r => some (0, r.1, r.2)
def liI (o : Option Int32) (σ : Sto) : Option KP := o.bind fun r => some (0, r, σ)
theorem q_depth (x y : Int32) : CALL (fun σ => liN (fX6_depth x y σ) σ) (fX7_depth x y) [3] := by
  refine call_q (fun σ h => ?_)
  have ok := rel_ok h
  have bx := rel_bx h
  unfold fX6_depth liN
  rw [c_needP h, Option.bind_some]
  cases hn : gNear (σ 134 0) (σ 134 1) x y with
  | true =>
    refine ⟨0, gDep (σ 134 0) (mD (σ 134)) x y, σ, ?_, fx_refl, fun σ' h' hk h3 => ?_⟩
    · simp only [if_true, bx1 bx, ok.2.2.1.1, c_dep bx.1 ok.2.2.1.2 (near_R ok.2.1 hn), Option.bind_some]
    · have e : σ' 134 = σ 134 := hk 134 (by unfold KeepR; omega) (by decide)
      unfold fX7_depth
      rw [m_near, Option.bind_some, e, hn, m_goes, Option.bind_some]
      have e2 : th σ' 0 134 = σ 134 := by rw [th_p (by decide), e]
      have hd := @m_dep (th σ' 0) (mk_of (rel_mk h') (th_p (by decide)) (th_p (by decide))) x y (mD (σ 134)) (by rw [e2]; exact ok.2.2.1.1) (by rw [e2]; exact ok.2.2.1.2)
      rw [e2] at hd
      simp only [if_true, hd, Option.bind_some]
      exact ⟨_, _, rfl, fx_th, by rw [th_7]; exact thr_0, fun _ => rfl⟩
  | false =>
    refine ⟨3, 0, σ, ?_, fx_refl, fun σ' h' hk h3 => ?_⟩
    · simp only [Bool.false_eq_true, if_false, show ¬ (3 : Nat) = 0 from by decide, Option.bind_some]
    · have e : σ' 134 = σ 134 := hk 134 (by unfold KeepR; omega) (by decide)
      unfold fX7_depth
      rw [m_near, Option.bind_some, e, hn, m_goes, Option.bind_some]
      simp only [Bool.false_eq_true, if_false]
      exact ⟨_, _, rfl, fx_th, by show THR _ _ (th σ' 1 133 7); rw [th_7]; exact thr_1 (by decide), fun c => absurd c (by decide)⟩
/-- the pattern of a call at a cell of the picture -/
theorem near_call {cl : Sto → Option KP} {md : Sto → Option (Int32 × Sto)} {x y : Int32} (C : Sto → Int32 → Option KP) (M : Sto → Option (Int32 × Sto))
    (hc : ∀ σ, cl σ = (fX6_neededPictureCell x y σ).bind fun r1 => if r1.1 = 0 then C σ r1.2 else some (r1.1, 0, σ))
    (hm : ∀ σ, md σ = (fX7_isNear x y σ).bind fun r1 => (fX7_goes (kb r1) σ).bind fun r4 => if r4.1 = true then M r4.2 else some (0, r4.2))
    (H : ∀ σ, REL σ → gNear (σ 134 0) (σ 134 1) x y = true → ∃ v σ1, C σ (fX1_cellAt x y) = some (0, v, σ1) ∧ FX σ σ1 ∧ ∀ σ', REL σ' → σ' 134 = σ 134 → ∃ σ2, M (th σ' 0) = some (v, σ2) ∧ F7 (th σ' 0) σ2) : CALL cl md [3] := by
  refine call_q (fun σ h => ?_)
  rw [hc, c_needP h, Option.bind_some]
  cases hn : gNear (σ 134 0) (σ 134 1) x y with
  | true =>
    obtain ⟨v, σ1, e1, f1, H'⟩ := H σ h hn
    refine ⟨0, v, σ1, by simpa using e1, f1, fun σ' h' hk h3 => ?_⟩
    have e : σ' 134 = σ 134 := hk 134 (by unfold KeepR; omega) (by decide)
    obtain ⟨σ2, e2, f2⟩ := H' σ' h' e
    rw [hm, m_near, Option.bind_some, e, hn, m_goes, Option.bind_some, if_pos rfl, if_pos rfl, e2]
    have g := f7_th f2
    exact ⟨v, σ2, rfl, g.1, by rw [g.2]; exact thr_0, fun _ => rfl⟩
  | false =>
    refine ⟨3, 0, σ, by simp, fx_refl, fun σ' h' hk h3 => ?_⟩
    have e : σ' 134 = σ 134 := hk 134 (by unfold KeepR; omega) (by decide)
    rw [hm, m_near, Option.bind_some, e, hn, m_goes, Option.bind_some, if_neg Bool.false_ne_true, if_neg Bool.false_ne_true]
    exact ⟨_, _, rfl, fx_th, by show THR _ _ (th σ' 1 133 7); rw [th_7]; exact thr_1 (by decide), fun c => absurd c (by decide)⟩
theorem box_call {cl : Sto → Option KP} {md : Sto → Option (Int32 × Sto)} {x y : Int32} (C : Sto → Int32 → Option KP) (M : Sto → Option (Int32 × Sto))
    (hc : ∀ σ, cl σ = (fX6_neededBoxCell x y σ).bind fun r1 => if r1.1 = 0 then C σ r1.2 else some (r1.1, 0, σ))
    (hm : ∀ σ, md σ = (fX7_isBox x y σ).bind fun r1 => (fX7_goes (kb r1) σ).bind fun r4 => if r4.1 = true then M r4.2 else some (0, r4.2))
    (H : ∀ σ, REL σ → gBox (σ 134 0) (σ 134 1) x y = true → ∃ v σ1, C σ (fX1_cellAt x y) = some (0, v, σ1) ∧ FX σ σ1 ∧ ∀ σ', REL σ' → σ' 134 = σ 134 → ∃ σ2, M (th σ' 0) = some (v, σ2) ∧ F7 (th σ' 0) σ2) : CALL cl md [3] := by
  refine call_q (fun σ h => ?_)
  rw [hc, c_needB h, Option.bind_some]
  cases hn : gBox (σ 134 0) (σ 134 1) x y with
  | true =>
    obtain ⟨v, σ1, e1, f1, H'⟩ := H σ h hn
    refine ⟨0, v, σ1, by simpa using e1, f1, fun σ' h' hk h3 => ?_⟩
    have e : σ' 134 = σ 134 := hk 134 (by unfold KeepR; omega) (by decide)
    obtain ⟨σ2, e2, f2⟩ := H' σ' h' e
    rw [hm, m_box, Option.bind_some, e, hn, m_goes, Option.bind_some, if_pos rfl, if_pos rfl, e2]
    have g := f7_th f2
    exact ⟨v, σ2, rfl, g.1, by rw [g.2]; exact thr_0, fun _ => rfl⟩
  | false =>
    refine ⟨3, 0, σ, by simp, fx_refl, fun σ' h' hk h3 => ?_⟩
    have e : σ' 134 = σ 134 := hk 134 (by unfold KeepR; omega) (by decide)
    rw [hm, m_box, Option.bind_some, e, hn, m_goes, Option.bind_some, if_neg Bool.false_ne_true, if_neg Bool.false_ne_true]
    exact ⟨_, _, rfl, fx_th, by show THR _ _ (th σ' 1 133 7); rw [th_7]; exact thr_1 (by decide), fun c => absurd c (by decide)⟩
/-- the pattern of a call with a number in a range -/
theorem range_call {cl : Sto → Option KP} {md : Sto → Option (Int32 × Sto)} {a lo hi : Int32} (C : Sto → Option KP) (M : Sto → Option (Int32 × Sto))
    (hc : ∀ σ, cl σ = (fX6_needRange a lo hi σ).bind fun r1 => if r1 = 0 then C σ else some (r1, 0, σ))
    (hm : ∀ σ, md σ = (fX7_goes (kb (fX7_isIn a lo hi)) σ).bind fun r1 => if r1.1 = true then M r1.2 else some (0, r1.2))
    (H : ∀ σ, REL σ → fX7_isIn a lo hi = true → ∃ v σ1, C σ = some (0, v, σ1) ∧ FX σ σ1 ∧ ∀ σ', REL σ' → (∀ p, KeepR p → p ≠ 154 → σ' p = σ p) → (∀ i, K33 i → σ' 133 i = σ 133 i) → ∃ σ2, M (th σ' 0) = some (v, σ2) ∧ F7 (th σ' 0) σ2) : CALL cl md [1] := by
  refine call_q (fun σ h => ?_)
  rw [hc, isIn_kb, Option.bind_some]
  cases hn : fX7_isIn a lo hi with
  | true =>
    obtain ⟨v, σ1, e1, f1, H'⟩ := H σ h hn
    refine ⟨0, v, σ1, by simpa using e1, f1, fun σ' h' hk h3 => ?_⟩
    obtain ⟨σ2, e2, f2⟩ := H' σ' h' hk h3
    rw [hm, hn, m_goes, Option.bind_some, if_pos rfl, if_pos rfl, e2]
    have g := f7_th f2
    exact ⟨v, σ2, rfl, g.1, by rw [g.2]; exact thr_0, fun _ => rfl⟩
  | false =>
    refine ⟨1, 0, σ, by simp, fx_refl, fun σ' h' hk h3 => ?_⟩
    rw [hm, hn, m_goes, Option.bind_some, if_neg Bool.false_ne_true, if_neg Bool.false_ne_true]
    exact ⟨_, _, rfl, fx_th, by show THR _ _ (th σ' 1 133 7); rw [th_7]; exact thr_1 (by decide), fun c => absurd c (by decide)⟩
/-- the pattern of a call that never throws -/
theorem plain_call {cl : Sto → Option KP} {md : Sto → Option (Int32 × Sto)} (M : Sto → Option (Int32 × Sto)) (hm : ∀ σ, md σ = M (th σ 0))
    (H : ∀ σ, REL σ → ∃ v σ1, cl σ = some (0, v, σ1) ∧ FX σ σ1 ∧ ∀ σ', REL σ' → (∀ p, KeepR p → p ≠ 154 → σ' p = σ p) → (∀ i, K33 i → σ' 133 i = σ 133 i) → ∃ σ2, M (th σ' 0) = some (v, σ2) ∧ F7 (th σ' 0) σ2) : CALL cl md [] := by
  refine call_q (fun σ h => ?_)
  obtain ⟨v, σ1, e1, f1, H'⟩ := H σ h
  refine ⟨0, v, σ1, e1, f1, fun σ' h' hk h3 => ?_⟩
  obtain ⟨σ2, e2, f2⟩ := H' σ' h' hk h3
  rw [hm, e2]
  have g := f7_th f2
  exact ⟨v, σ2, rfl, g.1, by rw [g.2]; exact thr_0, fun _ => rfl⟩
section TR
variable {σ : Sto} {x y : Int32}
theorem c_trace' (h : REL σ) (hn : gNear (σ 134 0) (σ 134 1) x y = true) : fX3_trace 7 25 (fX1_cellAt x y) σ = some (setP σ 7 (ci x y) (mSrc (σ 134) x y) (mRef (σ 134) x y)) ∧ FX σ (setP σ 7 (ci x y) (mSrc (σ 134) x y) (mRef (σ 134) x y)) :=
  ⟨c_trace (rel_ok h) (rel_bx h) (.inl (by decide)) hn, fx_c (fun p hp => setP_k (by unfold KeepR at hp; omega) (by unfold KeepR at hp; omega))⟩
theorem mk_kn (hS : inS x y) : fX7_cell x y = nI (mk x y) := (mk_nI hS).symm
end TR
theorem q_colour (x y : Int32) : CALL (fX6_colour x y) (fX7_colour x y) [3] := by
  refine near_call (fun σ c => (fX3_trace 7 25 c σ).bind fun r4 => (fX3_sourceOf 7 c r4).bind fun r7 => (fX5_colourOn 25 r7 r4).bind fun r10 => some (0, r10, r4)) (fun σ => (fX7_laysPicture σ).bind fun r7 => if kin (fX7_cell x y) 169 = true then some ((r7 145 (fX7_cell x y).toNatClampNeg), r7) else none) (fun σ => rfl) (fun σ => rfl) (fun σ h hn => ?_)
  have ok := rel_ok h
  have hR := near_R ok.2.1 hn
  have hS := near_S ok.2.1 hn
  obtain ⟨e1, f1⟩ := c_trace' h hn
  refine ⟨mCol (σ 134) x y, _, ?_, f1, fun σ' h' e => ?_⟩
  · rw [e1, Option.bind_some]
    unfold fX3_sourceOf
    rw [if_pos (cell_is hR), if_pos (cell_kin hR), ci_e, Option.bind_some, setP_1, if_pos rfl, c_colourOn ok (bx_frame (rel_bx h) (fun p a b => f1.1 p (by unfold KeepR; omega))), Option.bind_some]
  · obtain ⟨ρ, e2, h1, h2, h3, h4⟩ := @m_laysPic' σ' h' 0
    rw [e2, Option.bind_some, if_pos (mcell_kin hS)]
    rw [e] at h1
    have := h1.2 (mk x y) (mk_lt hS)
    rw [mx_mk hS, my_mk hS] at this
    rw [show (fX7_cell x y).toNatClampNeg = mk x y from rfl, this]
    unfold lC
    rw [if_pos hn]
    exact ⟨ρ, rfl, h2⟩
theorem q_reflections (x y : Int32) : CALL (fX6_reflections x y) (fX7_reflections x y) [3] := by
  refine near_call (fun σ c => (fX3_trace 7 25 c σ).bind fun r4 => (fX3_reflectionsOf 7 c r4).bind fun r7 => some (0, r7, r4)) (fun σ => (fX7_laysSeen σ).bind fun r7 => if kin (fX7_cell x y) 169 = true then some ((r7 143 (fX7_cell x y).toNatClampNeg), r7) else none) (fun σ => rfl) (fun σ => rfl) (fun σ h hn => ?_)
  have ok := rel_ok h
  have hR := near_R ok.2.1 hn
  have hS := near_S ok.2.1 hn
  obtain ⟨e1, f1⟩ := c_trace' h hn
  refine ⟨mRef (σ 134) x y, _, ?_, f1, fun σ' h' e => ?_⟩
  · rw [e1, Option.bind_some]
    unfold fX3_reflectionsOf
    rw [if_pos (cell_is hR), if_pos (cell_kin hR), ci_e, Option.bind_some, setP_2, if_pos rfl]
  · obtain ⟨ρ, e2, h1, h2, h3⟩ := @m_laysSeen' σ' h' 0
    rw [e] at h1
    have := seen_ref h1 (mk_lt hS)
    rw [mx_mk hS, my_mk hS] at this
    rw [e2, Option.bind_some, if_pos (mcell_kin hS), show (fX7_cell x y).toNatClampNeg = mk x y from rfl, this]
    exact ⟨ρ, rfl, h2⟩
theorem q_brightness (x y : Int32) : CALL (fX6_brightness x y) (fX7_brightness x y) [3] := by
  refine near_call (fun σ c => (fX3_trace 7 25 c σ).bind fun r4 => (fX3_brightnessOf 7 25 c r4).bind fun r7 => some (0, r7, r4)) (fun σ => (fX7_laysSeen σ).bind fun r7 => (fX7_brightnessOf (fX7_cell x y) r7).bind fun r10 => some (r10, r7)) (fun σ => rfl) (fun σ => rfl) (fun σ h hn => ?_)
  have ok := rel_ok h
  have hR := near_R ok.2.1 hn
  have hS := near_S ok.2.1 hn
  obtain ⟨e1, f1⟩ := c_trace' h hn
  refine ⟨mBr (σ 134) x y, _, ?_, f1, fun σ' h' e => ?_⟩
  · rw [e1, Option.bind_some]
    have hb := @c_bright (setP σ 7 (ci x y) (mSrc (σ 134) x y) (mRef (σ 134) x y)) 7 25 (σ 134) (ci x y) ok (by rw [f1.1 25 (by unfold KeepR; omega)]; exact (rel_bx h).2.1.2.1) (ci_lt hR) (by rw [setP_2, if_pos rfl, cx_ci hR, cy_ci hR])
    rw [cx_ci hR, cy_ci hR, ci_nI hR] at hb
    rw [hb, Option.bind_some]
  · obtain ⟨ρ, e2, h1, h2, h3⟩ := @m_laysSeen' σ' h' 0
    rw [e] at h1 h3
    have := m_bright ok h3 (mk_lt hS) h1
    rw [mx_mk hS, my_mk hS, mk_nI hS] at this
    rw [e2, Option.bind_some, this, Option.bind_some]
    exact ⟨ρ, rfl, h2⟩
theorem told_cell {x y : Int32} (hR : inR x y) {a : Int32} : fX6_told (fX1_cellAt x y) a = if a = 0 then x else y := by
  unfold fX6_told
  rw [if_neg (cell_ne1 hR), cell_x hR, cell_y hR]
theorem q_source (x y a : Int32) : CALL (fX6_source x y a) (fX7_source x y a) [3] := by
  refine near_call (fun σ c => (fX3_trace 7 25 c σ).bind fun r4 => (fX3_sourceOf 7 c r4).bind fun r7 => some (0, (fX6_told r7 a), r4)) (fun σ => (fX7_laysSeen σ).bind fun r7 => if kin (fX7_cell x y) 169 = true then (if (r7 143 (fX7_cell x y).toNatClampNeg) = (-1) then some ((-100), r7) else (if a = 0 then (if kin (fX7_cell x y) 169 = true then some ((fX7_xOf (r7 144 (fX7_cell x y).toNatClampNeg)), r7) else none) else (if kin (fX7_cell x y) 169 = true then some ((fX7_yOf (r7 144 (fX7_cell x y).toNatClampNeg)), r7) else none))) else none) (fun σ => rfl) (fun σ => rfl) (fun σ h hn => ?_)
  have ok := rel_ok h
  have hR := near_R ok.2.1 hn
  have hS := near_S ok.2.1 hn
  obtain ⟨e1, f1⟩ := c_trace' h hn
  refine ⟨fX6_told (mSrc (σ 134) x y) a, _, ?_, f1, fun σ' h' e => ?_⟩
  · rw [e1, Option.bind_some]
    unfold fX3_sourceOf
    rw [if_pos (cell_is hR), if_pos (cell_kin hR), ci_e, Option.bind_some, setP_1, if_pos rfl]
  · obtain ⟨ρ, e2, h1, h2, h3⟩ := @m_laysSeen' σ' h' 0
    rw [e] at h1
    have := h1 (mk x y) (mk_lt hS)
    rw [mx_mk hS, my_mk hS] at this
    rw [e2, Option.bind_some, if_pos (mcell_kin hS), show (fX7_cell x y).toNatClampNeg = mk x y from rfl]
    unfold mSrc
    cases hs : mSee (σ 134) x y with
    | none =>
      rw [hs] at this
      simp only at this
      rw [if_pos this]
      exact ⟨ρ, rfl, h2⟩
    | some s =>
      rw [hs] at this
      simp only at this ⊢
      have h6 := see_far' ok hs
      have hb := see_box' ok hs
      have hbS := near_S ok.2.1 (box_near hb)
      rw [if_neg (by rw [this.1]; exact nI_ne1 (by omega)), this.2, if_pos (mcell_kin hS), if_pos (mcell_kin hS), told_cell (inS_R hbS), (mcell_all hbS).2.1, (mcell_all hbS).2.2]
      split
      · exact ⟨ρ, rfl, h2⟩
      · exact ⟨ρ, rfl, h2⟩
theorem q_images (x y : Int32) : CALL (fX6_images x y) (fX7_images x y) [3] := by
  refine box_call (fun σ c => (fX3_look 7 25 σ).bind fun r4 => (fX3_imagesOf 7 c r4).bind fun r7 => some (0, r7, r4)) (fun σ => (fX7_laysSeen σ).bind fun r7 => fX7_images_L24 x y kFU 0 0 r7) (fun σ => rfl) (fun σ => rfl) (fun σ h hn => ?_)
  have ok := rel_ok h
  have hR := near_R ok.2.1 (box_near hn)
  have hS := near_S ok.2.1 (box_near hn)
  obtain ⟨ρ, e1, g1, g2, g3, g4⟩ := c_look' h
  refine ⟨nImg (σ 134) x y, ρ, ?_, g4, fun σ' h' e => ?_⟩
  · rw [e1, Option.bind_some, c_imagesOf ok g1 hR, Option.bind_some]
  · obtain ⟨ρ', e2, h1, h2, h3⟩ := @m_laysSeen' σ' h' 0
    rw [e] at h1
    rw [e2, Option.bind_some, m_images_L ok h1 hS]
    exact ⟨ρ', rfl, h2⟩
theorem q_chipAt (x y : Int32) : CALL (fun σ => liN (fX6_chipAt x y σ) σ) (fX7_chipAt x y) [3] := by
  refine box_call (fun σ c => (fX5_chipOn 25 c σ).bind fun r4 => some (0, r4, σ)) (fun σ => (fX7_chipNow x y σ).bind fun r7 => some (r7, σ)) (fun σ => ?_) (fun σ => rfl) (fun σ h hn => ?_)
  · unfold fX6_chipAt liN
    cases fX6_neededBoxCell x y σ with
    | none => rfl
    | some r =>
      simp only [Option.bind_some]
      by_cases h0 : r.1 = 0
      · simp only [if_pos h0]
        cases fX5_chipOn 25 r.2 σ <;> rfl
      · simp only [if_neg h0]
        rfl
  · have ok := rel_ok h
    have hR := near_R ok.2.1 (box_near hn)
    refine ⟨mBd (σ 134) x y, σ, ?_, fx_refl, fun σ' h' e => ?_⟩
    · rw [c_chipOn (rel_bx h) hR, Option.bind_some]
    · have e2 : th σ' 0 134 = σ 134 := by rw [th_p (by decide), e]
      have := @m_chipNow (th σ' 0) x y (by rw [e2]; exact came_eq ok) (by rw [e2]; exact came_le ok)
      rw [e2] at this
      rw [this, Option.bind_some]
      exact ⟨_, rfl, f7_refl⟩
theorem q_regionSize (x y : Int32) : CALL (fX6_regionSize x y) (fX7_regionSize x y) [3] := by
  refine near_call (fun σ c => (fX3_look 7 25 σ).bind fun r4 => (fX3_sizeOfRegion 7 26 c r4).bind fun r7 => some (0, r7.1, r7.2)) (fun σ => (fX7_laysPicture σ).bind fun r7 => (fX7_clearsRegions r7).bind fun r10 => if kin (fX7_cell x y) 169 = true then (if (r10 145 (fX7_cell x y).toNatClampNeg) = 0 then some (0, r10) else (fX7_floods (fX7_cell x y) 0 r10).bind fun r13 => some (r13.1, r13.2)) else none) (fun σ => rfl) (fun σ => rfl) (fun σ h hn => ?_)
  have ok := rel_ok h
  have hS := near_S ok.2.1 hn
  obtain ⟨ρ, e1, g1, g2, g3, g4⟩ := c_look' h
  have hnd : nd (σ 134) (mk x y) := ⟨mk_lt hS, by rw [mx_mk hS, my_mk hS]; exact hn⟩
  obtain ⟨ρ2, e2, g5⟩ := c_sizeOfRegion (q := 7) (q1 := 26) ok ⟨by decide, by decide, by decide, by decide⟩ g3 (px_pxc g1) hnd
  rw [mx_mk hS, my_mk hS] at e2
  refine ⟨_, ρ2, by rw [e1, Option.bind_some, e2, Option.bind_some], fx_trans g4 (fx_56 g5), fun σ' h' e => ?_⟩
  obtain ⟨τ, e3, h1, h2, h3, h4⟩ := @m_laysPic' σ' h' 0
  rw [e] at h1 h3
  obtain ⟨τ2, e4, h5, h6⟩ := @m_clearsR τ
  have hf : ∀ p, F51 p → τ2 p = τ p := fun p hp => h6 p hp.1
  have hpm := pm_51 (lp_pm h1 h3 h4) hf
  rw [e3, Option.bind_some, e4, Option.bind_some, if_pos (mcell_kin hS), show (fX7_cell x y).toNatClampNeg = mk x y from rfl, hpm.2.2 _ (mk_lt hS), nd_lC hnd, mk_kn hS]
  by_cases h0 : ndC (σ 134) (mk x y) = 0
  · rw [if_pos h0, if_pos h0]
    exact ⟨τ2, rfl, f7_trans h2 (f7_51 hf)⟩
  · rw [if_neg h0, if_neg h0]
    obtain ⟨τ3, e5, _, h7⟩ := m_floods (R := fun _ => False) ok cls_none (a2 := 0) (by decide) hnd (fun c => c) hpm (fun k hk => ⟨fun _ c => c, fun _ => h5 _ hk.1⟩)
    have e5' : fX7_floods (nI (mk x y)) 0 τ2 = some (nI (nReg (σ 134) (mk x y)), τ3) := e5
    rw [e5', Option.bind_some]
    exact ⟨τ3, rfl, f7_trans h2 (f7_trans (f7_51 hf) (f7_51 h7))⟩
theorem isIn_lo {a : Int32} {hi : Nat} (hh : hi < 1000) (h : fX7_isIn a 0 (nI hi) = true) : ∃ k, k ≤ hi ∧ a = nI k := by
  have := isIn_iff.1 h
  refine ⟨a.toNatClampNeg, ?_, (i32_nI this.1).symm⟩
  have h1 : a < nI (hi + 1) := by
    have h3 : nI hi < nI (hi + 1) := (dI_lt (by omega) (by omega)).2 (by omega)
    have := this.2
    grind
  have := i32_n this.1 h1 (by omega)
  omega
theorem isIn_1 {a : Int32} {hi : Nat} (hh : hi < 1000) (h : fX7_isIn a 1 (nI hi) = true) : ∃ k, 1 ≤ k ∧ k ≤ hi ∧ a = nI k := by
  have := isIn_iff.1 h
  obtain ⟨k, h1, h2⟩ := isIn_lo hh (isIn_iff.2 ⟨by have := this.1; grind, this.2⟩)
  refine ⟨k, ?_, h1, h2⟩
  have h3 := this.1
  rw [h2] at h3
  exact (dI_le (a := 1) (by omega) (by omega)).1 h3
theorem q_cellsOf (a : Int32) : CALL (fX6_cellsOf a) (fX7_cellsOf a) [1] := by
  refine range_call (lo := 0) (hi := 9) (fun σ => (fX6_cellsNow a σ).bind fun r4 => some (0, r4.1, r4.2)) (fun σ => (fX7_laysPicture σ).bind fun r4 => (fX7_cellsWith a r4).bind fun r7 => some (r7, r4)) (fun σ => rfl) (fun σ => rfl) (fun σ h hn => ?_)
  have ok := rel_ok h
  obtain ⟨k, hk, ea⟩ := isIn_lo (hi := 9) (by decide) hn
  subst ea
  obtain ⟨ρ, e1, g1, g2, g3, g4⟩ := c_look' h
  refine ⟨nCol (σ 134) (nI k), ρ, ?_, g4, fun σ' h' hK h3 => ?_⟩
  · unfold fX6_cellsNow
    rw [e1, Option.bind_some, c_countColour ok g1 (by omega), Option.bind_some, Option.bind_some]
  · obtain ⟨τ, e3, h1, h2, h3, h4⟩ := @m_laysPic' σ' h' 0
    have e : σ' 134 = σ 134 := hK 134 (by unfold KeepR; omega) (by decide)
    rw [e] at h1 h3
    rw [e3, Option.bind_some, m_cellsWith h3 h1, Option.bind_some]
    exact ⟨τ, rfl, h2⟩
theorem q_commonest (a : Int32) : CALL (fX6_commonest a) (fX7_commonest a) [1] := by
  refine range_call (lo := 0) (hi := 8) (fun σ => (fX3_look 7 25 σ).bind fun r4 => (fX3_commonestColour 7 a r4).bind fun r7 => some (0, r7, r4)) (fun σ => (fX7_laysPicture σ).bind fun r4 => fX7_commonest_L22 a kFU 1 r4) (fun σ => rfl) (fun σ => rfl) (fun σ h hn => ?_)
  have ok := rel_ok h
  obtain ⟨ρ, e1, g1, g2, g3, g4⟩ := c_look' h
  refine ⟨gCom (σ 134) a 9 1, ρ, ?_, g4, fun σ' h' hK h3 => ?_⟩
  · rw [e1, Option.bind_some, c_commonest ok g1, Option.bind_some]
  · obtain ⟨τ, e3, h1, h2, h3, h4⟩ := @m_laysPic' σ' h' 0
    have e : σ' 134 = σ 134 := hK 134 (by unfold KeepR; omega) (by decide)
    rw [e] at h1 h3
    rw [e3, Option.bind_some, m_commonest h3 h1]
    exact ⟨τ, rfl, h2⟩
theorem q_regions (a : Int32) : CALL (fX6_regions a) (fX7_regions a) [1] := by
  refine range_call (lo := 0) (hi := 9) (fun σ => (fX3_look 7 25 σ).bind fun r4 => (fX3_countRegions 7 26 a r4).bind fun r7 => some (0, r7.1, r7.2)) (fun σ => (fX7_laysPicture σ).bind fun r4 => (fX7_regionsOf a r4).bind fun r7 => some (r7.1, r7.2)) (fun σ => rfl) (fun σ => rfl) (fun σ h hn => ?_)
  have ok := rel_ok h
  obtain ⟨ρ, e1, g1, g2, g3, g4⟩ := c_look' h
  obtain ⟨ρ2, e2, g5⟩ := c_countRegions (q := 7) (q1 := 26) ok (isIn_iff.1 hn).1 ⟨by decide, by decide, by decide, by decide⟩ g3 (px_pxc g1)
  refine ⟨_, ρ2, by rw [e1, Option.bind_some, e2, Option.bind_some], fx_trans g4 (fx_56 g5), fun σ' h' hK h3 => ?_⟩
  obtain ⟨τ, e3, h1, h2, h3, h4⟩ := @m_laysPic' σ' h' 0
  have e : σ' 134 = σ 134 := hK 134 (by unfold KeepR; omega) (by decide)
  rw [e] at h1 h3
  obtain ⟨τ2, e4, h5⟩ := @m_regionsOf τ (σ 134) ok a (lp_pm h1 h3 h4)
  rw [e3, Option.bind_some, e4, Option.bind_some]
  exact ⟨τ2, rfl, f7_trans h2 (f7_51 h5)⟩
theorem q_edges : CALL (fun σ => liS (fX6_edges σ)) fX7_edges [] := by
  refine plain_call (fun σ1 => (fX7_laysPicture σ1).bind fun r2 => (fX7_edgesNow r2).bind fun r5 => some (r5, r2)) (fun σ => by unfold fX7_edges th; rw [klet_eq]) (fun σ h => ?_)
  have ok := rel_ok h
  obtain ⟨ρ, e1, g1, g2, g3, g4⟩ := c_look' h
  refine ⟨nEd (σ 134), ρ, ?_, g4, fun σ' h' hK h3 => ?_⟩
  · unfold fX6_edges liS
    rw [e1, Option.bind_some, c_edges ok g3 g1, Option.bind_some, Option.bind_some]
  · obtain ⟨τ, e3, h1, h2, h3, h4⟩ := @m_laysPic' σ' h' 0
    have e : σ' 134 = σ 134 := hK 134 (by unfold KeepR; omega) (by decide)
    rw [e] at h1 h3
    rw [e3, Option.bind_some, m_edges ok h4 h3 h1, Option.bind_some]
    exact ⟨τ, rfl, h2⟩
theorem q_light : CALL (fun σ => liS (fX6_light σ)) fX7_light [] := by
  refine plain_call (fun σ1 => (fX7_laysPicture σ1).bind fun r2 => fX7_light_L13 kFU 0 0 r2) (fun σ => by unfold fX7_light th; rw [klet_eq]) (fun σ h => ?_)
  have ok := rel_ok h
  obtain ⟨ρ, e1, g1, g2, g3, g4⟩ := c_look' h
  refine ⟨nLight (σ 134), ρ, ?_, g4, fun σ' h' hK h3 => ?_⟩
  · unfold fX6_light liS
    rw [e1, Option.bind_some, c_light ok (by rw [g4.1 25 (by unfold KeepR; omega)]; exact (rel_bx h).2.1.2.1) g1, Option.bind_some, Option.bind_some]
  · obtain ⟨τ, e3, h1, h2, h3, h4⟩ := @m_laysPic' σ' h' 0
    have e : σ' 134 = σ 134 := hK 134 (by unfold KeepR; omega) (by decide)
    rw [e] at h1 h3
    rw [e3, Option.bind_some, m_light_L ok h3 h1]
    exact ⟨τ, rfl, h2⟩
theorem q_symmetries : CALL (fun σ => liS (fX6_symmetries σ)) fX7_symmetries [] := by
  refine plain_call (fun σ1 => (fX7_laysPicture σ1).bind fun r2 => (fX7_symmetriesNow r2).bind fun r5 => some (r5.1, r5.2)) (fun σ => by unfold fX7_symmetries th; rw [klet_eq]) (fun σ h => ?_)
  have ok := rel_ok h
  obtain ⟨ρ, e1, g1, g2, g3, g4⟩ := c_look' h
  refine ⟨gSym (σ 134) (2 * gHalf (σ 134 0)), ρ, ?_, g4, fun σ' h' hK h3 => ?_⟩
  · unfold fX6_symmetries liS
    rw [e1, Option.bind_some, c_mapsOf ok g3 g1, Option.bind_some, Option.bind_some]
  · obtain ⟨τ, e3, h1, h2, h3, h4⟩ := @m_laysPic' σ' h' 0
    have e : σ' 134 = σ 134 := hK 134 (by unfold KeepR; omega) (by decide)
    rw [e] at h1 h3
    obtain ⟨τ2, e4, h5⟩ := m_symNow ok h3 h1
    rw [e3, Option.bind_some, e4, Option.bind_some]
    exact ⟨τ2, rfl, f7_trans h2 (f7_ms h5)⟩
