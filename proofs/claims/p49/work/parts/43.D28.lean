def CALLF {α : Type} (cl md : Sto → Option (α × Sto)) : Prop := ∀ σ, REL σ → ∃ v σ1, cl σ = some (v, σ1) ∧ ∀ σ1', E54 σ1 σ1' → ∃ σ2, md σ1' = some (v, σ2) ∧ REL σ2 ∧ σ2 154 = σ1' 154
theorem callF_q {α : Type} {cl md : Sto → Option (α × Sto)} (H : ∀ σ, REL σ → ∃ v σ1, cl σ = some (v, σ1) ∧ FX σ σ1 ∧ ∀ σ', REL σ' → (∀ p, KeepR p → p ≠ 154 → σ' p = σ p) → ∃ σ2, md σ' = some (v, σ2) ∧ FX σ' σ2) : CALLF cl md := by
  intro σ h
  obtain ⟨v, σ1, e, hf, H'⟩ := H σ h
  refine ⟨v, σ1, e, fun σ1' he => ?_⟩
  have h1 := rel_54 (rel_fx' h hf) he
  obtain ⟨σ2, e2, hf2⟩ := H' σ1' h1 (fun p hp h54 => by rw [he p h54, hf.1 p hp])
  exact ⟨σ2, e2, rel_fx' h1 hf2, hf2.1 154 (by unfold KeepR; omega)⟩
theorem sm_pos {b : Nat → Bool} {n k0 : Nat} (hn : n < 2147483648) (hk : k0 < n) (hb : b k0 = true) : ∃ j, 1 ≤ j ∧ j ≤ n ∧ sm (fun k => kb (b k)) n = nI j := by
  induction n with
  | zero => omega
  | succ n ih =>
    have h3 : sm (fun k => kb (b k)) (n + 1) = sm (fun k => kb (b k)) n + kb (b n) := rfl
    by_cases e : k0 = n
    · subst e
      obtain ⟨j, h1, h2⟩ := @sm_kb b k0 (by omega)
      exact ⟨j + 1, by omega, by omega, by rw [h3, h2, hb, ← nI_add1]; rfl⟩
    · obtain ⟨j, h1, h2, h4⟩ := ih (by omega) (by omega)
      cases hc : b n with
      | true => exact ⟨j + 1, by omega, by omega, by rw [h3, h4, hc, ← nI_add1]; rfl⟩
      | false => exact ⟨j, h1, by omega, by rw [h3, h4, hc]; show nI j + 0 = nI j; rw [add0]⟩
theorem box_00 {a r : Int32} (ha : gAng a) (hr : rOK r) : gBox a r 0 0 = true := by
  have h1 : gNear a r 0 0 = true := by
    rw [near_iff hr]
    have := hr.1
    refine ⟨⟨?_, ?_⟩, ⟨?_, ?_⟩, fun _ => ⟨?_, ?_⟩⟩ <;> grind
  unfold gBox
  rw [h1]
  rcases ha with h | h | h | h | h <;> subst h <;> rfl
theorem s00 : inS 0 0 := ⟨⟨by decide, by decide⟩, by decide, by decide⟩
theorem nSeen_pos {m : Vc} (ok : OKm m) : nSeen m ≠ 0 := by
  obtain ⟨j, h1, h2, h3⟩ := sm_pos (b := fun k => isSeen m (mx k) (my k)) (n := 169) (by decide) (mk_lt s00) (by
    show isSeen m (mx (mk 0 0)) (my (mk 0 0)) = true
    rw [mx_mk s00, my_mk s00]
    unfold isSeen
    rw [see_box0 (box_00 ok.1 ok.2.1)]
    rfl)
  have h4 : nSeen m = nI j := h3
  rw [h4]
  intro c
  have := (nI_inj (b := 0) (by omega) (by omega)).1 c
  omega
theorem nBox_pos {m : Vc} (ok : OKm m) : nBox m ≠ 0 := by
  obtain ⟨j, h1, h2, h3⟩ := sm_pos (b := fun k => gBox (m 0) (m 1) (mx k) (my k)) (n := 169) (by decide) (mk_lt s00) (by
    show gBox (m 0) (m 1) (mx (mk 0 0)) (my (mk 0 0)) = true
    rw [mx_mk s00, my_mk s00]
    exact box_00 ok.1 ok.2.1)
  have h4 : nBox m = nI j := h3
  rw [h4]
  intro c
  have := (nI_inj (b := 0) (by omega) (by omega)).1 c
  omega
theorem q_mean : CALLF fX6_meanBrightness fX7_meanBrightness := by
  refine callF_q (fun σ h => ?_)
  have ok := rel_ok h
  obtain ⟨ρ, e1, g1, g2, g3, g4⟩ := c_look' h
  refine ⟨FP.ddiv (FP.i2d (nBri (σ 134))) (FP.i2d (nSeen (σ 134))), ρ, ?_, g4, fun σ' h' hK => ?_⟩
  · unfold fX6_meanBrightness
    rw [e1, Option.bind_some, c_countSeen ok g1, Option.bind_some, if_neg (nSeen_pos ok), c_bri ok (by rw [g4.1 25 (by unfold KeepR; omega)]; exact (rel_bx h).2.1.2.1) g1, Option.bind_some, if_neg (nSeen_pos ok)]
  · have e : th σ' 0 134 = σ 134 := by rw [th_p (by decide), hK 134 (by unfold KeepR; omega) (by decide)]
    obtain ⟨τ, e2, h1, h2⟩ := @m_seenMany (th σ' 0) (by rw [e]; exact ok)
    rw [e] at e2 h1
    have et : τ 134 = σ 134 := by rw [h2.1 134 ⟨by decide, by decide, by decide⟩, e]
    unfold fX7_meanBrightness
    rw [klet_eq, show su σ' 133 7 0 = th σ' 0 from rfl, e2, Option.bind_some, m_mean_L ok et h1 (nSeen_pos ok)]
    exact ⟨τ, rfl, fx_trans fx_th (fx_fr3 h2)⟩
theorem q_filled : CALLF (fun σ => (fX6_filled σ).bind fun r => some (r, σ)) fX7_filled := by
  refine callF_q (fun σ h => ?_)
  have ok := rel_ok h
  have bx := rel_bx h
  refine ⟨FP.fdiv (FP.i2f (nIns (σ 134))) (FP.i2f (nBox (σ 134))), σ, ?_, fx_refl, fun σ' h' hK => ?_⟩
  · unfold fX6_filled
    rw [c_boxCells ok bx.1, Option.bind_some, if_neg (nBox_pos ok), c_chipsInBox ok bx, Option.bind_some, if_neg (nBox_pos ok), Option.bind_some]
  · have e : th σ' 0 134 = σ 134 := by rw [th_p (by decide), hK 134 (by unfold KeepR; omega) (by decide)]
    unfold fX7_filled
    rw [klet_eq, show su σ' 133 7 0 = th σ' 0 from rfl, m_insideMany (m := σ 134) ok e, Option.bind_some, m_boxMany, Option.bind_some, e, if_neg (nBox_pos ok)]
    exact ⟨_, rfl, fx_th⟩
noncomputable def chr (m : Vc) (x y : Int32) : Int32 := if gNear (m 0) (m 1) x y = true then 48 + mCol m x y else 32
noncomputable def xsL (m : Vc) (R : Nat) (y : Int32) : Nat → Nat → List Int32
  | 0, _ => [10]
  | n + 1, i => chr m (nI i - nI R) y :: xsL m R y n (i + 1)
noncomputable def ysL (m : Vc) (R : Nat) : Nat → Nat → List Int32
  | 0, _ => []
  | n + 1, j => xsL m R (nI R - nI j) (2 * R + 1) 0 ++ ysL m R n (j + 1)
theorem xs_len (m : Vc) (R : Nat) (y : Int32) (n : Nat) : ∀ i, (xsL m R y n i).length = n + 1 := by
  induction n with
  | zero => intro i; rfl
  | succ n ih => intro i; show (chr m _ y :: xsL m R y n (i + 1)).length = _; rw [List.length_cons, ih]
theorem ys_len (m : Vc) (R : Nat) (n : Nat) : ∀ j, (ysL m R n j).length = n * (2 * R + 2) := by
  induction n with
  | zero => intro j; show 0 = 0 * _; rw [Nat.zero_mul]
  | succ n ih =>
    intro j
    show (xsL m R _ (2 * R + 1) 0 ++ ysL m R n (j + 1)).length = _
    rw [List.length_append, xs_len, ih, Nat.succ_mul n (2 * R + 2)]
    omega
theorem wx_fin : ∀ R, R < 7 → ∀ i, i < 15 → ((nI R < nI i - nI R) ↔ 2 * R < i) ∧ ((nI R - nI i < -(nI R)) ↔ 2 * R < i) := by decide
/-- a line of bytes -/
def WO (q a : Nat) (l : List Int32) (n : Nat → Nat → Int32) : Prop := n q a = nI l.length
def HB (A : Nat → Int32) (l : List Int32) : Prop := ∀ i, i < l.length → A i = l.getD i 0
theorem hb_push {A : Nat → Int32} {l : List Int32} {v : Int32} (h : HB A l) : HB (vset A l.length v) (l ++ [v]) := by
  intro i hi
  rw [List.length_append] at hi
  have : [v].length = 1 := rfl
  rw [List.getD_eq_getElem?_getD, List.getElem?_append]
  by_cases c : i < l.length
  · rw [if_pos c, vset_ne (by omega), h i c, List.getD_eq_getElem?_getD]
  · have : i = l.length := by omega
    subst this
    rw [if_neg c, vset_eq, Nat.sub_self]
    rfl
section WR
variable {σ : Sto} {m : Vc}
theorem c_addB {l : List Int32} {v : Int32} (hl : l.length < 225) (h1 : σ 23 1 = nI l.length) (h2 : HB (σ 24) l) : ∃ τ, fX2_addByte 23 v σ = some τ ∧ τ 23 1 = nI (l ++ [v]).length ∧ HB (τ 24) (l ++ [v]) ∧ ∀ p, p ≠ 23 → p ≠ 24 → τ p = σ p := by
  unfold fX2_addByte
  rw [h1, if_neg (by have := @nI_lt0 l.length (by omega); grind), if_neg (le225 hl), if_pos (kn225 hl), klet_eq, klet_eq, nI_n (by omega)]
  refine ⟨_, rfl, ?_, ?_, fun p p1 p2 => by rw [su_k p1, su_k p2]⟩
  · rw [su_eq, su_k (by decide), h1, nI_add1, List.length_append]
    rfl
  · rw [su_k (by decide), su_v]
    exact hb_push h2
/-- what the class needs of the store while it writes -/
def CW (m : Vc) (σ : Sto) : Prop := LX σ 26 (m 0) (m 1) ∧ PXc 7 m σ
theorem cw_of {τ : Sto} (h : CW m σ) (hf : ∀ p, p ≠ 23 → p ≠ 24 → τ p = σ p) : CW m τ := by
  refine ⟨⟨?_, fun c hc => ?_⟩, fun c hc => ?_⟩
  · rw [hf 26 (by decide) (by decide)]; exact h.1.1
  · rw [hf (26 + 1) (by decide) (by decide)]; exact h.1.2 c hc
  · rw [hf (7 + 3) (by decide) (by decide)]; exact h.2 c hc
theorem c_rowL (ok : OKm m) {R : Nat} (hR : R < 7) (hR1 : m 1 = nI R) {y : Int32} {K : Int32 → Sto → Option Sto} (n : Nat) : ∀ (i fu : Nat) (l : List Int32) (τ : Sto), i + n = 2 * R + 1 → n < fu → l.length + n + 1 ≤ 225 → CW m τ → τ 23 1 = nI l.length → HB (τ 24) l →
    ∃ ρ, fX2_show_L26 23 7 26 K fu y (nI i - nI R) τ = K (y + (-1)) ρ ∧ CW m ρ ∧ ρ 23 1 = nI (l ++ xsL m R y n i).length ∧ HB (ρ 24) (l ++ xsL m R y n i) ∧ ∀ p, p ≠ 23 → p ≠ 24 → ρ p = τ p := by
  induction n with
  | zero =>
    intro i fu l τ hi hf hl hC h1 h2
    match fu, hf with
    | fu + 1, _ =>
      rw [fX2_show_L26.eq_2, hC.1.1.2.1, hR1, if_pos (((wx_fin R hR i (by omega)).1).2 (by omega))]
      obtain ⟨ρ, e, g1, g2, g3⟩ := c_addB (v := 10) (show l.length < 225 by omega) h1 h2
      rw [e, Option.bind_some]
      exact ⟨ρ, rfl, cw_of hC g3, g1, g2, g3⟩
  | succ n ih =>
    intro i fu l τ hi hf hl hC h1 h2
    match fu, hf with
    | fu + 1, hf =>
      have e1 : nI i - nI R + 1 = nI (i + 1) - nI R := by rw [← nI_add1]; grind
      rw [fX2_show_L26.eq_2, hC.1.1.2.1, hR1, if_neg (fun c => by have := ((wx_fin R hR i (by omega)).1).1 c; omega), c_picCell hC.1 ok.2.1, Option.bind_some, e1]
      have step : ∃ ρ1, fX2_addByte 23 (chr m (nI i - nI R) y) τ = some ρ1 ∧ ρ1 23 1 = nI (l ++ [chr m (nI i - nI R) y]).length ∧ HB (ρ1 24) (l ++ [chr m (nI i - nI R) y]) ∧ ∀ p, p ≠ 23 → p ≠ 24 → ρ1 p = τ p := c_addB (show l.length < 225 by omega) h1 h2
      obtain ⟨ρ1, e2, g1, g2, g3⟩ := step
      have hl1 : (l ++ [chr m (nI i - nI R) y]).length = l.length + 1 := by simp
      obtain ⟨ρ, f1, f2, f3, f4, f5⟩ := ih (i + 1) fu (l ++ [chr m (nI i - nI R) y]) ρ1 (by omega) (by omega) (by omega) (cw_of hC g3) g1 g2
      have el : l ++ [chr m (nI i - nI R) y] ++ xsL m R y n (i + 1) = l ++ xsL m R y (n + 1) i := by rw [List.append_assoc]; rfl
      rw [el] at f3 f4
      refine ⟨ρ, ?_, f2, f3, f4, fun p p1 p2 => by rw [f5 p p1 p2, g3 p p1 p2]⟩
      rw [← f1]
      unfold chr at e2
      cases hn : gNear (m 0) (m 1) (nI i - nI R) y with
      | true =>
        have hRR := near_R ok.2.1 hn
        rw [hn, if_pos rfl] at e2
        have hpc : pC m (nI i - nI R) y = mCol m (nI i - nI R) y := by unfold pC; rw [hn, if_pos rfl]
        rw [if_pos rfl, if_neg (cell_ne1 hRR), px_c hC.2 hRR, Option.bind_some, hpc, e2, Option.bind_some]
      | false =>
        rw [hn, if_neg Bool.false_ne_true] at e2
        rw [if_neg Bool.false_ne_true, if_pos rfl, e2, Option.bind_some]
theorem c_rows (ok : OKm m) {R : Nat} (hR : R < 7) (hR1 : m 1 = nI R) (n : Nat) : ∀ (j fu : Nat) (l : List Int32) (τ : Sto), j + n = 2 * R + 1 → n < fu → l.length + n * (2 * R + 2) ≤ 225 → CW m τ → τ 23 1 = nI l.length → HB (τ 24) l →
    ∃ ρ, fX2_show_L10 23 7 26 fu (nI R - nI j) τ = some ρ ∧ ρ 23 1 = nI (l ++ ysL m R n j).length ∧ HB (ρ 24) (l ++ ysL m R n j) ∧ ∀ p, p ≠ 23 → p ≠ 24 → ρ p = τ p := by
  induction n with
  | zero =>
    intro j fu l τ hj hf hl hC h1 h2
    match fu, hf with
    | fu + 1, _ =>
      rw [fX2_show_L10.eq_2, hC.1.1.2.1, hR1, if_pos (((wx_fin R hR j (by omega)).2).2 (by omega))]
      have : ysL m R 0 j = [] := rfl
      rw [this, List.append_nil]
      exact ⟨τ, rfl, h1, h2, fun _ _ _ => rfl⟩
  | succ n ih =>
    intro j fu l τ hj hf hl hC h1 h2
    match fu, hf with
    | fu + 1, hf =>
      rw [Nat.succ_mul] at hl
      have e0 : -(nI R) = nI 0 - nI R := by rw [show nI 0 = 0 from rfl]; grind
      rw [fX2_show_L10.eq_2, hC.1.1.2.1, hR1, if_neg (fun c => by have := ((wx_fin R hR j (by omega)).2).1 c; omega), e0]
      obtain ⟨ρ1, f1, f2, f3, f4, f5⟩ := c_rowL (K := fX2_show_L10 23 7 26 fu) ok hR hR1 (y := nI R - nI j) (2 * R + 1) 0 kFU l τ (by omega) (by unfold kFU; omega) (by omega) hC h1 h2
      have e1 : nI R - nI j + (-1) = nI R - nI (j + 1) := by rw [← nI_add1]; grind
      rw [f1, e1]
      have hlen : (l ++ xsL m R (nI R - nI j) (2 * R + 1) 0).length = l.length + (2 * R + 2) := by rw [List.length_append, xs_len]
      obtain ⟨ρ, g1, g2, g3, g4⟩ := ih (j + 1) fu _ ρ1 (by omega) (by omega) (by rw [hlen]; omega) f2 f3 f4
      have el : l ++ xsL m R (nI R - nI j) (2 * R + 1) 0 ++ ysL m R n (j + 1) = l ++ ysL m R (n + 1) j := by rw [List.append_assoc]; rfl
      rw [el] at g2 g3
      exact ⟨ρ, g1, g2, g3, fun p p1 p2 => by rw [g4 p p1 p2, f5 p p1 p2]⟩
/-- what the Model needs of the store while it writes -/
def MW (m : Vc) (σ : Sto) : Prop := σ 134 = m ∧ ∀ k, k < 169 → σ 145 k = lC m (mx k) (my k)
def F3W (σ τ : Sto) : Prop := (∀ p, p ≠ 133 → p ≠ 153 → τ p = σ p) ∧ ∀ i, i ≠ 34 → τ 133 i = σ 133 i
theorem f3_refl : F3W σ σ := ⟨fun _ _ _ => rfl, fun _ _ => rfl⟩
theorem f3_trans {τ ρ : Sto} (h : F3W σ τ) (h' : F3W τ ρ) : F3W σ ρ := ⟨fun p a b => by rw [h'.1 p a b, h.1 p a b], fun i hi => by rw [h'.2 i hi, h.2 i hi]⟩
theorem mw_of {τ : Sto} (h : MW m σ) (hf : F3W σ τ) : MW m τ := ⟨by rw [hf.1 134 (by decide) (by decide)]; exact h.1, fun k hk => by rw [hf.1 145 (by decide) (by decide)]; exact h.2 k hk⟩
theorem m_addB {l : List Int32} {v : Int32} (hl : l.length < 200) (h1 : σ 133 34 = nI l.length) (h2 : HB (σ 153) l) {K : Sto → Option (Int32 × Sto)} : ∃ τ, (if kin (σ 133 34) 200 = true then klet (su σ 153 (σ 133 34).toNatClampNeg v) fun σ6 => klet (su σ6 133 34 ((σ6 133 34) + 1)) fun σ7 => K σ7 else none) = K τ ∧ τ 133 34 = nI (l ++ [v]).length ∧ HB (τ 153) (l ++ [v]) ∧ F3W σ τ := by
  rw [h1, if_pos (kin_nI hl (by decide)), klet_eq, klet_eq, nI_n (by omega)]
  refine ⟨_, rfl, ?_, ?_, fun p p1 p2 => by rw [su_k p1, su_k p2], fun i hi => by rw [su_i hi, su_k (by decide)]⟩
  · rw [su_eq, su_k (by decide), h1, nI_add1, List.length_append]
    rfl
  · rw [su_k (by decide), su_v]
    exact hb_push h2
theorem m_rowL (ok : OKm m) {R : Nat} (hR : R < 7) (hR1 : m 1 = nI R) {y : Int32} {K : Int32 → Sto → Option (Int32 × Sto)} (n : Nat) : ∀ (i fu : Nat) (l : List Int32) (τ : Sto), i + n = 2 * R + 1 → n < fu → l.length + n + 1 ≤ 200 → MW m τ → τ 133 34 = nI l.length → HB (τ 153) l →
    ∃ ρ, fX7_write_L40 K fu y (nI i - nI R) τ = K (y + (-1)) ρ ∧ MW m ρ ∧ ρ 133 34 = nI (l ++ xsL m R y n i).length ∧ HB (ρ 153) (l ++ xsL m R y n i) ∧ F3W τ ρ := by
  induction n with
  | zero =>
    intro i fu l τ hi hf hl hC h1 h2
    match fu, hf with
    | fu + 1, _ =>
      rw [fX7_write_L40.eq_2, if_pos (show kin 1 220 = true by decide), z1, hC.1, hR1, if_pos (((wx_fin R hR i (by omega)).1).2 (by omega))]
      obtain ⟨ρ, e, g1, g2, g3⟩ := m_addB (v := 10) (K := fun s => K (y + (-1)) s) (show l.length < 200 by omega) h1 h2
      rw [e]
      exact ⟨ρ, rfl, mw_of hC g3, g1, g2, g3⟩
  | succ n ih =>
    intro i fu l τ hi hf hl hC h1 h2
    match fu, hf with
    | fu + 1, hf =>
      have e1 : nI i - nI R + 1 = nI (i + 1) - nI R := by rw [← nI_add1]; grind
      rw [fX7_write_L40.eq_2, if_pos (show kin 1 220 = true by decide), z1, hC.1, hR1, if_neg (fun c => by have := ((wx_fin R hR i (by omega)).1).1 c; omega), m_near, Option.bind_some, hC.1, e1]
      have fin : ∀ (v : Int32), v = chr m (nI i - nI R) y → ∃ ρ, (if kin (τ 133 34) 200 = true then klet (su τ 153 (τ 133 34).toNatClampNeg v) fun σ6 => klet (su σ6 133 34 ((σ6 133 34) + 1)) fun σ7 => fX7_write_L40 K fu y (nI (i + 1) - nI R) σ7 else none) = K (y + (-1)) ρ ∧ MW m ρ ∧ ρ 133 34 = nI (l ++ xsL m R y (n + 1) i).length ∧ HB (ρ 153) (l ++ xsL m R y (n + 1) i) ∧ F3W τ ρ := by
        intro v hv
        obtain ⟨ρ1, e2, g1, g2, g3⟩ := m_addB (v := v) (K := fun s => fX7_write_L40 K fu y (nI (i + 1) - nI R) s) (show l.length < 200 by omega) h1 h2
        have hl1 : (l ++ [v]).length = l.length + 1 := by simp
        obtain ⟨ρ, f1, f2, f3, f4, f5⟩ := ih (i + 1) fu (l ++ [v]) ρ1 (by omega) (by omega) (by omega) (mw_of hC g3) g1 g2
        have el : l ++ [v] ++ xsL m R y n (i + 1) = l ++ xsL m R y (n + 1) i := by rw [List.append_assoc, hv]; rfl
        rw [el] at f3 f4
        exact ⟨ρ, by rw [e2, f1], f2, f3, f4, f3_trans g3 f5⟩
      unfold chr at fin
      cases hn : gNear (m 0) (m 1) (nI i - nI R) y with
      | true =>
        have hS := near_S ok.2.1 hn
        rw [hn, if_pos rfl] at fin
        have hlc : τ 145 (mk (nI i - nI R) y) = mCol m (nI i - nI R) y := by rw [hC.2 _ (mk_lt hS), mx_mk hS, my_mk hS]; unfold lC; rw [hn, if_pos rfl]
        rw [if_pos rfl, if_pos (mcell_kin hS), show (fX7_cell (nI i - nI R) y).toNatClampNeg = mk (nI i - nI R) y from rfl, hlc]
        exact fin _ rfl
      | false =>
        rw [hn, if_neg Bool.false_ne_true] at fin
        rw [if_neg Bool.false_ne_true]
        exact fin _ rfl
theorem m_rows (ok : OKm m) {R : Nat} (hR : R < 7) (hR1 : m 1 = nI R) (n : Nat) : ∀ (j fu : Nat) (l : List Int32) (τ : Sto), j + n = 2 * R + 1 → n < fu → l.length + n * (2 * R + 2) ≤ 200 → MW m τ → τ 133 34 = nI l.length → HB (τ 153) l →
    ∃ ρ, fX7_write_L21 fu (nI R - nI j) τ = some (nI (l ++ ysL m R n j).length, ρ) ∧ ρ 133 34 = nI (l ++ ysL m R n j).length ∧ HB (ρ 153) (l ++ ysL m R n j) ∧ F3W τ ρ := by
  induction n with
  | zero =>
    intro j fu l τ hj hf hl hC h1 h2
    match fu, hf with
    | fu + 1, _ =>
      rw [fX7_write_L21.eq_2, if_pos (show kin 1 220 = true by decide), z1, hC.1, hR1, if_pos (((wx_fin R hR j (by omega)).2).2 (by omega))]
      have : ysL m R 0 j = [] := rfl
      rw [this, List.append_nil, h1]
      exact ⟨τ, rfl, h1, h2, f3_refl⟩
  | succ n ih =>
    intro j fu l τ hj hf hl hC h1 h2
    match fu, hf with
    | fu + 1, hf =>
      rw [Nat.succ_mul] at hl
      have e0 : -(nI R) = nI 0 - nI R := by rw [show nI 0 = 0 from rfl]; grind
      rw [fX7_write_L21.eq_2, if_pos (show kin 1 220 = true by decide), z1, hC.1, hR1, if_neg (fun c => by have := ((wx_fin R hR j (by omega)).2).1 c; omega), if_pos (show kin 1 220 = true by decide), e0]
      obtain ⟨ρ1, f1, f2, f3, f4, f5⟩ := m_rowL (K := fX7_write_L21 fu) ok hR hR1 (y := nI R - nI j) (2 * R + 1) 0 kFU l τ (by omega) (by unfold kFU; omega) (by omega) hC h1 h2
      have e1 : nI R - nI j + (-1) = nI R - nI (j + 1) := by rw [← nI_add1]; grind
      rw [f1, e1]
      have hlen : (l ++ xsL m R (nI R - nI j) (2 * R + 1) 0).length = l.length + (2 * R + 2) := by rw [List.length_append, xs_len]
      obtain ⟨ρ, g1, g2, g3, g4⟩ := ih (j + 1) fu _ ρ1 (by omega) (by omega) (by rw [hlen]; omega) f2 f3 f4
      have el : l ++ xsL m R (nI R - nI j) (2 * R + 1) 0 ++ ysL m R n (j + 1) = l ++ ysL m R (n + 1) j := by rw [List.append_assoc]; rfl
      rw [el] at g1 g2 g3
      exact ⟨ρ, g1, g2, g3, f3_trans f5 g4⟩
end WR
theorem rad_n {m : Vc} (ok : OKm m) : ∃ R, 1 ≤ R ∧ R ≤ 6 ∧ m 1 = nI R := isIn_1 (hi := 6) (by decide) (isIn_iff.2 ok.2.1)
theorem q_write : CALL (fun σ => liS (fX6_write σ)) fX7_write [] := by
  intro σ h
  have ok := rel_ok h
  obtain ⟨R, hR1, hR6, hR⟩ := rad_n ok
  obtain ⟨ρ, e1, g1, g2, g3, g4⟩ := c_look' h
  have hcw : CW (σ 134) (su ρ 23 1 0) := cw_of (σ := ρ) ⟨g3, px_pxc g1⟩ (fun p p1 _ => su_k p1)
  have hlen : ([] : List Int32).length + (2 * R + 1) * (2 * R + 2) ≤ 182 := by
    have h1 : (2 * R + 1) * (2 * R + 2) ≤ 13 * 14 := Nat.mul_le_mul (by omega) (by omega)
    show 0 + _ ≤ 182
    omega
  obtain ⟨ρ2, e2, k1, k2, k3⟩ := c_rows ok (R := R) (by omega) hR (2 * R + 1) 0 kFU [] (su ρ 23 1 0) (by omega) (by unfold kFU; omega) (by omega) hcw su_eq (fun i hi => absurd hi (by simp))
  have hrad : su ρ 23 1 0 26 1 = nI R - nI 0 := by rw [hcw.1.1.2.1, hR, show nI 0 = 0 from rfl]; grind
  have ylen := ys_len (σ 134) R (2 * R + 1) 0
  rw [List.nil_append] at k1 k2
  have k3' : ∀ p, p ≠ 23 → p ≠ 24 → ρ2 p = ρ p := fun p p1 p2 => by rw [k3 p p1 p2, su_k p1]
  refine ⟨0, nI (ysL (σ 134) R (2 * R + 1) 0).length, ρ2, ?_, fun σ1' he => ?_⟩
  · show liS (fX6_write σ) = _
    unfold liS fX6_write fX2_show
    rw [e1, Option.bind_some, klet_eq, hrad, e2, Option.bind_some, Option.bind_some, k1]
  · have hK : ∀ p, KeepR p → p ≠ 23 → p ≠ 24 → p ≠ 154 → σ1' p = σ p := fun p a b c d => by rw [he p d, k3' p b c, g4.1 p a]
    have h33 : ∀ i, K33 i → σ1' 133 i = σ 133 i := fun i hi => by rw [he 133 (by decide), k3' 133 (by decide) (by decide), g4.2 i hi]
    have e : th σ1' 0 134 = σ 134 := by rw [th_p (by decide), hK 134 (by unfold KeepR; omega) (by decide) (by decide) (by decide)]
    obtain ⟨τ, e3, h1, h2⟩ := @m_laysPicture (th σ1' 0) (by rw [e]; exact ok)
    rw [e] at h1
    have et : τ 134 = σ 134 := by rw [h2.1 134 ⟨by decide, by decide, by decide, by decide, by decide⟩, e]
    have hmw : MW (σ 134) (su τ 133 34 0) := ⟨by rw [su_k (by decide), et], fun k hk => by rw [su_k (by decide)]; exact h1.2 k hk⟩
    obtain ⟨τ2, e4, m1, m2, m3⟩ := m_rows ok (R := R) (by omega) hR (2 * R + 1) 0 kFU [] (su τ 133 34 0) (by omega) (by unfold kFU; omega) (by omega) hmw su_eq (fun i hi => absurd hi (by simp))
    have hrad2 : su τ 133 34 0 134 1 = nI R - nI 0 := by rw [hmw.1, hR, show nI 0 = 0 from rfl]; grind
    rw [List.nil_append] at e4 m1 m2
    have kf : ∀ p, KeepR p → p ≠ 153 → τ2 p = σ1' p := fun p a b => by
      have hp133 : p ≠ 133 := by unfold KeepR at a; omega
      rw [m3.1 p hp133 b, su_k hp133, h2.1 p (by unfold P5; unfold KeepR at a; omega), th_p hp133]
    have kf3 : ∀ i, K33 i → i ≠ 34 → τ2 133 i = σ1' 133 i := fun i a b => by
      rw [m3.2 i b, su_i b, h2.2 i (by unfold K33 at a; omega) (by unfold K33 at a; omega), th_i (by unfold K33 at a; omega)]
    have e7 : τ2 133 7 = 0 := by rw [m3.2 7 (by decide), su_i (by decide), h2.2 7 (by decide) (by decide), th_7]
    refine ⟨nI (ysL (σ 134) R (2 * R + 1) 0).length, τ2, ?_, by rw [e7]; exact thr_0, fun _ => rfl, ?_, kf 154 (by unfold KeepR; omega) (by decide)⟩
    · unfold fX7_write
      rw [klet_eq, show su σ1' 133 7 0 = th σ1' 0 from rfl, e3, Option.bind_some, klet_eq, if_pos (show kin 1 220 = true by decide), z1, hrad2, e4]
    · obtain ⟨a, ⟨u, ee, b⟩, c, d, f, g⟩ := h
      have K : ∀ p, KeepR p → p ≠ 23 → p ≠ 24 → p ≠ 153 → p ≠ 154 → τ2 p = σ p := fun p a1 a2 a3 a4 a5 => by rw [kf p a1 a4, hK p a1 a2 a3 a5]
      have K3 : ∀ i, K33 i → i ≠ 34 → τ2 133 i = σ 133 i := fun i a1 a2 => by rw [kf3 i a1 a2, h33 i a1]
      refine ⟨rn_of a (fun p hp => K p (by unfold KeepR; omega) (by omega) (by omega) (by omega) (by omega)), ⟨u, ee, ru_of b (fun p hp => K p (by unfold KeepR; omega) (by omega) (by omega) (by omega) (by omega)) (K3 6 (by unfold K33; omega) (by omega))⟩, rs_of c (fun p hp => K p (by unfold KeepR; omega) (by omega) (by omega) (by omega) (by omega)), ra_of d (K 4 (by unfold KeepR; omega) (by omega) (by omega) (by omega) (by omega)) (K 138 (by unfold KeepR; omega) (by omega) (by omega) (by omega) (by omega)), rt_of f (K 5 (by unfold KeepR; omega) (by omega) (by omega) (by omega) (by omega)) (K 6 (by unfold KeepR; omega) (by omega) (by omega) (by omega) (by omega)) (K 149 (by unfold KeepR; omega) (by omega) (by omega) (by omega) (by omega)) (K3 21 (by unfold K33; omega) (by omega)) (K3 28 (by unfold K33; omega) (by omega)) (K3 29 (by unfold K33; omega) (by omega)), ⟨(ysL (σ 134) R (2 * R + 1) 0).length, by omega, ?_, m1, fun i hi => ?_⟩⟩
      · rw [kf 23 (by unfold KeepR; omega) (by decide), he 23 (by decide), k1]
      · rw [kf 24 (by unfold KeepR; omega) (by decide), he 24 (by decide), k2 i hi, m2 i hi]
