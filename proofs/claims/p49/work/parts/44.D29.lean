section ACT2
variable {σ τ ρ : Sto} {u e : Nat} {m m' : Vc}
theorem ca_upd (hC : CA u e σ τ m) (hf : ∀ p, (p < 25 ∨ 33 < p) → ρ p = τ p) (hb : BX ρ 25 m') : CA u e σ ρ m' := by
  obtain ⟨a1, a2, ⟨a3, a4⟩, ⟨a5, a6⟩, a7⟩ := hC
  exact ⟨hb, bx_frame a2 (fun p h1 h2 => hf p (by omega)), ⟨by rw [hf 0 (by omega)]; exact a3, by rw [hf 0 (by omega)]; exact a4⟩, ⟨by rw [hf 4 (by omega)]; exact a5, fun i hi => by rw [hf 4 (by omega)]; exact a6 i hi⟩, fun p h0 h4 hk h25 hr => by rw [hf p h25]; exact a7 p h0 h4 hk h25 hr⟩
theorem ca_fx (hC : CA u e σ τ m) (he : e < 8) (hf : ∀ p, KeepR p ∨ p = 133 → ρ p = τ p) : CA u e σ ρ m := by
  obtain ⟨a1, a2, ⟨a3, a4⟩, ⟨a5, a6⟩, a7⟩ := hC
  have k0 : ρ 0 = τ 0 := hf 0 (.inl (.inl rfl))
  have k4 : ρ 4 = τ 4 := hf 4 (.inl (by unfold KeepR; omega))
  exact ⟨bx_frame a1 (fun p h1 h2 => hf p (.inl (by unfold KeepR; omega))), bx_frame a2 (fun p h1 h2 => hf p (.inl (by unfold KeepR; omega))), ⟨by rw [k0]; exact a3, by rw [k0]; exact a4⟩, ⟨by rw [k4]; exact a5, fun i hi => by rw [k4]; exact a6 i hi⟩, fun p h0 h4 hk h25 hr => by rw [hf p hk]; exact a7 p h0 h4 hk h25 hr⟩
theorem ma_pre (h : FX σ τ) (hM : MA u τ ρ m) : MA u σ ρ m := by
  obtain ⟨b1, b2, ⟨b3, b4⟩, b5, b6, b7⟩ := hM
  have k8 : τ 138 = σ 138 := h.1 138 (by unfold KeepR; omega)
  have k6 : τ 136 = σ 136 := h.1 136 (by unfold KeepR; omega)
  have k4 : τ 134 = σ 134 := h.1 134 (by unfold KeepR; omega)
  exact ⟨b1, b2, ⟨by rw [b3, k8], fun i hi => by rw [b4 i hi, k8]⟩, fun j hj => by rw [b5 j hj, k4, pv_of k6, pv_of k6], fun p a1 a2 a3 a4 => by rw [b6 p a1 a2 a3 a4, h.1 p a1], fun i a1 a2 => by rw [b7 i a1 a2, h.2 i a1]⟩
theorem ma_fz (hM : MA u σ τ m) (h : FZ τ ρ) (h4 : ρ 134 = m') : MA u σ ρ m' := by
  obtain ⟨b1, b2, ⟨b3, b4⟩, b5, b6, b7⟩ := hM
  have k8 : ρ 138 = τ 138 := h.1 138 (by unfold KeepR; omega) (by decide)
  have k6 : ρ 136 = τ 136 := h.1 136 (by unfold KeepR; omega) (by decide)
  exact ⟨h4, by rw [h.2 6 (.inl (.inl rfl))]; exact b2, ⟨by rw [k8]; exact b3, fun i hi => by rw [k8]; exact b4 i hi⟩, fun j hj => by rw [pv_of k6]; exact b5 j hj, fun p a1 a2 a3 a4 => by rw [h.1 p a1 a2]; exact b6 p a1 a2 a3 a4, fun i a1 a2 => by rw [h.2 i (.inl a1)]; exact b7 i a1 a2⟩
theorem ma_su (hM : MA u σ ρ m) (h7 : ρ 133 7 = 0) {i : Nat} {v : Int32} : MA u σ (su ρ 134 i v) (vset m i v) ∧ su ρ 134 i v 133 7 = 0 :=
  ⟨ma_fz hM (fz_y (fy_134 (fun p hp => su_k hp))) (by rw [su_v, hM.1]), by rw [su_k (by decide)]; exact h7⟩
theorem m_beg {σ' : Sto} (hu : RUx u e σ) (hz : Zr (σ 134)) (h4 : σ' 134 = σ 134) (hK : MK σ') (h6 : σ' 133 6 = nI u) (hf : FX σ' ρ) (h7 : ρ 133 7 = 0) : ∃ τ, fX7_begins ρ = some τ ∧ MA u σ' τ (σ 134) ∧ τ 133 7 = 0 ∧ MK τ ∧ τ 134 = σ 134 := by
  have r4 : ρ 134 = σ 134 := by rw [hf.1 134 (by unfold KeepR; omega), h4]
  obtain ⟨τ, a1, a2, a3, a4⟩ := @m_begins ρ u hu.1.1 (by rw [hf.2 6 (.inl rfl), h6]) (by rw [r4]; exact hz)
  rw [r4] at a2
  exact ⟨τ, a1, ma_pre hf a2, by rw [a4 7 (by decide), h7], mk_of hK (by rw [a3 140 (by decide) (by decide) (by decide), hf.1 140 (by unfold KeepR; omega)]) (by rw [a3 141 (by decide) (by decide) (by decide), hf.1 141 (by unfold KeepR; omega)]), by rw [a3 134 (by decide) (by decide) (by decide), r4]⟩
end ACT2
theorem act_call {cl : Sto → Option KP} {md : Sto → Option (Int32 × Sto)} {xs : List Nat}
    (H : ∀ σ, REL σ → ∀ u e, RUx u e σ →
      (∃ tag v, tag ≠ 0 ∧ cl σ = some (tag, v, σ) ∧ ∀ σ', σ' 134 = σ 134 → ∃ w σ2, md σ' = some (w, σ2) ∧ FX σ' σ2 ∧ THR xs tag (σ2 133 7)) ∨
      (∃ r σ1, (1 ≤ r ∧ r ≤ 5) ∧ cl σ = some (0, -(nI r), su σ1 4 r (σ1 4 r + 1)) ∧ FX σ σ1 ∧ ∀ σ', σ' 134 = σ 134 → MK σ' → ∃ σ2, md σ' = some (-(nI r), su σ2 138 r (σ2 138 r + 1)) ∧ FX σ' σ2 ∧ σ2 133 7 = 0) ∨
      (∃ v m' σ0 σ1, FX σ σ0 ∧ cl σ = some (0, v, σ1) ∧ CA u e σ0 σ1 m' ∧ OKm m' ∧ Zr m' ∧ ∀ σ', σ' 134 = σ 134 → MK σ' → σ' 133 6 = nI u → ∃ σ2, md σ' = some (v, σ2) ∧ MA u σ' σ2 m' ∧ σ2 133 7 = 0)) : CALL cl md xs := by
  intro σ h
  obtain ⟨u, e, hu⟩ := h.2.1
  rcases H σ h u e hu with ⟨tag, v, h1, h2, h3⟩ | ⟨r, σ1, ⟨h1, h5⟩, h2, h3, h4⟩ | ⟨v, m', σ0, σ1, h0, h1, h2, h3, h4, h5⟩
  · refine ⟨tag, v, σ, h2, fun σ1' he => ?_⟩
    obtain ⟨w, σ2, a1, a2, a3⟩ := h3 σ1' (he 134 (by decide))
    exact ⟨w, σ2, a1, a3, fun c => absurd c h1, rel_fx' (rel_54 h he) a2, a2.1 154 (by unfold KeepR; omega)⟩
  · refine ⟨0, _, _, h2, fun σ1' he => ?_⟩
    have g : ∀ p, KeepR p → p ≠ 4 → p ≠ 154 → σ1' p = σ p := fun p a1 a2 a3 => by rw [he p a3, su_k a2, h3.1 p a1]
    obtain ⟨σ2, a1, a2, a3⟩ := h4 σ1' (g 134 (by unfold KeepR; omega) (by decide) (by decide)) (mk_of (rel_mk h) (g 140 (by unfold KeepR; omega) (by decide) (by decide)) (g 141 (by unfold KeepR; omega) (by decide) (by decide)))
    obtain ⟨b1, b2⟩ := ref_rel h h3 he a2 rfl
    exact ⟨_, _, a1, .inl ⟨rfl, by rw [su_k (by decide)]; exact a3⟩, fun _ => rfl, b1, b2⟩
  · refine ⟨0, v, σ1, h1, fun σ1' he => ?_⟩
    have hr := rel_fx' h h0
    have hu0 : RUx u e σ0 := ru_of hu (fun p hp => h0.1 p (by unfold KeepR; omega)) (h0.2 6 (.inl rfl))
    have h2' := h2
    obtain ⟨c1, c2, c3, c4, c5⟩ := h2'
    have he8 := hu.1.2
    have g : ∀ p, KeepR p → 133 < p → p ≠ 154 → σ1' p = σ p := fun p a1 a2 a3 => by rw [he p a3, c5 p (by omega) (by omega) (.inl a1) (by omega) (by omega), h0.1 p a1]
    have g6 : σ1' 133 6 = nI u := by
      rw [he 133 (by decide), c5 133 (by decide) (by decide) (.inr rfl) (by omega) (by omega), h0.2 6 (.inl rfl)]
      exact hu.2.1.1
    obtain ⟨σ2, a1, a2, a3⟩ := h5 σ1' (g 134 (by unfold KeepR; omega) (by decide) (by decide)) (mk_of (rel_mk h) (g 140 (by unfold KeepR; omega) (by decide) (by decide)) (g 141 (by unfold KeepR; omega) (by decide) (by decide))) g6
    exact ⟨v, σ2, a1, .inl ⟨rfl, a3⟩, fun _ => rfl, act_rel hr hu0 h2 he a2 h3 h4, a2.2.2.2.2.1 154 (by unfold KeepR; omega) (by decide) (by decide) (by decide)⟩
section GOL
variable {σ : Sto}
theorem m_gT : fX7_goes (kb true) σ = some (true, th σ 0) := m_goes true
theorem m_gF : fX7_goes (kb false) σ = some (false, th σ 1) := m_goes false
theorem m_both1 (a : Bool) : fX7_goesBoth (kb a) 1 σ = (a, th σ (if a = true then 0 else 1)) := by
  have := @m_both σ a true
  cases a <;> exact this
theorem m_both0 (a : Bool) : fX7_goesBoth (kb a) 0 σ = (false, th σ (if a = true then 2 else 1)) := by
  have := @m_both σ a false
  cases a <;> exact this
theorem dirs_ne {a : Int32} : ¬ nI (gDirs a) = 0 := by unfold gDirs; split <;> decide
end GOL
theorem q_turn (a : Int32) : CALL (fX6_turn a) (fX7_turn a) [1] := by
  refine act_call (fun σ h u e hu => ?_)
  have ok := rel_ok h
  have hz := h.1.2.1
  unfold fX6_turn
  rw [isIn_kb, Option.bind_some]
  cases hi : fX7_isIn a 1 7 with
  | false =>
    refine .inl ⟨1, 0, by decide, by rw [if_neg Bool.false_ne_true]; rfl, fun σ' h4 => ?_⟩
    unfold fX7_turn
    rw [hi, m_gF, Option.bind_some, if_neg Bool.false_ne_true]
    exact ⟨_, _, rfl, fx_th, by show THR _ _ (th σ' 1 133 7); rw [th_7]; exact thr_1 (by decide)⟩
  | true =>
    obtain ⟨s, s1, s7, es⟩ := isIn_1 (hi := 7) (by decide) hi
    subst es
    have hd := @dirs_le (σ 134 0)
    have hD := ok.2.2.1.2
    obtain ⟨τ, e1, hC, hF⟩ := c_keep h.1 hu
    obtain ⟨e2, b2⟩ := c_turnBy ok hC.1 (s := s) (by omega)
    refine .inr (.inr ⟨nI ((mD (σ 134) + s) % gDirs (σ 134 0)), mTurn (σ 134) s, σ, _, fx_refl, ?_, ca_upd hC (fun p hp => su_k (by omega)) b2, ok_turn ok s, zr_vset hz (by decide), fun σ' h4 hK h6 => ?_⟩)
    · rw [if_pos rfl, if_pos rfl, e1, Option.bind_some, Option.bind_some, e2, su_eq]
    · obtain ⟨ρ, f1, f2, f3, f4, f5⟩ := m_beg hu hz h4 hK h6 (fx_th (v := 0)) th_7
      refine ⟨su ρ 134 2 (nI ((mD (σ 134) + s) % gDirs (σ 134 0))), ?_, ma_su f2 f3⟩
      unfold fX7_turn
      rw [hi, m_gT, Option.bind_some, if_pos rfl, f1, Option.bind_some, if_pos (show kin 2 220 = true by decide), m_dirs, Option.bind_some, if_neg dirs_ne, if_pos (show kin 2 220 = true by decide), klet_eq, if_pos (show kin 2 220 = true by decide), z2, su_eq, f5, ok.2.2.1.1, nI_addn, krem_d (by omega)]
theorem ok_keep {m : Vc} (ok : OKm m) {v : Int32} (h : 1 ≤ v ∧ v ≤ 100) : OKm (vset m 3 v) := by
  refine okm_mk ok (vset_ne (by decide)) (vset_ne (by decide)) (vset_ne (by decide)) (fun j u => mC_vset (by decide)) ?_ ?_ ?_
  · have : mD (vset m 3 v) = mD m := by unfold mD; rw [vset_ne (by decide)]
    rw [this, vset_ne (by decide)]; exact ok.2.2.1
  · rw [vset_eq]; exact h
  · have : mV (vset m 3 v) = mV m := by unfold mV; rw [vset_ne (by decide)]
    rw [this, vset_ne (by decide)]; exact ok.2.2.2.2.2.1
theorem q_setKeep (a : Int32) : CALL (fX6_setKeep a) (fX7_setKeep a) [1] := by
  refine act_call (fun σ h u e hu => ?_)
  have ok := rel_ok h
  have hz := h.1.2.1
  unfold fX6_setKeep
  rw [isIn_kb, Option.bind_some]
  cases hi : fX7_isIn a 1 100 with
  | false =>
    refine .inl ⟨1, 0, by decide, by rw [if_neg Bool.false_ne_true]; rfl, fun σ' h4 => ?_⟩
    unfold fX7_setKeep
    rw [hi, m_gF, Option.bind_some, if_neg Bool.false_ne_true]
    exact ⟨_, _, rfl, fx_th, by show THR _ _ (th σ' 1 133 7); rw [th_7]; exact thr_1 (by decide)⟩
  | true =>
    obtain ⟨τ, e1, hC, hF⟩ := c_keep h.1 hu
    refine .inr (.inr ⟨σ 134 3, vset (σ 134) 3 a, σ, su τ 25 2 a, fx_refl, ?_, ca_upd hC (fun p hp => su_k (by omega)) (bx_keep hC.1), ok_keep ok (isIn_iff.1 hi), zr_vset hz (by decide), fun σ' h4 hK h6 => ?_⟩)
    · rw [if_pos rfl, if_pos rfl, e1, Option.bind_some, klet_eq, hC.1.2.1.2.1]
    · obtain ⟨ρ, f1, f2, f3, f4, f5⟩ := m_beg hu hz h4 hK h6 (fx_th (v := 0)) th_7
      refine ⟨su ρ 134 3 a, ?_, ma_su f2 f3⟩
      unfold fX7_setKeep
      rw [hi, m_gT, Option.bind_some, if_pos rfl, f1, Option.bind_some, if_pos (show kin 3 220 = true by decide), if_pos (show kin 3 220 = true by decide), klet_eq, z3, f5]
theorem idx_cases {n : Nat} (hn : n < 1000) (a : Int32) : (∃ k, k < n ∧ a = nI k ∧ fX7_isIn a 0 (nI n - 1) = true) ∨ ((a < 0 ∨ nI n ≤ a) ∧ fX7_isIn a 0 (nI n - 1) = false) := by
  have h5 : nI n ≤ nI 1000 := (dI_le (by omega) (by omega)).2 (by omega)
  have h5' := @nI_lt0 n (by omega)
  rw [show nI 1000 = 1000 from rfl] at h5
  cases h : fX7_isIn a 0 (nI n - 1) with
  | true =>
    left
    have h1 := isIn_iff.1 h
    have h2 : a < nI n := by have := h1.2; grind
    exact ⟨a.toNatClampNeg, i32_n h1.1 h2 (by omega), (i32_nI h1.1).symm, rfl⟩
  | false =>
    right
    refine ⟨?_, rfl⟩
    by_cases h1 : a < 0
    · exact .inl h1
    · right
      have : ¬ (0 ≤ a ∧ a ≤ nI n - 1) := fun c => by rw [isIn_iff.2 c] at h; cases h
      by_cases h2 : nI n ≤ a
      · exact h2
      · exact absurd ⟨by grind, by grind⟩ this
theorem idx_no {n k : Nat} (hn : n < 1000) (hk : k < n) : ¬ nI k < 0 ∧ nI k < nI n := ⟨by have := @nI_lt0 k (by omega); grind, (dI_lt (by omega) (by omega)).2 hk⟩
theorem cov_set : ∀ v, v < 4 → ∀ j, j < 2 → v ^^^ 2 ^ j < 4 ∧ (nI v ^^^ (1 <<< (nI j &&& 31))) = nI (v ^^^ 2 ^ j) ∧ (v.testBit j = false → (nI v ||| (1 <<< (nI j &&& 31))) = nI (v ^^^ 2 ^ j)) ∧ (v.testBit j = true → (nI v &&& ((1 <<< (nI j &&& 31)) ^^^ (-1))) = nI (v ^^^ 2 ^ j)) := by decide
def mCov (m : Vc) (j : Nat) : Vc := vset m 6 (nI (mV m ^^^ 2 ^ j))
theorem ok_cov {m : Vc} (ok : OKm m) {j : Nat} (hj : j < 2) : OKm (mCov m j) := by
  have hv := ok.2.2.2.2.2.1.2
  have hc := (cov_set _ hv j hj).1
  refine okm_mk ok (vset_ne (by decide)) (vset_ne (by decide)) (vset_ne (by decide)) (fun j u => mC_vset (by decide)) ?_ ?_ ?_
  · have : mD (mCov m j) = mD m := by unfold mD mCov; rw [vset_ne (by decide)]
    rw [this, show mCov m j 2 = m 2 from vset_ne (by decide)]; exact ok.2.2.1
  · rw [show mCov m j 3 = m 3 from vset_ne (by decide)]; exact ok.2.2.2.1
  · have h6 : mCov m j 6 = nI (mV m ^^^ 2 ^ j) := vset_eq
    have : mV (mCov m j) = mV m ^^^ 2 ^ j := by
      show ((mCov m j) 6).toNatClampNeg = _
      rw [h6, nI_n (by omega)]
    rw [this, h6]
    exact ⟨rfl, hc⟩
theorem bx4 {σ : Sto} {b : Nat} {m : Vc} (h : BX σ b m) : σ b 4 = m 6 := h.2.1.2.2.2.1
theorem c_setCov {σ : Sto} {b : Nat} {m : Vc} (ok : OKm m) (h : BX σ b m) {j : Nat} (hj : j < 2) {bb : Bool} (hb : ¬ (mV m).testBit j = bb) : fX5_setCovered b (nI j) (kb bb) σ = su σ b 4 (nI (mV m ^^^ 2 ^ j)) ∧ BX (su σ b 4 (nI (mV m ^^^ 2 ^ j))) b (mCov m j) := by
  have hc := cov_set _ ok.2.2.2.2.2.1.2 j hj
  refine ⟨?_, bx_cov h⟩
  unfold fX5_setCovered
  rw [bx4 h, ok.2.2.2.2.2.1.1]
  cases bb with
  | false =>
    rw [if_pos (show kb false = 0 from rfl), klet_eq, hc.2.2.2 (by cases ht : (mV m).testBit j with | true => rfl | false => exact absurd ht hb)]
  | true =>
    rw [if_neg (show ¬ kb true = 0 by decide), klet_eq, hc.2.2.1 (by cases ht : (mV m).testBit j with | false => rfl | true => exact absurd ht hb)]
theorem q_cover (a : Int32) (bb : Bool) : CALL (fX6_cover a (kb bb)) (fX7_cover a (kb bb)) [3] := by
  refine act_call (fun σ h u e hu => ?_)
  have ok := rel_ok h
  have bx := rel_bx h
  have hz := h.1.2.1
  have hg := @many_le (σ 134 0)
  have hv := ok.2.2.2.2.2.1.2
  unfold fX6_cover fX6_cover_L18
  rw [c_many bx.1]
  rcases idx_cases (n := gMany (σ 134 0)) (by omega) a with ⟨j, h1, h2, h3⟩ | ⟨h1, h2⟩
  · subst h2
    have hi := idx_no (n := gMany (σ 134 0)) (by omega) h1
    rw [if_neg hi.1, if_pos hi.2, c_isCovered ok bx (by omega)]
    by_cases hb : (mV (σ 134)).testBit j = bb
    · rw [if_pos (by rw [hb])]
      refine .inr (.inl ⟨4, σ, by decide, ?_, fx_refl, fun σ' h4 hK => ⟨th σ' 0, ?_, fx_th, th_7⟩⟩)
      · rw [show (4 : Int32) = nI 4 from rfl, c_refused (by decide) (by decide), Option.bind_some]
      · have t4 : ((true, th σ' 0) : Bool × Sto).2 134 = σ 134 := by show th σ' 0 134 = _; rw [th_p (by decide), h4]
        unfold fX7_cover
        rw [m_many, Option.bind_some, h4, h3, m_gT, Option.bind_some, if_pos rfl, if_pos (show kin 6 220 = true by decide), z6, t4, ok.2.2.2.2.2.1.1, has_fin _ hv j (by omega), if_pos (by rw [hb]), show (4 : Int32) = nI 4 from rfl, m_refuses (by decide), Option.bind_some]
    · have hne : ¬ kb ((mV (σ 134)).testBit j) = kb bb := fun c => hb ((kb_inj _ _).1 c)
      rw [if_neg hne]
      obtain ⟨τ, e1, hC, hF⟩ := c_keep h.1 hu
      obtain ⟨e2, b2⟩ := c_setCov ok hC.1 (j := j) (by omega) hb
      have ok' := ok_cov ok (j := j) (by omega)
      obtain ⟨π, e3, p1, p2⟩ := c_look (q0 := 7) (b := 25) ok' (.inl (by decide)) b2
      have e4 := c_countSeen ok' p1
      refine .inr (.inr ⟨nSeen (mCov (σ 134) j), mCov (σ 134) j, σ, π, fx_refl, ?_, ca_fx (ca_upd hC (fun p hp => su_k (by omega)) b2) hu.1.2 (fun p hp => p2 p (by unfold F14; unfold KeepR at hp; omega)), ok', zr_vset hz (by decide), fun σ' h4 hK h6 => ?_⟩)
      · rw [e1, Option.bind_some, e2, Option.bind_some]
        unfold fX6_seenNow
        rw [e3, Option.bind_some, e4, Option.bind_some, Option.bind_some]
      · obtain ⟨ρ, f1, f2, f3, f4, f5⟩ := m_beg hu hz h4 hK h6 (fx_th (v := 0)) th_7
        obtain ⟨k1, k2⟩ := ma_su f2 f3 (i := 6) (v := nI (mV (σ 134) ^^^ 2 ^ j))
        have k3 : su ρ 134 6 (nI (mV (σ 134) ^^^ 2 ^ j)) 134 = mCov (σ 134) j := k1.1
        obtain ⟨κ, g1, g2, g3⟩ := @m_seenMany (su ρ 134 6 (nI (mV (σ 134) ^^^ 2 ^ j))) (by rw [k3]; exact ok')
        rw [k3] at g1
        refine ⟨κ, ?_, ma_fz k1 (fz_y (fy_3 g3)) (by rw [g3.1 134 ⟨by decide, by decide, by decide⟩, k3]), by rw [g3.2 7 (by decide) (by decide)]; exact k2⟩
        have t4 : ((true, th σ' 0) : Bool × Sto).2 134 = σ 134 := by show th σ' 0 134 = _; rw [th_p (by decide), h4]
        unfold fX7_cover
        rw [m_many, Option.bind_some, h4, h3, m_gT, Option.bind_some, if_pos rfl, if_pos (show kin 6 220 = true by decide), z6, t4, ok.2.2.2.2.2.1.1, has_fin _ hv j (by omega), if_neg hne, f1, Option.bind_some, if_pos (show kin 6 220 = true by decide), if_pos (show kin 6 220 = true by decide), klet_eq, f5, ok.2.2.2.2.2.1.1, (cov_set _ hv j (by omega)).2.1, g1, Option.bind_some]
  · refine .inl ⟨3, 0, by decide, ?_, fun σ' h4 => ?_⟩
    · by_cases h0 : a < 0
      · rw [if_pos h0]
      · rw [if_neg h0, if_neg (by rcases h1 with h1 | h1 <;> grind)]
    · unfold fX7_cover
      rw [m_many, Option.bind_some, h4, h2, m_gF, Option.bind_some, if_neg Bool.false_ne_true]
      exact ⟨_, _, rfl, fx_th, by show THR _ _ (th σ' 1 133 7); rw [th_7]; exact thr_1 (by decide)⟩
theorem mTk_V {m : Vc} (h : ¬ mTkN m = 0) : mTk m = mTkV m := by unfold mTk; rw [if_neg h]
theorem set_0 {m : Vc} : (mSet' m).1 = 0 ↔ mTkN m = 0 := by
  unfold mSet'
  by_cases h : mTkN m = 0
  · rw [rest_stop h]; exact ⟨fun _ => h, fun _ => rfl⟩
  · rw [rest_go h]; exact ⟨fun c => absurd c (by show ¬ (mRest 720 (mTkV m)).1 + 1 = 0; omega), fun c => absurd c h⟩
theorem q_tick : CALL (fun σ => liS (fX6_tick σ)) fX7_tick [] := by
  refine act_call (fun σ h u e hu => ?_)
  have ok := rel_ok h
  have hz := h.1.2.1
  have hl := tkN_le ok
  obtain ⟨τ, e1, a1, x1⟩ := c_trial h
  obtain ⟨π, e2, a2, x2⟩ := c_tick ok (q0 := 21) (.inl (by decide)) a1
  have xf := fx_trans x1 (fx_fq x2)
  have hM : ∀ σ', σ' 134 = σ 134 → MK σ' → ∃ κ, fX7_movesNow (th σ' 0) = some (nI (mTkN (σ 134)), κ) ∧ FX σ' κ ∧ κ 133 7 = 0 := by
    intro σ' h4 hK
    obtain ⟨κ, g1, g2, g3⟩ := m_movesNow ok (σ := th σ' 0) (by rw [th_p (by decide), h4]) (mk_of hK (th_p (by decide)) (th_p (by decide)))
    have hf := f7_z (fz_y (fy_8 g3)) (by rw [g2, th_p (by decide), h4])
    exact ⟨κ, g1, (f7_th hf).1, (f7_th hf).2⟩
  unfold liS fX6_tick fX6_movesOfNextTick
  rw [e1, Option.bind_some, e2, Option.bind_some, Option.bind_some]
  by_cases h0 : mTkN (σ 134) = 0
  · refine .inr (.inl ⟨5, π, by decide, ?_, xf, fun σ' h4 hK => ?_⟩)
    · rw [if_pos (by rw [h0]; rfl), show (5 : Int32) = nI 5 from rfl, c_refused (by decide) (by decide), Option.bind_some, Option.bind_some]
    · obtain ⟨κ, g1, g2, g3⟩ := hM σ' h4 hK
      refine ⟨κ, ?_, g2, g3⟩
      unfold fX7_tick
      rw [klet_eq, show su σ' 133 7 0 = th σ' 0 from rfl, g1, Option.bind_some, if_pos (by rw [h0]; rfl), show (5 : Int32) = nI 5 from rfl, m_refuses (by decide), Option.bind_some]
  · have hne : ¬ nI (mTkN (σ 134)) = 0 := fun c => h0 ((nI_inj (b := 0) (by omega) (by omega)).1 c)
    have hr := rel_fx' h xf
    have hu0 : RUx u e π := ru_of hu (fun p hp => xf.1 p (by unfold KeepR; omega)) (xf.2 6 (.inl rfl))
    have e134 : π 134 = σ 134 := xf.1 134 (by unfold KeepR; omega)
    obtain ⟨κ, e3, hC, hF⟩ := c_keep hr.1 hu0
    have a3 : BX κ 34 (mTk (σ 134)) := bx_frame a2 (fun p h1 h2 => hF p (by omega) (by omega) (by have := hu.1.2; omega))
    rw [mTk_V h0] at a3
    obtain ⟨μ, e4, a4, x4⟩ := c_copy (b0 := 25) (b1 := 34) (by omega) (tk_ok ok) a3
    refine .inr (.inr ⟨nI (mTkN (σ 134)), mTkV (σ 134), π, μ, xf, ?_, ca_upd hC (fun p hp => x4 p (by omega)) a4, tk_ok ok, zr_hi hz (hi_tk ok), fun σ' h4 hK h6 => ?_⟩)
    · rw [if_neg hne, e3, Option.bind_some, e4, Option.bind_some, Option.bind_some]
    · obtain ⟨ν, g1, g2, g3⟩ := hM σ' h4 hK
      obtain ⟨ρ, f1, f2, f3, f4, f5⟩ := m_beg hu hz h4 hK h6 g2 g3
      obtain ⟨ω, k1, k2, k3, k4⟩ := m_ticksOnce ok f5 f4
      refine ⟨ω, ?_, ma_fz f2 (fz_y (fy_t k4)) k2, by rw [k4.2 7 (by decide)]; exact f3⟩
      unfold fX7_tick
      rw [klet_eq, show su σ' 133 7 0 = th σ' 0 from rfl, g1, Option.bind_some, if_neg hne, f1, Option.bind_some, k1, Option.bind_some]
theorem q_settle : CALL (fun σ => liS (fX6_settle σ)) fX7_settle [] := by
  refine act_call (fun σ h u e hu => ?_)
  have ok := rel_ok h
  have hz := h.1.2.1
  have hl := tkN_le ok
  have hs := rest_le 721 (σ 134)
  obtain ⟨okS, hiS, -, -⟩ := rest_facts 721 (σ 134) ok
  obtain ⟨τ, e1, a1, x1⟩ := c_trial h
  obtain ⟨π, e2, a2, x2⟩ := c_settle ok a1
  have xf := fx_trans x1 (fx_fq x2)
  have hM : ∀ σ', σ' 134 = σ 134 → MK σ' → ∃ κ, fX7_movesNow (th σ' 0) = some (nI (mTkN (σ 134)), κ) ∧ FX σ' κ ∧ κ 133 7 = 0 := by
    intro σ' h4 hK
    obtain ⟨κ, g1, g2, g3⟩ := m_movesNow ok (σ := th σ' 0) (by rw [th_p (by decide), h4]) (mk_of hK (th_p (by decide)) (th_p (by decide)))
    have hf := f7_z (fz_y (fy_8 g3)) (by rw [g2, th_p (by decide), h4])
    exact ⟨κ, g1, (f7_th hf).1, (f7_th hf).2⟩
  unfold liS fX6_settle
  rw [e1, Option.bind_some, e2, Option.bind_some]
  by_cases h0 : mTkN (σ 134) = 0
  · refine .inr (.inl ⟨5, π, by decide, ?_, xf, fun σ' h4 hK => ?_⟩)
    · rw [if_pos (by rw [set_0.2 h0]; rfl), show (5 : Int32) = nI 5 from rfl, c_refused (by decide) (by decide), Option.bind_some, Option.bind_some]
    · obtain ⟨κ, g1, g2, g3⟩ := hM σ' h4 hK
      refine ⟨κ, ?_, g2, g3⟩
      unfold fX7_settle
      rw [klet_eq, show su σ' 133 7 0 = th σ' 0 from rfl, g1, Option.bind_some, if_pos (by rw [h0]; rfl), show (5 : Int32) = nI 5 from rfl, m_refuses (by decide), Option.bind_some]
  · have hne : ¬ nI (mTkN (σ 134)) = 0 := fun c => h0 ((nI_inj (b := 0) (by omega) (by omega)).1 c)
    have hne' : ¬ nI (mSet' (σ 134)).1 = 0 := fun c => h0 (set_0.1 ((nI_inj (b := 0) (by unfold mSet'; omega) (by omega)).1 c))
    have hr := rel_fx' h xf
    have hu0 : RUx u e π := ru_of hu (fun p hp => xf.1 p (by unfold KeepR; omega)) (xf.2 6 (.inl rfl))
    have e134 : π 134 = σ 134 := xf.1 134 (by unfold KeepR; omega)
    obtain ⟨κ, e3, hC, hF⟩ := c_keep hr.1 hu0
    have a3 : BX κ 34 (mSet' (σ 134)).2 := bx_frame a2 (fun p h1 h2 => hF p (by omega) (by omega) (by have := hu.1.2; omega))
    obtain ⟨μ, e4, a4, x4⟩ := c_copy (b0 := 25) (b1 := 34) (by omega) okS a3
    refine .inr (.inr ⟨nI (mSet' (σ 134)).1, (mSet' (σ 134)).2, π, μ, xf, ?_, ca_upd hC (fun p hp => x4 p (by omega)) a4, okS, zr_hi hz hiS, fun σ' h4 hK h6 => ?_⟩)
    · rw [if_neg hne', e3, Option.bind_some, e4, Option.bind_some, Option.bind_some]
    · obtain ⟨ν, g1, g2, g3⟩ := hM σ' h4 hK
      obtain ⟨ρ, f1, f2, f3, f4, f5⟩ := m_beg hu hz h4 hK h6 g2 g3
      obtain ⟨ω, k1, k2, k3, k4⟩ := m_settle ok f5 f4
      refine ⟨ω, ?_, ma_fz f2 (fz_y (fy_8 k4)) k2, by rw [k4.2 7 (by decide)]; exact f3⟩
      unfold fX7_settle
      rw [klet_eq, show su σ' 133 7 0 = th σ' 0 from rfl, g1, Option.bind_some, if_neg hne, f1, Option.bind_some, k1, Option.bind_some]
