theorem q_load : CALL (fun σ => liS (fX6_load σ)) fX7_load [] := by
  intro σ h
  obtain ⟨L, hL, t1, t2, t3, t4, t5⟩ := h.2.2.2.2.1
  obtain ⟨u, e, hu⟩ := h.2.1
  have hz := h.1.2.1
  have hB : BY (σ 6) L := fun i hi => (t3 i hi).2
  have hT : TC (σ 6) L σ := ⟨hL, t1, fun _ _ => rfl⟩
  obtain ⟨b, ρ, e1, hF, hK⟩ := c_read hB hT
  have rp : ∀ p, p ≠ 5 → (p < 34 ∨ 42 < p) → su ρ 5 1 0 p = σ p := fun p h1 h2 => by rw [su_k h1, hF p h1 h2]
  -- the Model, from any store that agrees
  have hM : ∀ σ1', (∀ p, p = 133 ∨ p = 134 ∨ p = 149 → σ1' p = σ p) → ∃ τ16, fX7_load σ1' = (if fX7_isGood τ16 = true then (if kin 5 220 = true then some (su τ16 133 6 0 134 (Int32.toNatClampNeg 5), su τ16 133 6 0) else none) else (fX7_copies 135 220 0 134 220 0 τ16).bind fun r18 => some ((-1), r18)) ∧ ASIDE (σ 134) τ16 ∧ (∀ p, p ≠ 133 → p ≠ 134 → p ≠ 135 → τ16 p = σ1' p) ∧ (τ16 133 7 = 0 ∧ τ16 133 6 = σ 133 6 ∧ τ16 133 34 = σ 133 34) ∧ (τ16 133 21 = 0 ∧ τ16 133 28 = τ16 133 26 ∧ τ16 133 29 = τ16 133 27) ∧ MLK (gAll (σ 6) L) τ16 := by
    intro σ1' ha
    have k4 : th σ1' 0 134 = σ 134 := by rw [th_p (by decide), ha 134 (by omega)]
    obtain ⟨τ2, f2, a2, b2, _⟩ := m_aside (σ := th σ1' 0) k4
    have k133 : ∀ i, i ≠ 7 → τ2 133 i = σ 133 i := fun i hi => by rw [b2 133 (by decide), th_i hi, ha 133 (by omega)]
    have k7 : τ2 133 7 = 0 := by rw [b2 133 (by decide), th_7]
    have hT7 : TM (σ 6) L (su (su (su τ2 133 22 0) 133 26 0) 133 27 (-1)) := ⟨hL, by rw [su_i (by decide), su_i (by decide), su_i (by decide), k133 21 (by decide), t2], fun i hi => by rw [su_k (by decide), su_k (by decide), su_k (by decide), b2 149 (by decide), th_p (by decide), ha 149 (by omega), (t3 i hi).1]⟩
    obtain ⟨τ8, f8, a8, b8⟩ := m_scans (p := 0) hB hT7 (by rw [su_i (by decide), su_i (by decide), su_eq]; rfl) (by omega)
    have hMP : MP (σ 6) L 0 (σ 134) τ8 := ⟨tm_22 hT7 b8, a8, by omega, ⟨by rw [b8.2 26 (by omega), su_i (by decide), su_eq], by rw [b8.2 27 (by omega), su_eq]⟩, by rw [b8.1 134 (by decide), su_k (by decide), su_k (by decide), su_k (by decide), b2 134 (by decide), k4]⟩
    obtain ⟨τ9, f9, b9, o9⟩ := m_readsAll hB hMP hz
    have hi : ∀ i, (i < 22 ∨ 27 < i) → i ≠ 7 → τ9 133 i = σ 133 i := fun i h1 h2 => by rw [b9.2 i h1, b8.2 i (by omega), su_i (by omega), su_i (by omega), su_i (by omega), k133 i h2]
    have h7 : τ9 133 7 = 0 := by rw [b9.2 7 (by omega), b8.2 7 (by omega), su_i (by decide), su_i (by decide), su_i (by decide), k7]
    generalize hR : su (su (su τ9 133 21 0) 133 28 (τ9 133 26)) 133 29 (τ9 133 27) = τ16
    have r : ∀ i, i ≠ 21 → i ≠ 28 → i ≠ 29 → τ16 133 i = τ9 133 i := fun i i1 i2 i3 => by rw [← hR, su_i i3, su_i i2, su_i i1]
    have r26 := r 26 (by decide) (by decide) (by decide)
    have r27 := r 27 (by decide) (by decide) (by decide)
    have rk : ∀ p, p ≠ 133 → τ16 p = τ9 p := fun p hp => by rw [← hR, su_k hp, su_k hp, su_k hp]
    refine ⟨τ16, ?_, ?_, fun p p1 p2 p3 => ?_, ⟨?_, ?_, ?_⟩, ⟨?_, ?_, ?_⟩, ?_⟩
    · unfold fX7_load
      rw [klet_eq, show su σ1' 133 7 0 = th σ1' 0 from rfl, f2, Option.bind_some, klet_eq, klet_eq, klet_eq, f8, Option.bind_some, f9, Option.bind_some, klet_eq, klet_eq, klet_eq, su_i (show 26 ≠ 21 by decide), su_i (show 27 ≠ 28 by decide), su_i (show 27 ≠ 21 by decide), hR]
      rfl
    · intro i hi
      rw [rk 135 (by decide), b9.1 135 (by decide) (by decide), b8.1 135 (by decide), su_k (by decide), su_k (by decide), su_k (by decide)]
      exact a2 i hi
    · rw [rk p p1, b9.1 p p1 p2, b8.1 p p1, su_k p1, su_k p1, su_k p1, b2 p p3, th_p p1]
    · rw [r 7 (by decide) (by decide) (by decide), h7]
    · rw [r 6 (by decide) (by decide) (by decide), hi 6 (by omega) (by decide)]
    · rw [r 34 (by decide) (by decide) (by decide), hi 34 (by omega) (by decide)]
    · rw [← hR, su_i (by decide), su_i (by decide), su_eq]
    · rw [r26, ← hR, su_i (by decide), su_eq]
    · rw [r27, ← hR, su_eq]
    · refine ⟨fun m1 hm => ?_, fun c q hc => ?_⟩
      · have := o9.1 m1 hm
        rw [r26, r27, rk 134 (by decide)]
        exact this
      · have := o9.2 c q hc
        unfold ME
        rw [r26, r27, rk 134 (by decide)]
        exact this
  rcases hG : gAll (σ 6) L with m' | ⟨c, q⟩
  · obtain ⟨eb, bx', ok', hz', c2, c3⟩ := hK.1 m' hG
    subst eb
    obtain ⟨τ, e2, g1, g2⟩ := c_copy (σ := su ρ 5 1 0) (b0 := 25) (b1 := 34) (by omega) ok' (bx_frame bx' (fun p h1 h2 => su_k (by omega)))
    have tp : ∀ p, p ≠ 0 → p ≠ 5 → (p < 25 ∨ 42 < p) → su τ 0 4 0 p = σ p := fun p p0 p1 p2 => by rw [su_k p0, g2 p (by omega), rp p p1 (by omega)]
    have h58 : su τ 0 4 0 25 8 = nI (mN m') := by rw [su_k (by decide), bx8 g1, came_eq ok']
    refine ⟨0, nI (mN m'), su τ 0 4 0, ?_, fun σ1' he => ?_⟩
    · show liS (fX6_load σ) = _
      unfold liS fX6_load
      rw [e1, Option.bind_some, klet_eq, if_pos rfl, e2, Option.bind_some, klet_eq, h58, Option.bind_some]
    · obtain ⟨τ16, f1, f2, f3, ⟨f4, f5, f6⟩, ⟨f7, f8, f9⟩, f10⟩ := hM σ1' (fun p hp => by rw [he p (by omega), tp p (by omega) (by omega) (by omega)])
      obtain ⟨⟨x26, x27⟩, x134⟩ := f10.1 m' hG
      have sp : ∀ p, p ≠ 133 → p ≠ 134 → p ≠ 135 → p ≠ 154 → su τ16 133 6 0 p = su τ 0 4 0 p := fun p p1 p2 p3 p4 => by rw [su_k p1, f3 p p1 p2 p3, he p p4]
      have s134 : su τ16 133 6 0 134 = m' := by rw [su_k (by decide), x134]
      refine ⟨nI (mN m'), su τ16 133 6 0, ?_, .inl ⟨rfl, by rw [su_i (by decide), f4]⟩, fun _ => rfl, rel_now h ok' hz' (bx_frame g1 (fun p h1 h2 => by rw [sp p (by omega) (by omega) (by omega) (by omega), su_k (by omega)])) s134 ⟨0, e, ⟨by omega, hu.1.2⟩, ⟨su_eq, by rw [sp 0 (by decide) (by decide) (by decide) (by decide), su_eq]; rfl, by rw [sp 0 (by decide) (by decide) (by decide) (by decide), su_i (by decide), g2 0 (by omega), rp 0 (by decide) (by omega)]; exact hu.2.1.2.2⟩, fun j hj => absurd hj (by omega)⟩ ⟨0, by omega, by rw [sp 5 (by decide) (by decide) (by decide) (by decide), su_k (by decide), g2 5 (by omega), su_eq]; rfl, by rw [su_i (by decide), f7]; rfl, fun i hi => absurd hi (by omega), ?_, ?_⟩ (fun p a0 a1 a2 a3 a4 a5 a6 a7 => ?_) (by rw [su_i (by decide), f6]), ?_⟩
      · rw [f1]
        unfold fX7_isGood
        rw [if_pos x26, if_pos rfl, if_pos (by decide), z5, s134, came_eq ok']
      · rw [sp 5 (by decide) (by decide) (by decide) (by decide), su_k (by decide), g2 5 (by omega), su_i (by decide), c2, su_i (by decide), f8, x26]
      · rw [sp 5 (by decide) (by decide) (by decide) (by decide), su_k (by decide), g2 5 (by omega), su_i (by decide), c3, su_i (by decide), f9, x27]
      · rw [sp p (by unfold KeepR at a0; omega) a6 (by unfold KeepR at a0; omega) a7, tp p a1 a2 (by unfold KeepR at a0; omega)]
      · rw [su_k (by decide), f3 154 (by decide) (by decide) (by decide)]
  · obtain ⟨eb, ce⟩ := hK.2 c q hG
    subst eb
    refine ⟨0, -1, su ρ 5 1 0, ?_, fun σ1' he => ?_⟩
    · show liS (fX6_load σ) = _
      unfold liS fX6_load
      rw [e1, Option.bind_some, klet_eq, if_neg Bool.false_ne_true, Option.bind_some]
    · obtain ⟨τ16, f1, f2, f3, ⟨f4, f5, f6⟩, ⟨f7, f8, f9⟩, f10⟩ := hM σ1' (fun p hp => by rw [he p (by omega), rp p (by omega) (by omega)])
      have me := f10.2 c q hG
      obtain ⟨κ, g1, g2, g3⟩ := m_restore f2 hz me.2.2.2
      have k33 : κ 133 = τ16 133 := g3 133 (by decide)
      have sp : ∀ p, p ≠ 133 → p ≠ 134 → p ≠ 135 → p ≠ 154 → κ p = su ρ 5 1 0 p := fun p p1 p2 p3 p4 => by rw [g3 p p2, f3 p p1 p2 p3, he p p4]
      refine ⟨-1, κ, ?_, .inl ⟨rfl, by rw [k33, f4]⟩, fun _ => rfl, rel_txt h ⟨0, by omega, by rw [sp 5 (by decide) (by decide) (by decide) (by decide), su_eq]; rfl, by rw [k33, f7]; rfl, fun i hi => absurd hi (by omega), ?_, ?_⟩ (fun p q0 q1 q2 q3 q4 => ?_) (fun i hi => ?_), ?_⟩
      · rw [f1, e_good me.2.1, if_neg Bool.false_ne_true, g1, Option.bind_some]
      · rw [sp 5 (by decide) (by decide) (by decide) (by decide), su_i (by decide), ce.1, k33, f8, me.1]
      · rw [sp 5 (by decide) (by decide) (by decide) (by decide), su_i (by decide), ce.2, k33, f9, me.2.2.1]
      · by_cases p4 : p = 134
        · subst p4; exact g2
        · rw [sp p (by unfold KeepR at q0; omega) p4 (by unfold KeepR at q0; omega) q4, rp p q1 (by unfold KeepR at q0; omega)]
      · rw [k33]
        rcases hi with h1 | h1 <;> subst h1
        · exact f5
        · exact f6
      · rw [g3 154 (by decide), f3 154 (by decide) (by decide) (by decide)]
