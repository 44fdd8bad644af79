/-- the relation after what is now has been replaced -/
theorem rel_now {σ σ2 : Sto} {m' : Vc} (h : REL σ) (ok : OKm m') (hz : Zr m') (hb : BX σ2 25 m') (h4 : σ2 134 = m') (hu : RU σ2) (hT : RT σ2) (hp : ∀ p, KeepR p → p ≠ 0 → p ≠ 5 → p ≠ 6 → p ≠ 149 → (p < 25 ∨ 33 < p) → p ≠ 134 → p ≠ 154 → σ2 p = σ p) (h34 : σ2 133 34 = σ 133 34) : REL σ2 := by
  obtain ⟨⟨a1, a2, a3, a4⟩, _, c, d, f, g⟩ := h
  have K : ∀ p, (p = 3 ∨ p = 4 ∨ p = 23 ∨ p = 24 ∨ (43 ≤ p ∧ p ≤ 132) ∨ (136 ≤ p ∧ p ≤ 141) ∨ p = 153) → σ2 p = σ p := fun p h1 => hp p (by unfold KeepR; omega) (by omega) (by omega) (by omega) (by omega) (by omega) (by omega) (by omega)
  refine ⟨⟨by rw [h4]; exact ok, by rw [h4]; exact hz, by rw [h4]; exact hb, mk_of a4 (K 140 (by omega)) (K 141 (by omega))⟩, hu, rs_of c (fun p h1 => K p (by omega)), ra_of d (K 4 (by omega)) (K 138 (by omega)), hT, rw_of g (K 23 (by omega)) (K 24 (by omega)) (K 153 (by omega)) h34⟩
theorem and7' : ∀ e, e < 8 → (nI e - 1) &&& 7 = nI ((e + 7) % 8) := by decide
theorem m_load220 {σ : Sto} {q0 A n0 : Nat} {a1 : Int32} (h1 : a1 = nI A) (hA : A + 220 ≤ n0) (h0 : n0 < 10000) (hq : q0 ≠ 134) (hz : Zr (σ 134)) : ∃ ρ, fX7_copies q0 n0 a1 134 220 0 σ = some ρ ∧ ρ 134 = (fun i => if i < 220 then σ q0 (A + i) else 0) ∧ ∀ p, p ≠ 134 → ρ p = σ p := by
  obtain ⟨ρ, e, g1, g2, g3⟩ := @m_copies σ q0 n0 A 134 220 0 a1 0 h1 rfl hA (by decide) h0 (by decide) hq
  refine ⟨ρ, e, ?_, g3⟩
  funext i
  by_cases hi : i < 220
  · have := g1 i hi
    rw [Nat.zero_add] at this
    rw [if_pos hi, this]
  · rw [if_neg hi, g2 i (by omega), hz i (by omega)]
theorem zr_fun {f : Nat → Int32} : Zr (fun i => if i < 220 then f i else 0) := fun i hi => if_neg (by omega)
theorem q_undo : CALL (fun σ => liS (fX6_undo σ)) fX7_undo [] := by
  intro σ h
  obtain ⟨u, e, hu⟩ := h.2.1
  have hu' := hu
  obtain ⟨⟨u8, e8⟩, ⟨b6, b4, b3⟩, bj⟩ := hu'
  have hz := h.1.2.1
  by_cases h0 : u = 0
  · subst h0
    refine ⟨0, -1, σ, ?_, fun σ1' he => ⟨-1, th σ1' 0, ?_, .inl ⟨rfl, th_7⟩, fun _ => rfl, rel_fx' (rel_54 h he) fx_th, th_p (by decide)⟩⟩
    · show liS (fX6_undo σ) = _
      unfold liS fX6_undo
      rw [b4, if_pos (show nI 0 = 0 from rfl), Option.bind_some]
    · unfold fX7_undo
      rw [klet_eq, show su σ1' 133 7 0 = th σ1' 0 from rfl, th_i (by decide), he 133 (by decide), b6, if_pos (show nI 0 = 0 from rfl)]
  · have hne : ¬ nI u = 0 := fun c => h0 ((nI_inj (b := 0) (by omega) (by omega)).1 c)
    have e7 : (e + 7) % 8 < 8 := Nat.mod_lt _ (by decide)
    have hr : rng u e (u - 1) = 43 + 9 * ((e + 7) % 8) := by unfold rng; omega
    obtain ⟨okP, bP⟩ := bj (u - 1) (by omega)
    rw [hr] at bP
    have es : nI u - 1 = nI (u - 1) := nI_subn (j := 1) (by omega)
    obtain ⟨τ, e1, g1, g2⟩ := c_copy (σ := su (su σ 0 3 (nI ((e + 7) % 8))) 0 4 (nI (u - 1))) (b0 := 25) (b1 := 43 + 9 * ((e + 7) % 8)) (by omega) okP (bx_frame bP (fun p h1 h2 => by rw [su_k (by omega), su_k (by omega)]))
    have t04 : τ 0 4 = nI (u - 1) := by rw [g2 0 (by omega), su_eq]
    have t03 : τ 0 3 = nI ((e + 7) % 8) := by rw [g2 0 (by omega), su_i (by decide), su_eq]
    have tp : ∀ p, p ≠ 0 → (p < 25 ∨ 33 < p) → τ p = σ p := fun p p0 p1 => by rw [g2 p p1, su_k p0, su_k p0]
    refine ⟨0, nI (u - 1), τ, ?_, fun σ1' he => ?_⟩
    · show liS (fX6_undo σ) = _
      unfold liS fX6_undo
      rw [b4, if_neg hne, klet_eq, klet_eq, b3, and7' e e8, su_i (show 4 ≠ 3 by decide), b4, es, su_i (show 3 ≠ 4 by decide), su_eq, if_pos (kin_nI e7 (by decide)), nI_n (by omega), e1, Option.bind_some, t04, Option.bind_some]
    · have k4 : th σ1' 0 134 = σ 134 := by rw [th_p (by decide), he 134 (by decide), tp 134 (by decide) (by omega)]
      have k6 : th σ1' 0 133 6 = nI u := by rw [th_i (by decide), he 133 (by decide), tp 133 (by decide) (by omega), b6]
      obtain ⟨ρ, f1, f2, f3⟩ := @m_load220 (su (th σ1' 0) 133 6 (nI (u - 1))) 136 (220 * (u - 1)) 1760 (220 * nI (u - 1)) (m220 _) (by omega) (by decide) (by decide) (by rw [su_k (by decide), k4]; exact hz)
      have hP : ρ 134 = pv σ (u - 1) := by
        rw [f2, su_k (by decide), th_p (by decide), he 136 (by decide), tp 136 (by decide) (by omega)]
        rfl
      have rp : ∀ p, p ≠ 133 → p ≠ 134 → p ≠ 154 → ρ p = τ p := fun p p1 p2 p3 => by rw [f3 p p2, su_k p1, th_p p1, he p p3]
      have r3 : ∀ i, i ≠ 6 → i ≠ 7 → ρ 133 i = σ 133 i := fun i i1 i2 => by rw [f3 133 (by decide), su_i i1, th_i i2, he 133 (by decide), tp 133 (by decide) (by omega)]
      have r6 : ρ 133 6 = nI (u - 1) := by rw [f3 133 (by decide), su_eq]
      have r7 : ρ 133 7 = 0 := by rw [f3 133 (by decide), su_i (by decide), th_7]
      have rs : ∀ p, p ≠ 0 → (p < 25 ∨ 33 < p) → p ≠ 133 → p ≠ 134 → p ≠ 154 → ρ p = σ p := fun p p0 p1 p2 p3 p4 => by rw [rp p p2 p3 p4, tp p p0 p1]
      refine ⟨nI (u - 1), ρ, ?_, .inl ⟨rfl, r7⟩, fun _ => rfl, rel_now h okP (zr_fun) (bx_frame g1 (fun p h1 h2 => rp p (by omega) (by omega) (by omega))) hP ⟨u - 1, (e + 7) % 8, ⟨by omega, e7⟩, ⟨r6, by rw [rp 0 (by decide) (by decide) (by decide), t04], by rw [rp 0 (by decide) (by decide) (by decide), t03]⟩, fun j hj => ?_⟩ (rt_of h.2.2.2.2.1 (rs 5 (by decide) (by omega) (by decide) (by decide) (by decide)) (rs 6 (by decide) (by omega) (by decide) (by decide) (by decide)) (rs 149 (by decide) (by omega) (by decide) (by decide) (by decide)) (r3 21 (by decide) (by decide)) (r3 28 (by decide) (by decide)) (r3 29 (by decide) (by decide))) (fun p a0 a1 a2 a3 a4 a5 a6 a7 => rs p a1 a5 (by unfold KeepR at a0; omega) a6 a7) (r3 34 (by decide) (by decide)), ?_⟩
      · unfold fX7_undo
        rw [klet_eq, show su σ1' 133 7 0 = th σ1' 0 from rfl, k6, if_neg hne, klet_eq, es, su_eq, f1, Option.bind_some, r6]
      · have hr' : rng (u - 1) ((e + 7) % 8) j = rng u e j := by unfold rng; omega
        have hl := @rng_lt u e j
        rw [hr', pv_of (rs 136 (by decide) (by omega) (by decide) (by decide) (by decide))]
        exact ⟨(bj j (by omega)).1, bx_frame (bj j (by omega)).2 (fun p h1 h2 => rs p (by omega) (by omega) (by omega) (by omega) (by omega))⟩
      · rw [f3 154 (by decide), su_k (by decide), th_p (by decide)]
def liV (o : Option Sto) : Option (Int32 × Sto) := o.bind fun r => some (0, r)
theorem slot_k : ∀ s, s < 2 → fX7_isIn (nI s) 0 1 = true := by decide
theorem c_needSaved {σ : Sto} (h : REL σ) {a : Int32} : (fX7_isIn a 0 1 = false ∧ fX6_needSaved a σ = some 1) ∨ ∃ s, s < 2 ∧ a = nI s ∧ ((σ 3 s = 0 ∧ fX6_needSaved a σ = some 2) ∨ (σ 3 s = 1 ∧ fX6_needSaved a σ = some 0)) := by
  unfold fX6_needSaved
  rw [isIn_kb, Option.bind_some]
  cases hi : fX7_isIn a 0 1 with
  | false => exact .inl ⟨rfl, rfl⟩
  | true =>
    obtain ⟨s, s1, es⟩ := isIn_lo (hi := 1) (by decide) hi
    subst es
    refine .inr ⟨s, by omega, rfl, ?_⟩
    rw [if_pos rfl, if_pos rfl, if_pos (kin_nI (show s < 2 by omega) (by decide)), nI_n (by omega)]
    rcases (h.2.2.1 s (by omega)).1 with h0 | h0
    · exact .inl ⟨h0, by rw [if_pos h0]⟩
    · exact .inr ⟨h0, by rw [if_neg (by rw [h0]; decide)]⟩
theorem q_restore (a : Int32) : CALL (fX6_restore a) (fun σ => liV (fX7_restore a σ)) [1, 2] := by
  intro σ h
  have hz := h.1.2.1
  obtain ⟨u, e, hu⟩ := h.2.1
  unfold fX6_restore
  rcases c_needSaved h (a := a) with ⟨h1, h2⟩ | ⟨s, hs, ea, ⟨h1, h2⟩ | ⟨h1, h2⟩⟩
  · refine ⟨1, 0, σ, by rw [h2, Option.bind_some, if_neg (by decide)], fun σ1' he => ⟨0, th σ1' 1, ?_, by rw [th_7]; exact thr_1 (by decide), fun c => absurd c (by decide), rel_fx' (rel_54 h he) fx_th, th_p (by decide)⟩⟩
    show liV (fX7_restore _ σ1') = _
    unfold fX7_restore fX7_isSlot
    rw [h1, if_neg Bool.false_ne_true, m_bF0, Option.bind_some, if_neg Bool.false_ne_true]
    rfl
  · subst ea
    refine ⟨2, 0, σ, by rw [h2, Option.bind_some, if_neg (by decide)], fun σ1' he => ⟨0, th σ1' 2, ?_, by rw [th_7]; exact thr_2 (by decide), fun c => absurd c (by decide), rel_fx' (rel_54 h he) fx_th, th_p (by decide)⟩⟩
    show liV (fX7_restore _ σ1') = _
    unfold fX7_restore fX7_isSlot
    rw [slot_k s hs, if_pos rfl, if_pos (kin_nI hs (by decide)), nI_n (by omega), he 139 (by decide), (h.2.2.1 s hs).2.1, if_pos h1, m_bT0, Option.bind_some, if_neg Bool.false_ne_true]
    rfl
  · subst ea
    obtain ⟨okS, bS⟩ := (h.2.2.1 s hs).2.2 h1
    obtain ⟨τ, e1, g1, g2⟩ := c_copy (b0 := 25) (b1 := 115 + 9 * s) (by omega) okS bS
    have tp : ∀ p, p ≠ 0 → (p < 25 ∨ 33 < p) → su τ 0 4 0 p = σ p := fun p p0 p1 => by rw [su_k p0, g2 p p1]
    refine ⟨0, 0, su τ 0 4 0, ?_, fun σ1' he => ?_⟩
    · rw [h2, Option.bind_some, if_pos rfl, if_pos (kin_nI hs (by decide)), nI_n (by omega), e1, Option.bind_some, klet_eq]
    · have k4 : th σ1' 0 134 = σ 134 := by rw [th_p (by decide), he 134 (by decide), tp 134 (by decide) (by omega)]
      obtain ⟨ρ, f1, f2, f3⟩ := @m_load220 (th σ1' 0) 137 (220 * s) 440 (220 * nI s) (m220 _) (by omega) (by decide) (by decide) (by rw [k4]; exact hz)
      have hP : su ρ 133 6 0 134 = sv σ s := by
        rw [su_k (by decide), f2, th_p (by decide), he 137 (by decide), tp 137 (by decide) (by omega)]
        rfl
      have rp : ∀ p, p ≠ 133 → p ≠ 134 → p ≠ 154 → su ρ 133 6 0 p = su τ 0 4 0 p := fun p p1 p2 p3 => by rw [su_k p1, f3 p p2, th_p p1, he p p3]
      have r3 : ∀ i, i ≠ 6 → i ≠ 7 → su ρ 133 6 0 133 i = σ 133 i := fun i i1 i2 => by rw [su_i i1, f3 133 (by decide), th_i i2, he 133 (by decide), tp 133 (by decide) (by omega)]
      have rs : ∀ p, p ≠ 0 → (p < 25 ∨ 33 < p) → p ≠ 133 → p ≠ 134 → p ≠ 154 → su ρ 133 6 0 p = σ p := fun p p0 p1 p2 p3 p4 => by rw [rp p p2 p3 p4, tp p p0 p1]
      refine ⟨0, su ρ 133 6 0, ?_, .inl ⟨rfl, by rw [su_i (by decide), f3 133 (by decide), th_7]⟩, fun _ => rfl, rel_now h okS zr_fun (bx_frame g1 (fun p h1 h2 => by rw [rp p (by omega) (by omega) (by omega), su_k (by omega)])) hP ⟨0, e, ⟨by omega, hu.1.2⟩, ⟨su_eq, by rw [rp 0 (by decide) (by decide) (by decide), su_eq]; rfl, by rw [rp 0 (by decide) (by decide) (by decide), su_i (by decide), g2 0 (by omega)]; exact hu.2.1.2.2⟩, fun j hj => absurd hj (by omega)⟩ (rt_of h.2.2.2.2.1 (rs 5 (by decide) (by omega) (by decide) (by decide) (by decide)) (rs 6 (by decide) (by omega) (by decide) (by decide) (by decide)) (rs 149 (by decide) (by omega) (by decide) (by decide) (by decide)) (r3 21 (by decide) (by decide)) (r3 28 (by decide) (by decide)) (r3 29 (by decide) (by decide))) (fun p a0 a1 a2 a3 a4 a5 a6 a7 => rs p a1 a5 (by unfold KeepR at a0; omega) a6 a7) (r3 34 (by decide) (by decide)), ?_⟩
      · show liV (fX7_restore _ σ1') = _
        unfold fX7_restore fX7_isSlot
        rw [slot_k s hs, if_pos rfl, if_pos (kin_nI hs (by decide)), nI_n (by omega), he 139 (by decide), tp 139 (by decide) (by omega), (h.2.2.1 s hs).2.1, if_neg (by rw [h1]; decide), m_bTT, Option.bind_some, if_pos rfl, f1, Option.bind_some, klet_eq]
        rfl
      · rw [su_k (by decide), f3 154 (by decide), th_p (by decide)]
theorem q_save (a : Int32) : CALL (fX6_save a) (fun σ => liV (fX7_save a σ)) [1] := by
  intro σ h
  have hz := h.1.2.1
  have ok := rel_ok h
  unfold fX6_save
  rw [isIn_kb, Option.bind_some]
  cases hi : fX7_isIn a 0 1 with
  | false =>
    refine ⟨1, 0, σ, by rw [if_neg Bool.false_ne_true, if_neg (by decide)], fun σ1' he => ⟨0, th σ1' 1, ?_, by rw [th_7]; exact thr_1 (by decide), fun c => absurd c (by decide), rel_fx' (rel_54 h he) fx_th, th_p (by decide)⟩⟩
    show liV (fX7_save _ σ1') = _
    unfold fX7_save fX7_isSlot
    rw [hi, m_gF, Option.bind_some, if_neg Bool.false_ne_true]
    rfl
  | true =>
    obtain ⟨s, s1, es⟩ := isIn_lo (hi := 1) (by decide) hi
    subst es
    have hs : s < 2 := by omega
    have k2 : kin (nI s) 2 = true := kin_nI hs (by decide)
    obtain ⟨τ, e1, g1, g2⟩ := c_copy (b0 := 115 + 9 * s) (b1 := 25) (by omega) ok (rel_bx h)
    have tp : ∀ p, p ≠ 3 → (p < 115 + 9 * s ∨ 115 + 9 * s + 8 < p) → su τ 3 s 1 p = σ p := fun p p0 p1 => by rw [su_k p0, g2 p p1]
    refine ⟨0, 0, su τ 3 s 1, ?_, fun σ1' he => ?_⟩
    · rw [if_pos rfl, if_pos rfl, if_pos k2, nI_n (by omega), e1, Option.bind_some, if_pos k2, klet_eq]
    · have k4 : th σ1' 0 134 = σ 134 := by rw [th_p (by decide), he 134 (by decide), tp 134 (by decide) (by omega)]
      obtain ⟨ρ, f1, f2, f3, f4⟩ := @m_copies (th σ1' 0) 134 220 0 137 440 (220 * s) 0 (220 * nI s) rfl (m220 _) (by decide) (by omega) (by decide) (by decide) (by decide)
      have rp : ∀ p, p ≠ 133 → p ≠ 137 → p ≠ 139 → p ≠ 154 → su ρ 139 s 1 p = su τ 3 s 1 p := fun p p1 p2 p3 p4 => by rw [su_k p3, f4 p p2, th_p p1, he p p4]
      have r3 : ∀ i, i ≠ 7 → su ρ 139 s 1 133 i = σ 133 i := fun i i2 => by rw [su_k (by decide), f4 133 (by decide), th_i i2, he 133 (by decide), tp 133 (by decide) (by omega)]
      have rs : ∀ p, p ≠ 3 → (p < 115 + 9 * s ∨ 115 + 9 * s + 8 < p) → p ≠ 133 → p ≠ 137 → p ≠ 139 → p ≠ 154 → su ρ 139 s 1 p = σ p := fun p p0 p1 p2 p3 p4 p5 => by rw [rp p p2 p3 p4 p5, tp p p0 p1]
      have hS : sv (su ρ 139 s 1) s = σ 134 := by
        funext i
        unfold sv
        rw [su_k (by decide)]
        by_cases hi : i < 220
        · rw [if_pos hi, f2 i hi, Nat.zero_add, k4]
        · rw [if_neg hi, hz i (by omega)]
      have hS' : ∀ t, t < 2 → t ≠ s → sv (su ρ 139 s 1) t = sv σ t := by
        intro t ht hts
        funext i
        unfold sv
        rw [su_k (by decide)]
        by_cases hi : i < 220
        · rw [if_pos hi, if_pos hi, f3 _ (by omega), th_p (by decide), he 137 (by decide), tp 137 (by decide) (by omega)]
        · rw [if_neg hi, if_neg hi]
      obtain ⟨a1, ⟨u, e, b⟩, c, d, f, g⟩ := h
      refine ⟨0, su ρ 139 s 1, ?_, .inl ⟨rfl, by rw [su_k (by decide), f4 133 (by decide), th_7]⟩, fun _ => rfl, ⟨rn_of a1 (fun p hp => rs p (by omega) (by omega) (by omega) (by omega) (by omega) (by omega)), ⟨u, e, ru_of b (fun p hp => rs p (by omega) (by omega) (by omega) (by omega) (by omega) (by omega)) (r3 6 (by decide))⟩, fun t ht => ?_, ra_of d (rs 4 (by decide) (by omega) (by decide) (by decide) (by decide) (by decide)) (rs 138 (by decide) (by omega) (by decide) (by decide) (by decide) (by decide)), rt_of f (rs 5 (by decide) (by omega) (by decide) (by decide) (by decide) (by decide)) (rs 6 (by decide) (by omega) (by decide) (by decide) (by decide) (by decide)) (rs 149 (by decide) (by omega) (by decide) (by decide) (by decide) (by decide)) (r3 21 (by decide)) (r3 28 (by decide)) (r3 29 (by decide)), rw_of g (rs 23 (by decide) (by omega) (by decide) (by decide) (by decide) (by decide)) (rs 24 (by decide) (by omega) (by decide) (by decide) (by decide) (by decide)) (rs 153 (by decide) (by omega) (by decide) (by decide) (by decide) (by decide)) (r3 34 (by decide))⟩, ?_⟩
      · show liV (fX7_save _ σ1') = _
        unfold fX7_save fX7_isSlot
        rw [hi, m_gT, Option.bind_some, if_pos rfl, f1, Option.bind_some, if_pos k2, klet_eq, nI_n (by omega)]
        rfl
      · have x3 : su ρ 139 s 1 3 t = if t = s then 1 else σ 3 t := by rw [rp 3 (by decide) (by decide) (by decide) (by decide), su_at, g2 3 (by omega)]
        have x9 : su ρ 139 s 1 139 t = if t = s then 1 else σ 139 t := by rw [su_at, f4 139 (by decide), th_p (by decide), he 139 (by decide), tp 139 (by decide) (by omega)]
        rw [x3, x9]
        by_cases hts : t = s
        · subst hts
          rw [if_pos rfl, if_pos rfl, hS]
          exact ⟨.inr rfl, rfl, fun _ => ⟨ok, bx_frame g1 (fun p h1 h2 => by rw [rp p (by omega) (by omega) (by omega) (by omega), su_k (by omega)])⟩⟩
        · rw [if_neg hts, if_neg hts, hS' t ht hts]
          have := c t ht
          exact ⟨this.1, this.2.1, fun q => ⟨(this.2.2 q).1, bx_frame (this.2.2 q).2 (fun p h1 h2 => rs p (by omega) (by omega) (by omega) (by omega) (by omega) (by omega))⟩⟩
      · rw [su_k (by decide), f4 154 (by decide), th_p (by decide)]
