def gBehL (a : Int32) (A B : Int32 × Int32) : Nat → Nat → Int32
  | 0, _ => -1
  | n + 1, i => if gMap a i (1, 0) = A ∧ gMap a i (0, 1) = B then nI i else gBehL a A B n (i + 1)
def gBeh (a : Int32) (k j : Nat) : Int32 := gBehL a (gMir a j (gMap a k (1, 0))) (gMir a j (gMap a k (0, 1))) (2 * gHalf a) 0
def gOI (a : Int32) (s : Int32) (k : Nat) : Int32 := fld (fun j s => s ||| (1 <<< (gBeh a k j &&& 31))) s (gMany a)
def gOP (a : Int32) (had : Int32) : Int32 := fld (fun k s => if fX7_has had (nI k) = true then gOI a s k else s) had (2 * gHalf a)
def gOW (a : Int32) : Nat → Int32 → Int32 → Option Int32
  | 0, _, _ => none
  | n + 1, v1, v2 => if v1 = v2 then some v1 else gOW a n (gOP a v1) v1
def gOwn (a : Int32) : Int32 := if a = 45 then 255 else if a = 60 then 1365 else if a = 90 then 85 else if a = 180 then 17 else 4095
theorem own_fin : gOW 180 8 1 0 = some 17 ∧ gOW 90 8 1 0 = some 85 ∧ gOW 45 8 1 0 = some 255 ∧ gOW 60 8 1 0 = some 1365 ∧ gOW 30 8 1 0 = some 4095 := by decide +kernel
section OW
variable {σ : Sto} {a : Int32}
theorem m_behL (ha : σ 134 0 = a) {A1 A2 : Int32} {A B : Int32 × Int32} (n : Nat) : ∀ (i fu : Nat) (p : Int32 × Int32), i + n = 2 * gHalf a → n + 1 < fu →
    ∃ q, fX7_behind_L61 A1 A2 fu A.1 A.2 B.1 B.2 (-1) (nI i) (mst σ p) = some (gBehL a A B n i, mst σ q) := by
  have hh := @half_le a
  induction n with
  | zero =>
    intro i fu p hi hf
    match fu, hf with
    | fu + 1, _ =>
      have : i = 2 * gHalf a := by omega
      subst this
      rw [fX7_behind_L61.eq_2, m_half, Option.bind_some, mst_of (show 134 ≠ 133 by decide), ha, two_half, if_pos (by grind)]
      exact ⟨p, rfl⟩
  | succ n ih =>
    intro i fu p hi hf
    match fu, hf with
    | fu + 1, hf =>
      have e1 : ∀ q x y, some (fX7_stands x y (mst σ q)) = some (mst σ (x, y)) := fun q x y => by rw [m_stands, mst_mst]
      have hmp : ∀ q, fX7_maps (nI i) (mst σ q) = some (mst σ (gMap a i q)) := fun q => by
        have := @m_maps σ i (by rw [ha]; omega) q
        rw [ha] at this
        exact this
      have hstop : ∀ q, ∃ q', fX7_behind_L61 A1 A2 fu A.1 A.2 B.1 B.2 (nI i) (nI (i + 1)) (mst σ q) = some (nI i, mst σ q') := by
        intro q
        match fu, hf with
        | fu + 1, _ =>
          rw [fX7_behind_L61.eq_2, m_half, Option.bind_some, mst_of (show 134 ≠ 133 by decide), ha, two_half]
          split
          · exact ⟨q, rfl⟩
          · rw [if_neg (nI_ne1 (by omega))]; exact ⟨q, rfl⟩
      rw [fX7_behind_L61.eq_2, m_half, Option.bind_some, mst_of (show 134 ≠ 133 by decide), ha, two_half, if_neg (by rw [dI_le (by omega) (by omega)]; omega), if_pos rfl, e1, Option.bind_some, hmp, Option.bind_some]
      simp only [fX7_behind_L111, fX7_behind_L112, fX7_behind_L154, fX7_behind_L155, e1, Option.bind_some, hmp, nI_add1, if_true, show ¬ (1 : Int32) = 0 from by decide, if_false]
      unfold gBehL
      by_cases h1 : mst σ (gMap a i (1, 0)) 133 10 = A.1
      · by_cases h2 : mst σ (gMap a i (1, 0)) 133 11 = A.2
        · have hA : gMap a i (1, 0) = A := Prod.ext h1 h2
          by_cases h3 : mst σ (gMap a i (0, 1)) 133 10 = B.1
          · by_cases h4 : mst σ (gMap a i (0, 1)) 133 11 = B.2
            · rw [if_pos h1, if_pos h2, if_pos h3, if_pos h4, if_pos ⟨hA, Prod.ext h3 h4⟩]
              exact hstop _
            · rw [if_pos h1, if_pos h2, if_pos h3, if_neg h4, if_neg (fun c => h4 (by rw [mst_py, c.2]))]
              exact ih (i + 1) fu _ (by omega) (by omega)
          · rw [if_pos h1, if_pos h2, if_neg h3, if_neg (fun c => h3 (by rw [mst_px, c.2]))]
            exact ih (i + 1) fu _ (by omega) (by omega)
        · rw [if_pos h1, if_neg h2, if_neg (fun c => h2 (by rw [mst_py, c.1]))]
          exact ih (i + 1) fu _ (by omega) (by omega)
      · rw [if_neg h1, if_neg (fun c => h1 (by rw [mst_px, c.1]))]
        exact ih (i + 1) fu _ (by omega) (by omega)
theorem m_behind (ha : σ 134 0 = a) {k j : Nat} (hk : k < 2 * gHalf a) (hj : j < 2) (p : Int32 × Int32) : ∃ q, fX7_behind (nI k) (nI j) (mst σ p) = some (gBeh a k j, mst σ q) := by
  have hh := @half_le a
  have hmp : ∀ q, fX7_maps (nI k) (mst σ q) = some (mst σ (gMap a k q)) := fun q => by
    have := @m_maps σ k (by rw [ha]; exact hk) q
    rw [ha] at this
    exact this
  have hmr : ∀ q, fX7_mirrors (nI j) (mst σ q) = some (mst σ (gMir a j q)) := fun q => by
    have := @m_mirrors σ j hj q
    rw [ha] at this
    exact this
  unfold fX7_behind
  rw [m_stands, mst_mst, Option.bind_some, hmp, Option.bind_some, hmr, Option.bind_some, m_stands, mst_mst, Option.bind_some, hmp, Option.bind_some, hmr, Option.bind_some, mst_px, mst_py, mst_px, mst_py]
  exact m_behL ha (2 * gHalf a) 0 kFU _ (by omega) (by unfold kFU; omega)
theorem m_ownI (ha : σ 134 0 = a) {K9 : Int32 → Int32 → Sto → Option (Int32 × Sto)} {K18 : Int32 → Int32 → Int32 → Sto → Option (Int32 × Sto)} {had : Int32} {k : Nat} (hk : k < 2 * gHalf a) (hhas : fX7_has had (nI k) = true) (v : Int32) (n : Nat) : ∀ (i fu : Nat) (p : Int32 × Int32), i + n = gMany a → n < fu →
    ∃ q, fX7_ownMaps_L31 K9 K18 fu (fld (fun j s => s ||| (1 <<< (gBeh a k j &&& 31))) v i) had (nI k) (nI i) (mst σ p) = K18 (gOI a v k) had (nI (k + 1)) (mst σ q) := by
  have hm := @many_le a
  induction n with
  | zero =>
    intro i fu p hi hf
    match fu, hf with
    | fu + 1, _ =>
      have : i = gMany a := by omega
      subst this
      rw [fX7_ownMaps_L31.eq_2, m_many, Option.bind_some, mst_of (show 134 ≠ 133 by decide), ha, if_pos (by grind)]
      simp only [fX7_ownMaps_L66, nI_add1]
      exact ⟨p, rfl⟩
  | succ n ih =>
    intro i fu p hi hf
    match fu, hf with
    | fu + 1, hf =>
      obtain ⟨q, e⟩ := m_behind ha hk (j := i) (by omega) p
      rw [fX7_ownMaps_L31.eq_2, m_many, Option.bind_some, mst_of (show 134 ≠ 133 by decide), ha, if_neg (by rw [dI_le (by omega) (by omega)]; omega), hhas, if_pos rfl, e, Option.bind_some, nI_add1]
      exact ih (i + 1) fu q (by omega) (by omega)
theorem m_ownP (ha : σ 134 0 = a) {K9 : Int32 → Int32 → Sto → Option (Int32 × Sto)} {had : Int32} (n : Nat) : ∀ (i fu : Nat) (p : Int32 × Int32), i + n = 2 * gHalf a → n < fu →
    ∃ q, fX7_ownMaps_L18 K9 fu (fld (fun k s => if fX7_has had (nI k) = true then gOI a s k else s) had i) had (nI i) (mst σ p) = K9 (gOP a had) had (mst σ q) := by
  have hh := @half_le a
  have hm := @many_le a
  induction n with
  | zero =>
    intro i fu p hi hf
    match fu, hf with
    | fu + 1, _ =>
      have : i = 2 * gHalf a := by omega
      subst this
      rw [fX7_ownMaps_L18.eq_2, m_half, Option.bind_some, mst_of (show 134 ≠ 133 by decide), ha, two_half, if_pos (by grind)]
      exact ⟨p, rfl⟩
  | succ n ih =>
    intro i fu p hi hf
    match fu, hf with
    | fu + 1, hf =>
      rw [fX7_ownMaps_L18.eq_2, m_half, Option.bind_some, mst_of (show 134 ≠ 133 by decide), ha, two_half, if_neg (by rw [dI_le (by omega) (by omega)]; omega)]
      have e5 : fld (fun k s => if fX7_has had (nI k) = true then gOI a s k else s) had (i + 1) = if fX7_has had (nI i) = true then gOI a (fld (fun k s => if fX7_has had (nI k) = true then gOI a s k else s) had i) i else fld (fun k s => if fX7_has had (nI k) = true then gOI a s k else s) had i := rfl
      cases hc : fX7_has had (nI i) with
      | true =>
        obtain ⟨q, e⟩ := m_ownI (K9 := K9) (K18 := fX7_ownMaps_L18 K9 fu) ha (k := i) (by omega) hc (fld (fun k s => if fX7_has had (nI k) = true then gOI a s k else s) had i) (gMany a) 0 kFU p (by omega) (by unfold kFU; omega)
        have e' : fX7_ownMaps_L31 K9 (fX7_ownMaps_L18 K9 fu) kFU (fld (fun k s => if fX7_has had (nI k) = true then gOI a s k else s) had i) had (nI i) 0 (mst σ p) = _ := e
        rw [e']
        rw [hc, if_pos rfl] at e5
        rw [← e5]
        exact ih (i + 1) fu q (by omega) (by omega)
      | false =>
        have : kFU = 3999999 + 1 := rfl
        rw [this, fX7_ownMaps_L31.eq_2, m_many, Option.bind_some, mst_of (show 134 ≠ 133 by decide), ha, if_neg (show ¬ nI (gMany a) ≤ (0 : Int32) by rw [show (0 : Int32) = nI 0 from rfl, dI_le (by omega) (by omega)]; omega), hc, if_neg Bool.false_ne_true]
        simp only [fX7_ownMaps_L66, nI_add1]
        rw [hc, if_neg Bool.false_ne_true] at e5
        rw [← e5]
        exact ih (i + 1) fu p (by omega) (by omega)
theorem m_ownW (ha : σ 134 0 = a) (n : Nat) : ∀ (fu : Nat) (v1 v2 r : Int32) (p : Int32 × Int32), n < fu → gOW a n v1 v2 = some r → ∃ q, fX7_ownMaps_L9 fu v1 v2 (mst σ p) = some (r, mst σ q) := by
  have hh := @half_le a
  induction n with
  | zero => intro fu v1 v2 r p hf h; cases h
  | succ n ih =>
    intro fu v1 v2 r p hf h
    match fu, hf with
    | fu + 1, hf =>
      rw [fX7_ownMaps_L9.eq_2]
      rw [gOW.eq_2] at h
      by_cases hv : v1 = v2
      · rw [if_pos hv] at h ⊢
        cases h
        exact ⟨p, rfl⟩
      · rw [if_neg hv] at h ⊢
        obtain ⟨q, e⟩ := m_ownP (K9 := fX7_ownMaps_L9 fu) (had := v1) ha (2 * gHalf a) 0 kFU p (by omega) (by unfold kFU; omega)
        have e' : fX7_ownMaps_L18 (fX7_ownMaps_L9 fu) kFU v1 v1 0 (mst σ p) = _ := e
        rw [e']
        exact ih fu (gOP a v1) v1 r q (by omega) h
end OW
theorem mst_self (σ : Sto) : mst σ (σ 133 10, σ 133 11) = σ := by
  unfold mst
  rw [su_same (show σ 133 10 = σ 133 10 from rfl), su_same rfl]
theorem q_ownMaps : CALL (fun σ => some (0, fX6_ownMaps σ, σ)) fX7_ownMaps [] := by
  refine plain_call (fun σ1 => fX7_ownMaps_L9 kFU 1 0 σ1) (fun σ => by unfold fX7_ownMaps th; rw [klet_eq]) (fun σ h => ?_)
  have ok := rel_ok h
  refine ⟨gOwn (σ 134 0), σ, ?_, fx_refl, fun σ' h' hK h3 => ?_⟩
  · unfold fX6_ownMaps fX1_mapsByMirrors gOwn
    rw [(rel_bx h).1.1.1]
  · have e : th σ' 0 134 = σ 134 := by rw [th_p (by decide), hK 134 (by unfold KeepR; omega) (by decide)]
    have hw : gOW (σ 134 0) 8 1 0 = some (gOwn (σ 134 0)) := by
      have f := own_fin
      rcases ok.1 with c | c | c | c | c <;> rw [c]
      · exact f.1
      · exact f.2.1
      · exact f.2.2.1
      · exact f.2.2.2.1
      · exact f.2.2.2.2
    obtain ⟨q, e2⟩ := m_ownW (σ := th σ' 0) (a := σ 134 0) (by rw [e]) 8 kFU 1 0 _ (th σ' 0 133 10, th σ' 0 133 11) (by unfold kFU; omega) hw
    rw [mst_self] at e2
    exact ⟨_, e2, f7_ms (ms_mst ms_refl)⟩
noncomputable def matL (m1 m2 : Vc) : Nat → Nat → Int32
  | 0, _ => -1
  | n + 1, i => if dB (BRG m1 m2 i) = true then nI i else matL m1 m2 n (i + 1)
theorem near_same {m1 m2 : Vc} (h1 : m1 1 = m2 1) (hx : gHex (m1 0) = gHex (m2 0)) : sameN m1 m2 := fun x y => by
  unfold gNear
  rw [h1, hx]
theorem kb_inj (a b : Bool) : kb a = kb b ↔ a = b := by
  cases a <;> cases b <;> decide
theorem zr_sv {σ : Sto} {s : Nat} : Zr (sv σ s) := fun i hi => by unfold sv; rw [if_neg (by omega)]
theorem m_then_L {m1 : Vc} {σ : Sto} {a1 : Int32} {v4 : Int32} (n : Nat) : ∀ (i fu : Nat) (τ : Sto), i + n = 169 → n < fu → (∀ p, p ≠ 152 → τ p = σ p) → (∀ k, k < i → τ 152 k = σ 145 k) → ∃ ρ, fX7_matches_L108 a1 fu v4 (nI i) τ = ((fX7_copies 135 220 0 134 220 0 ρ).bind fun r19 => (fX7_laysPicture r19).bind fun r22 => fX7_matches_L156 a1 kFU v4 0 r22) ∧ (∀ p, p ≠ 152 → ρ p = σ p) ∧ (∀ k, k < 169 → ρ 152 k = σ 145 k) := by
  induction n with
  | zero =>
    intro i fu τ hi hf hp hx
    match fu, hf with
    | fu + 1, _ =>
      have : i = 169 := by omega
      subst this
      rw [fX7_matches_L108.eq_2, if_pos (by decide)]
      exact ⟨τ, rfl, hp, hx⟩
  | succ n ih =>
    intro i fu τ hi hf hp hx
    match fu, hf with
    | fu + 1, hf =>
      have hi2 : i < 169 := by omega
      rw [fX7_matches_L108.eq_2, if_neg (le169 hi2), if_pos (kn169 hi2), if_pos (kn169 hi2), klet_eq, nI_n (by omega), nI_add1]
      refine ih (i + 1) fu _ (by omega) (by omega) (fun p h => by rw [su_k h, hp p h]) (fun k hk => ?_)
      rw [su_at]
      by_cases hki : k = i
      · subst hki; rw [if_pos rfl, hp 145 (by decide)]
      · rw [if_neg hki]; exact hx k (by omega)
theorem q_matches (a : Int32) : CALL (fX6_matches a) (fX7_matches a) [1, 2] := by
  refine call_q (fun σ h => ?_)
  have ok := rel_ok h
  have bx := rel_bx h
  unfold fX6_matches fX6_needSaved
  rw [isIn_kb, Option.bind_some]
  cases hs : fX7_isIn a 0 1 with
  | false =>
    refine ⟨1, 0, σ, by simp, fx_refl, fun σ' h' hK h3 => ?_⟩
    have hsl : fX7_isSlot a = false := hs
    unfold fX7_matches
    rw [hsl, if_neg Bool.false_ne_true]
    have hb : fX7_goesBoth (kb false) 0 σ' = (false, th σ' 1) := m_both false false
    rw [hb, Option.bind_some, if_neg Bool.false_ne_true]
    exact ⟨_, _, rfl, fx_th, by show THR _ _ (th σ' 1 133 7); rw [th_7]; exact thr_1 (by decide), fun c => absurd c (by decide)⟩
  | true =>
    obtain ⟨s, hs1, ea⟩ := isIn_lo (hi := 1) (by decide) hs
    subst ea
    have hS := h.2.2.1 s (by omega)
    have hk2 : kin (nI s) 2 = true := kin_nI (by omega) (by decide)
    have hsl : fX7_isSlot (nI s) = true := hs
    have hsn : (nI s).toNatClampNeg = s := nI_n (by omega)
    rw [if_pos rfl, if_pos rfl, if_pos hk2, hsn]
    rcases hS.1 with h0 | h1
    · rw [h0, if_pos rfl]
      refine ⟨2, 0, σ, rfl, fx_refl, fun σ' h' hK h3 => ?_⟩
      unfold fX7_matches
      rw [hsl, if_pos rfl, if_pos hk2, hsn, hK 139 (by unfold KeepR; omega) (by decide), hS.2.1, h0, if_pos rfl]
      have hb : fX7_goesBoth (kb true) 0 σ' = (false, th σ' 2) := m_both true false
      rw [hb, Option.bind_some, if_neg Bool.false_ne_true]
      exact ⟨_, _, rfl, fx_th, by show THR _ _ (th σ' 2 133 7); rw [th_7]; exact thr_2 (by decide), fun c => absurd c (by decide)⟩
    · obtain ⟨okS, bxS⟩ := hS.2.2 h1
      rw [h1, if_neg (show ¬ (1 : Int32) = 0 by decide), Option.bind_some, if_pos rfl, if_pos hk2]
      have hM : ∀ σ', REL σ' → (∀ p, KeepR p → p ≠ 154 → σ' p = σ p) → ∃ σ2, fX7_matches (nI s) σ' = some (if gHex (sv σ s 0) = gHex (σ 134 0) ∧ sv σ s 1 = σ 134 1 then matL (sv σ s) (σ 134) (2 * gHalf (σ 134 0)) 0 else -1, σ2) ∧ F7 (th σ' 0) σ2 := by
        intro σ' h' hK
        have e : th σ' 0 134 = σ 134 := by rw [th_p (by decide), hK 134 (by unfold KeepR; omega) (by decide)]
        obtain ⟨x1, q1, q2, q3, q4⟩ := m_aside e
        have e1 : x1 134 = σ 134 := by rw [q3 134 (by decide), e]
        obtain ⟨x2, r1, r2, r3, r4⟩ := @m_copies x1 137 440 (220 * s) 134 220 0 (nI (220 * s)) 0 rfl rfl (by omega) (by decide) (by decide) (by decide) (by decide)
        have e2 : x2 134 = sv σ s := by
          funext i
          unfold sv
          by_cases hi : i < 220
          · have := r2 i hi
            rw [Nat.zero_add] at this
            rw [this, if_pos hi, q3 137 (by decide), th_p (by decide), hK 137 (by unfold KeepR; omega) (by decide)]
          · rw [if_neg hi, r3 i (by omega), e1, h.1.2.1 i (by omega)]
        obtain ⟨x3, s1, s2, s3⟩ := @m_laysPicture x2 (by rw [e2]; exact okS)
        rw [e2] at s2
        have f13 : FY x1 x3 := fy_trans (fy_134 r4) (fy_5 s3)
        have e3 : x3 134 = sv σ s := by rw [s3.1 134 ⟨by decide, by decide, by decide, by decide, by decide⟩, e2]
        have tail : ∀ v4 : Int32, ∃ x6, fX7_matches_L108 (nI s) kFU v4 0 x3 = fX7_matches_L156 (nI s) kFU v4 0 x6 ∧ LPic (σ 134) x6 ∧ x6 134 = σ 134 ∧ (∀ k, k < 169 → x6 152 k = lC (sv σ s) (mx k) (my k)) ∧ FZ (th σ' 0) x6 := by
          intro v4
          obtain ⟨x4, t1, t2, t3⟩ := m_then_L (m1 := sv σ s) (σ := x3) (a1 := nI s) (v4 := v4) 169 0 kFU x3 (by omega) (by unfold kFU; omega) (fun _ _ => rfl) (fun k hk => absurd hk (by omega))
          have f34 : FY x3 x4 := ⟨fun p hp _ => t2 p (by unfold KeepR at hp; omega), fun i _ => by rw [t2 133 (by decide)]⟩
          obtain ⟨x5, u1, u2, u3⟩ := m_restore (fy_as (fy_trans f13 f34) q2) h.1.2.1 (by rw [t2 134 (by decide), e3]; exact zr_sv)
          obtain ⟨x6, w1, w2, w3⟩ := @m_laysPicture x5 (by rw [u2]; exact ok)
          rw [u2] at w2
          have t1' : fX7_matches_L108 (nI s) kFU v4 0 x3 = _ := t1
          refine ⟨x6, by rw [t1', u1, Option.bind_some, w1, Option.bind_some], w2, by rw [w3.1 134 ⟨by decide, by decide, by decide, by decide, by decide⟩, u2], fun k hk => ?_, fz_trans q4 (fz_y (fy_trans f13 (fy_trans f34 (fy_trans (fy_134 u3) (fy_5 w3)))))⟩
          rw [w3.1 152 ⟨by decide, by decide, by decide, by decide, by decide⟩, u3 152 (by decide), t3 k hk]
          exact s2.2 k hk
        have hh := @half_le (σ 134 0)
        have e35 : x1 134 1 = σ 134 1 := by rw [e1]
        unfold fX7_matches
        rw [hsl, if_pos rfl, if_pos hk2, hsn, hK 139 (by unfold KeepR; omega) (by decide), hS.2.1, h1, if_neg (show ¬ (1 : Int32) = 0 by decide)]
        have hb : fX7_goesBoth (kb true) 1 σ' = (true, th σ' 0) := m_both true true
        rw [hb, Option.bind_some, if_pos rfl, q1, Option.bind_some, m_isHex, Option.bind_some, if_pos (show kin 1 220 = true by decide), m220, r1, Option.bind_some, m_isHex, Option.bind_some, e1, e2, if_pos (show kin 1 220 = true by decide), z1]
        unfold fX7_matches_L98 fX7_matches_L99
        rw [s1, Option.bind_some, Option.bind_some]
        have no : ∃ σ2, fX7_matches_L108 (nI s) kFU 0 0 x3 = some (-1, σ2) ∧ F7 (th σ' 0) σ2 := by
          obtain ⟨x6, w1, w2, w3, w4, w5⟩ := tail 0
          have : kFU = 3999999 + 1 := rfl
          rw [w1, this, fX7_matches_L156.eq_2, m_half, Option.bind_some, w3, two_half, if_neg (show ¬ nI (2 * gHalf (σ 134 0)) ≤ (0 : Int32) by rw [show (0 : Int32) = nI 0 from rfl, dI_le (by omega) (by omega)]; omega), if_pos rfl]
          exact ⟨x6, rfl, f7_z w5 (by rw [w3, e])⟩
        by_cases hx : gHex (sv σ s 0) = gHex (σ 134 0)
        · rw [if_pos ((kb_inj _ _).2 hx)]
          by_cases hr : sv σ s 1 = σ 134 1
          · rw [if_pos hr, if_pos ⟨hx, hr⟩]
            obtain ⟨x6, w1, w2, w3, w4, w5⟩ := tail 1
            have hn := near_same hr hx
            have hL : ∀ n i fu τ, i + n = 2 * gHalf (σ 134 0) → n < fu → MS x6 τ → ∃ ρ, fX7_matches_L156 (nI s) fu 1 (nI i) τ = some (matL (sv σ s) (σ 134) n i, ρ) ∧ MS x6 ρ := by
              intro n
              induction n with
              | zero =>
                intro i fu τ hi hf hM
                match fu, hf with
                | fu + 1, _ =>
                  have : i = 2 * gHalf (σ 134 0) := by omega
                  subst this
                  rw [fX7_matches_L156.eq_2, m_half, Option.bind_some, hM.1 134 (by decide), w3, two_half, if_pos (by grind)]
                  exact ⟨τ, rfl, hM⟩
              | succ n ih =>
                intro i fu τ hi hf hM
                match fu, hf with
                | fu + 1, hf =>
                  have hlp := lp_ms w2 hM
                  obtain ⟨ρ, e7, hM2⟩ := m_brings (σ := τ) (q := 152) (q1 := 145) (m1 := sv σ s) (m2 := σ 134) (k := i) ok (fun c hc hnn => by
                    rw [hM.1 152 (by decide), w4 c hc]
                    unfold lC
                    rw [hn, hnn, if_pos rfl]) hlp.2 (by rw [hM.1 134 (by decide), w3]) ⟨by decide, by decide⟩ (show i < 2 * gHalf (σ 134 0) by omega)
                  rw [fX7_matches_L156.eq_2, m_half, Option.bind_some, hM.1 134 (by decide), w3, two_half, if_neg (by rw [dI_le (by omega) (by omega)]; omega), if_neg (show ¬ (1 : Int32) = 0 by decide), e7, Option.bind_some, nI_add1, matL.eq_2]
                  cases hb : dB (BRG (sv σ s) (σ 134) i) with
                  | true => rw [if_pos rfl, if_pos rfl]; exact ⟨ρ, rfl, ms_trans hM hM2⟩
                  | false =>
                    rw [if_neg Bool.false_ne_true, if_neg Bool.false_ne_true]
                    exact ih (i + 1) fu ρ (by omega) (by omega) (ms_trans hM hM2)
            obtain ⟨ρ, e8, hM8⟩ := hL (2 * gHalf (σ 134 0)) 0 kFU x6 (by omega) (by unfold kFU; omega) ms_refl
            have e8' : fX7_matches_L156 (nI s) kFU 1 0 x6 = _ := e8
            rw [w1, e8']
            exact ⟨ρ, rfl, f7_z (fz_trans w5 (fz_y (fy_ms hM8))) (by rw [hM8.1 134 (by decide), w3, e])⟩
          · rw [if_neg hr, if_neg (fun c => hr c.2)]
            exact no
        · rw [if_neg (fun c => hx ((kb_inj _ _).1 c)), if_neg (fun c => hx c.1)]
          exact no
      have fin : ∀ V σ1, FX σ σ1 → V = (if gHex (sv σ s 0) = gHex (σ 134 0) ∧ sv σ s 1 = σ 134 1 then matL (sv σ s) (σ 134) (2 * gHalf (σ 134 0)) 0 else -1) → ∀ σ', REL σ' → (∀ p, KeepR p → p ≠ 154 → σ' p = σ p) → (∀ i, K33 i → σ' 133 i = σ 133 i) → ∃ w σ2, fX7_matches (nI s) σ' = some (w, σ2) ∧ FX σ' σ2 ∧ THR [1, 2] 0 (σ2 133 7) ∧ (0 = 0 → V = w) := by
        intro V σ1 hf hV σ' h' hK h3
        obtain ⟨σ2, r1, r2⟩ := hM σ' h' hK
        have g := f7_th r2
        exact ⟨_, σ2, r1, g.1, by rw [g.2]; exact thr_0, fun _ => hV⟩
      have hq : fX1_hasSamePicture (115 + 9 * s + 1) 26 σ = decide (gHex (sv σ s 0) = gHex (σ 134 0) ∧ sv σ s 1 = σ 134 1) := by
        unfold fX1_hasSamePicture
        have l1 := bxS.1.1
        have l2 := bx.1.1
        rw [l1.2.1, l1.2.2, l2.2.1, l2.2.2]
        by_cases c1 : sv σ s 1 = σ 134 1
        · rw [if_pos c1]
          by_cases c2 : gHex (sv σ s 0) = gHex (σ 134 0)
          · rw [if_pos ((kb_inj _ _).2 c2), decide_eq_true ⟨c2, c1⟩]
          · rw [if_neg (fun c => c2 ((kb_inj _ _).1 c)), decide_eq_false (fun c => c2 c.1)]
        · rw [if_neg c1, decide_eq_false (fun c => c1 c.2)]
      rw [hq]
      by_cases hc : gHex (sv σ s 0) = gHex (σ 134 0) ∧ sv σ s 1 = σ 134 1
      · rw [decide_eq_true hc, if_pos rfl]
        obtain ⟨ρ, e1, g1, g2, g3, g4⟩ := c_look' h
        have bS1 : BX ρ (115 + 9 * s) (sv σ s) := bx_frame bxS (fun p a b => g2 p (by unfold F14; omega))
        obtain ⟨ρ2, e2, k1, k2⟩ := c_look (q0 := 14) (b := 115 + 9 * s) okS (.inl (by omega)) bS1
        have g1' : PX 7 (σ 134) ρ2 := by
          unfold PX
          rw [k2 (7 + 1) (by unfold F14; omega), k2 (7 + 2) (by unfold F14; omega), k2 (7 + 3) (by unfold F14; omega), k2 (7 + 4) (by unfold F14; omega)]
          exact g1
        have g3' : LX ρ2 26 (σ 134 0) (σ 134 1) := ⟨by rw [k2 26 (by unfold F14; omega)]; exact g3.1, fun c hc => by rw [k2 (26 + 1) (by unfold F14; omega)]; exact g3.2 c hc⟩
        have hn := near_same hc.2 hc.1
        have hh := @half_le (σ 134 0)
        have hL : ∀ n i fu, i + n = 2 * gHalf (σ 134 0) → n < fu → fX6_matches_L52 (nI s) fu (nI i) ρ2 = some (0, matL (sv σ s) (σ 134) n i, ρ2) := by
          intro n
          induction n with
          | zero =>
            intro i fu hi hf
            match fu, hf with
            | fu + 1, _ =>
              have : i = 2 * gHalf (σ 134 0) := by omega
              subst this
              rw [fX6_matches_L52.eq_2, c_maps g3', if_pos (by grind)]
              rfl
          | succ n ih =>
            intro i fu hi hf
            match fu, hf with
            | fu + 1, hf =>
              rw [fX6_matches_L52.eq_2, c_maps g3', if_neg (by rw [dI_le (by omega) (by omega)]; omega), c_brought okS ok hn g3' k1 g1' (by omega), Option.bind_some, nI_add1, matL.eq_2]
              cases hb : dB (BRG (sv σ s) (σ 134) i) with
              | true => rw [if_pos rfl, if_pos rfl]
              | false =>
                rw [if_neg Bool.false_ne_true, if_neg Bool.false_ne_true]
                exact ih (i + 1) fu (by omega) (by omega)
        have e3 := hL (2 * gHalf (σ 134 0)) 0 kFU (by omega) (by unfold kFU; omega)
        have e3' : fX6_matches_L52 (nI s) kFU 0 ρ2 = _ := e3
        rw [e1, Option.bind_some, e2, Option.bind_some, e3']
        have hf := fx_trans g4 (fx_14 (.inr rfl) k2)
        exact ⟨0, _, ρ2, rfl, hf, fin _ ρ2 hf (by rw [if_pos hc])⟩
      · rw [decide_eq_false hc, if_neg Bool.false_ne_true]
        exact ⟨0, -1, σ, rfl, fx_refl, fin (-1) σ fx_refl (by rw [if_neg hc])⟩
