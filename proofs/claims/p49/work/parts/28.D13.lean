def BM (m : Vc) (R : Nat → Prop) (s : Nat) (D W : List Nat) (τ : Sto) : Prop :=
  (D ++ W).Nodup ∧ (∀ k, k ∈ D ++ W → nd m k ∧ Rch m s k ∧ ¬ R k) ∧ (∀ i k, W[i]? = some k → τ 151 i = nI k) ∧ ∀ k, nd m k → (τ 150 k = -1 ↔ ¬ (R k ∨ k ∈ D ++ W))
def PM (m : Vc) (τ : Sto) : Prop := τ 134 = m ∧ MK τ ∧ ∀ k, k < 169 → τ 145 k = lC m (mx k) (my k)
def F51 (p : Nat) : Prop := p ≠ 150 ∧ p ≠ 151
theorem bm_len {m : Vc} {R : Nat → Prop} {s : Nat} {D W : List Nat} {τ : Sto} (h : BM m R s D W τ) : D.length + W.length ≤ 169 := by
  have := nodup_le (l' := List.range 169) h.1 (fun k hk => List.mem_range.2 (h.2.1 k hk).1.1)
  rw [List.length_range, List.length_append] at this
  exact this
theorem nd_lC {m : Vc} {k : Nat} (h : nd m k) : lC m (mx k) (my k) = ndC m k := by unfold lC ndC; rw [h.2, if_pos rfl]
section REG3
variable {σ : Sto} {m : Vc} {R : Nat → Prop} {s : Nat}
theorem pm_51 {τ : Sto} (h : PM m σ) (hf : ∀ p, F51 p → τ p = σ p) : PM m τ := by
  refine ⟨by rw [hf 134 ⟨by decide, by decide⟩]; exact h.1, ?_, fun k hk => by rw [hf 145 ⟨by decide, by decide⟩]; exact h.2.2 k hk⟩
  unfold MK
  rw [hf 140 ⟨by decide, by decide⟩, hf 141 ⟨by decide, by decide⟩]
  exact h.2.1
theorem bm_push {D W : List Nat} {τ : Sto} (h : BM m R s D W τ) {j a2 : Nat} (ha : a2 < 1000) (hj : nd m j) (hr : Rch m s j) (hv : ¬ (R j ∨ j ∈ D ++ W)) : BM m R s D (W ++ [j]) (su (su τ 150 j (nI a2)) 151 W.length (nI j)) := by
  have hnV : j ∉ D ++ W := fun c => hv (.inr c)
  refine ⟨?_, ?_, ?_, ?_⟩
  · rw [← List.append_assoc, List.nodup_append]
    refine ⟨h.1, by simp, ?_⟩
    intro a ha b hb
    simp at hb
    subst hb
    intro c
    subst c
    exact hnV ha
  · intro k hk
    rw [← List.append_assoc] at hk
    rcases List.mem_append.1 hk with hk | hk
    · exact h.2.1 k hk
    · simp at hk
      subst hk
      exact ⟨hj, hr, fun c => hv (.inl c)⟩
  · intro i k hi
    rw [su_at, su_k (show 151 ≠ 150 by decide)]
    rw [List.getElem?_append] at hi
    split at hi
    · next hlt =>
      rw [if_neg (by omega)]
      exact h.2.2.1 i k hi
    · next hge =>
      have : i - W.length = 0 := by
        cases e : i - W.length with
        | zero => rfl
        | succ n => rw [e] at hi; simp at hi
      rw [this] at hi
      simp at hi
      subst hi
      rw [if_pos (by omega)]
  · intro k hk
    rw [su_k (show 150 ≠ 151 by decide), su_at]
    by_cases hkj : k = j
    · subst hkj
      rw [if_pos rfl]
      constructor
      · intro c; exact absurd c (nI_ne1 (by omega))
      · intro c; exact absurd (.inr (by simp)) c
    · rw [if_neg hkj, h.2.2.2 k hk]
      simp [hkj]
theorem m_flood_d (ok : OKm m) (hR : Cls m R) {k a2 : Nat} (ha : a2 < 1000) (hs : nd m s) {v3 : Int32} {K : Int32 → Int32 → Sto → Option (Int32 × Sto)} (n : Nat) : ∀ (d fu : Nat) (D W : List Nat) (τ : Sto), d + n = gDirs (m 0) → n < fu → PM m τ → BM m R s D W τ → k ∈ D →
    ∃ W' τ', fX7_floods_L42 (nI s) (nI a2) K fu v3 (nI W.length) (nI k) (nI d) τ = K v3 (nI W'.length) τ' ∧ BM m R s D W' τ' ∧ (∀ j, j ∈ W → j ∈ W') ∧ (∀ d' j, d ≤ d' → d' < gDirs (m 0) → nd m j → ndC m j = ndC m k → stp m k j d' → j ∈ D ++ W') ∧ ∀ p, F51 p → τ' p = τ p := by
  have hd8 := @dirs_le (m 0)
  induction n with
  | zero =>
    intro d fu D W τ hd hf hp hB hk
    match fu, hf with
    | fu + 1, _ =>
      rw [fX7_floods_L42.eq_2, m_dirs, Option.bind_some, hp.1, if_pos ((dI_le (by omega) (by omega)).2 (by omega))]
      exact ⟨W, τ, rfl, hB, fun _ h => h, fun d' j h1 h2 => absurd h2 (by omega), fun _ _ => rfl⟩
  | succ n ih =>
    intro d fu D W τ hd hf hp hB hk
    match fu, hf with
    | fu + 1, hf =>
      have hlen := bm_len hB
      have hDp : 0 < D.length := List.length_pos_of_mem hk
      have hkn := hB.2.1 k (List.mem_append_left _ hk)
      have hcs : τ 145 s = ndC m s := by rw [hp.2.2 s hs.1, nd_lC hs]
      have hck : ndC m k = ndC m s := rch_col hkn.2.1
      rw [fX7_floods_L42.eq_2, m_dirs, Option.bind_some, hp.1, if_neg (by rw [dI_le (by omega) (by omega)]; omega), m_stepX hp.2.1 (show d < gDirs (τ 134 0) by rw [hp.1]; omega), m_stepY hp.2.1 (show d < gDirs (τ 134 0) by rw [hp.1]; omega), Option.bind_some, Option.bind_some, m_near, Option.bind_some, hp.1]
      simp only [fX7_floods_L160, nI_add1]
      rw [show fX7_xOf (nI k) = mx k from rfl, show fX7_yOf (nI k) = my k from rfl]
      cases hn2 : gNear (m 0) (m 1) (mx k + gSX (m 0) d) (my k + gSY (m 0) d) with
      | false =>
        rw [if_neg Bool.false_ne_true]
        obtain ⟨W', τ', g1, g2, g3, g4, g5⟩ := ih (d + 1) fu D W τ (by omega) (by omega) hp hB hk
        refine ⟨W', τ', g1, g2, g3, fun d' j h1 h2 h3 h4 h5 => ?_, g5⟩
        by_cases hdd : d' = d
        · subst hdd
          have h6 := h3.2
          rw [h5.1, h5.2, hn2] at h6
          cases h6
        · exact g4 d' j (by omega) h2 h3 h4 h5
      | true =>
        have hS := near_S ok.2.1 hn2
        have ej1 := mx_mk hS
        have ej2 := my_mk hS
        have hj : nd m (mk (mx k + gSX (m 0) d) (my k + gSY (m 0) d)) := ⟨mk_lt hS, by rw [ej1, ej2]; exact hn2⟩
        have hst : stp m k (mk (mx k + gSX (m 0) d) (my k + gSY (m 0) d)) d := ⟨ej1, ej2⟩
        have euniq : ∀ j, nd m j → stp m k j d → j = mk (mx k + gSX (m 0) d) (my k + gSY (m 0) d) := by
          intro j h3 h5
          rw [← h5.1, ← h5.2, mxy_mk h3.1]
        have eC : fX7_cell (mx k + gSX (m 0) d) (my k + gSY (m 0) d) = nI (mk (mx k + gSX (m 0) d) (my k + gSY (m 0) d)) := (mk_nI hS).symm
        rw [if_pos rfl, eC]
        generalize mk (mx k + gSX (m 0) d) (my k + gSY (m 0) d) = j0 at *
        have hj169 := hj.1
        simp only [kn169 hj169, kn169 hs.1, if_true, nI_n (show j0 < 2147483648 by omega), nI_n (show s < 2147483648 by have := hs.1; omega), hcs, hp.2.2 j0 hj169, nd_lC hj, klet_eq, kn169 (show W.length < 169 by omega), nI_n (show W.length < 2147483648 by omega)]
        by_cases hm1 : τ 150 j0 = -1
        · rw [if_pos hm1]
          have hv := (hB.2.2.2 j0 hj).1 hm1
          by_cases hcj : ndC m j0 = ndC m s
          · rw [if_pos hcj]
            have hadj : adj m k j0 := ⟨hj, by rw [hcj, hck], d, by omega, hst⟩
            have hB1 := bm_push hB ha hj (rch_step hkn.2.1 hadj) hv
            have hf1 : ∀ p, F51 p → su (su τ 150 j0 (nI a2)) 151 W.length (nI j0) p = τ p := fun p hp' => by rw [su_k hp'.2, su_k hp'.1]
            obtain ⟨W', τ', g1, g2, g3, g4, g5⟩ := ih (d + 1) fu D (W ++ [j0]) _ (by omega) (by omega) (pm_51 hp hf1) hB1 hk
            rw [List.length_append] at g1
            refine ⟨W', τ', g1, g2, fun j hj' => g3 j (List.mem_append_left _ hj'), fun d' j h1 h2 h3 h4 h5 => ?_, fun p hp' => by rw [g5 p hp', hf1 p hp']⟩
            by_cases hdd : d' = d
            · subst hdd
              rw [euniq j h3 h5]
              exact List.mem_append_right _ (g3 j0 (List.mem_append_right _ (by simp)))
            · exact g4 d' j (by omega) h2 h3 h4 h5
          · rw [if_neg hcj]
            obtain ⟨W', τ', g1, g2, g3, g4, g5⟩ := ih (d + 1) fu D W τ (by omega) (by omega) hp hB hk
            refine ⟨W', τ', g1, g2, g3, fun d' j h1 h2 h3 h4 h5 => ?_, g5⟩
            by_cases hdd : d' = d
            · subst hdd
              rw [euniq j h3 h5] at h4
              exact absurd (by rw [h4, hck]) hcj
            · exact g4 d' j (by omega) h2 h3 h4 h5
        · rw [if_neg hm1]
          have hv : R j0 ∨ j0 ∈ D ++ W := Classical.byContradiction fun c => hm1 ((hB.2.2.2 j0 hj).2 c)
          obtain ⟨W', τ', g1, g2, g3, g4, g5⟩ := ih (d + 1) fu D W τ (by omega) (by omega) hp hB hk
          refine ⟨W', τ', g1, g2, g3, fun d' j h1 h2 h3 h4 h5 => ?_, g5⟩
          by_cases hdd : d' = d
          · subst hdd
            have hadj : adj m k j0 := ⟨hj, by rw [← euniq j h3 h5]; exact h4, d', by omega, hst⟩
            have hjV := hv.resolve_left (cls_no hR hkn.1 hkn.2.2 hadj)
            rw [euniq j h3 h5]
            rcases List.mem_append.1 hjV with h6 | h6
            · exact List.mem_append_left _ h6
            · exact List.mem_append_right _ (g3 j0 h6)
          · exact g4 d' j (by omega) h2 h3 h4 h5
theorem sub1 {n : Nat} : nI (n + 1) + (-1) = nI n := by
  rw [← nI_add1]
  grind
theorem m_flood_L (ok : OKm m) (hR : Cls m R) {a2 : Nat} (ha : a2 < 1000) (hs : nd m s) (n : Nat) : ∀ (fu : Nat) (D W : List Nat) (τ : Sto), D.length + n = 170 → n < fu → PM m τ → BM m R s D W τ → s ∈ D ++ W → (∀ k j, k ∈ D → adj m k j → j ∈ D ++ W) →
    ∃ D' τ', fX7_floods_L19 (nI s) (nI a2) fu (nI D.length) (nI W.length) τ = some (nI D'.length, τ') ∧ BM m R s D' [] τ' ∧ (∀ j, j ∈ D' ↔ Rch m s j) ∧ ∀ p, F51 p → τ' p = τ p := by
  induction n with
  | zero =>
    intro fu D W τ hn hf hp hB hsV hcl
    have := bm_len hB
    omega
  | succ n ih =>
    intro fu D W τ hn hf hp hB hsV hcl
    match fu, hf with
    | fu + 1, hf =>
      have hlen := bm_len hB
      rw [fX7_floods_L19.eq_2]
      rcases List.eq_nil_or_concat W with hW | ⟨W0, k, hW⟩
      · subst hW
        rw [if_pos (by decide)]
        rw [List.append_nil] at hsV hcl
        refine ⟨D, τ, rfl, hB, fun j => ⟨fun h => (hB.2.1 j (by simp [h])).2.1, fun h => h (fun j => j ∈ D) hsV (fun a b h1 h2 => hcl a b h1 h2)⟩, fun _ _ => rfl⟩
      · rw [List.concat_eq_append] at hW
        subst hW
        rw [List.length_append] at hlen
        have hl1 : (W0 ++ [k]).length = W0.length + 1 := by simp
        have hl1' : [k].length = 1 := rfl
        have hkW : τ 151 W0.length = nI k := hB.2.2.1 W0.length k (by simp)
        rw [hl1, if_neg (show ¬ nI (W0.length + 1) ≤ (0 : Int32) by rw [show (0 : Int32) = nI 0 from rfl, dI_le (by omega) (by omega)]; omega), sub1, if_pos (kn169 (show W0.length < 169 by omega)), nI_n (by omega), hkW, nI_add1]
        have hB' : BM m R s (D ++ [k]) W0 τ := by
          have hmem : ∀ j, j ∈ (D ++ [k]) ++ W0 ↔ j ∈ D ++ (W0 ++ [k]) := fun j => by
            simp only [List.mem_append]
            constructor
            · rintro ((h | h) | h)
              · exact .inl h
              · exact .inr (.inr h)
              · exact .inr (.inl h)
            · rintro (h | h | h)
              · exact .inl (.inl h)
              · exact .inr h
              · exact .inl (.inr h)
          refine ⟨?_, fun j hj => hB.2.1 j ((hmem j).1 hj), fun i j hi => hB.2.2.1 i j ?_, fun j hj => by rw [hB.2.2.2 j hj, hmem j]⟩
          · have hp : (D ++ (W0 ++ [k])).Perm ((D ++ [k]) ++ W0) := by
              rw [List.append_assoc]
              exact List.Perm.append_left D List.perm_append_comm
            exact hp.nodup_iff.1 hB.1
          · have : i < W0.length := by
              rcases Nat.lt_or_ge i W0.length with h | h
              · exact h
              · rw [List.getElem?_eq_none h] at hi; cases hi
            rw [List.getElem?_append_left this]
            exact hi
        have hDl : (D ++ [k]).length = D.length + 1 := by simp
        obtain ⟨W', τ1, g1, g2, g3, g4, g5⟩ := m_flood_d (v3 := nI (D.length + 1)) (K := fX7_floods_L19 (nI s) (nI a2) fu) ok hR ha hs (k := k) (gDirs (m 0)) 0 kFU (D ++ [k]) W0 τ (by omega) (by have := @dirs_le (m 0); unfold kFU; omega) hp hB' (by simp)
        rw [show (0 : Int32) = nI 0 from rfl, g1]
        obtain ⟨D', τ2, f1, f2, f3, f4⟩ := ih fu (D ++ [k]) W' τ1 (by omega) (by omega) (pm_51 hp g5) g2 (by
          simp only [List.mem_append] at hsV ⊢
          rcases hsV with h | h | h
          · exact .inl (.inl h)
          · exact .inr (g3 s h)
          · exact .inl (.inr h)) (fun a b h1 h2 => by
          rcases List.mem_append.1 h1 with h1 | h1
          · have := hcl a b h1 h2
            simp only [List.mem_append] at this ⊢
            rcases this with h | h | h
            · exact .inl (.inl h)
            · exact .inr (g3 b h)
            · exact .inl (.inr h)
          · simp at h1
            subst h1
            obtain ⟨q1, q2, d, q3, q4⟩ := h2
            exact g4 d b (by omega) q3 q1 q2 q4)
        rw [hDl] at f1
        exact ⟨D', τ2, f1, f2, f3, fun p hp' => by rw [f4 p hp', g5 p hp']⟩
def RMm (m : Vc) (R : Nat → Prop) (τ : Sto) : Prop := ∀ k, nd m k → (τ 150 k = -1 ↔ ¬ R k)
theorem m_floods (ok : OKm m) (hR : Cls m R) {a2 : Nat} (ha : a2 < 1000) (hs : nd m s) (hsR : ¬ R s) (hp : PM m σ) (hM : RMm m R σ) :
    ∃ τ, fX7_floods (nI s) (nI a2) σ = some (nI (nReg m s), τ) ∧ RMm m (comp m R s) τ ∧ ∀ p, F51 p → τ p = σ p := by
  unfold fX7_floods
  have hs9 := hs.1
  rw [if_pos (by decide), klet_eq, if_pos (kn169 hs9), klet_eq, nI_n (by omega), show Int32.toNatClampNeg 0 = 0 from z0]
  have hB : BM m R s [] [s] (su (su σ 151 0 (nI s)) 150 s (nI a2)) := by
    refine ⟨by simp, ?_, ?_, ?_⟩
    · intro k hk
      simp at hk
      subst hk
      exact ⟨hs, rch_refl, hsR⟩
    · intro i k hi
      cases i with
      | zero =>
        simp at hi
        subst hi
        rw [su_k (by decide), su_at, if_pos rfl]
      | succ n => simp at hi
    · intro k hk
      rw [su_at, su_k (by decide)]
      by_cases hks : k = s
      · subst hks
        rw [if_pos rfl]
        constructor
        · intro c; exact absurd c (nI_ne1 (by omega))
        · intro c; exact absurd (.inr (by simp)) c
      · rw [if_neg hks, hM k hk]
        simp [hks]
  have hf0 : ∀ p, F51 p → su (su σ 151 0 (nI s)) 150 s (nI a2) p = σ p := fun p hp' => by rw [su_k hp'.1, su_k hp'.2]
  obtain ⟨D, τ, e, h1, h2, h3⟩ := m_flood_L ok hR ha hs 170 kFU [] [s] _ rfl (by unfold kFU; omega) (pm_51 hp hf0) hB (by simp) (fun k j hk => by simp at hk)
  refine ⟨τ, ?_, fun k hk => ?_, fun p hp' => by rw [h3 p hp', hf0 p hp']⟩
  · rw [← nReg_of hs (by have := h1.1; rw [List.append_nil] at this; exact this) h2]
    exact e
  · have := h1.2.2.2 k hk
    rw [List.append_nil, h2] at this
    exact this
theorem m_clearsR : ∃ τ, fX7_clearsRegions σ = some τ ∧ (∀ c, c < 169 → τ 150 c = -1) ∧ ∀ p, p ≠ 150 → τ p = σ p := by
  have hL : ∀ n i fu τ, i + n = 169 → n < fu → (∀ c, c < i → τ 150 c = -1) → ∃ ρ, fX7_clearsRegions_L2 fu (nI i) τ = some ρ ∧ (∀ c, c < 169 → ρ 150 c = -1) ∧ ∀ p, p ≠ 150 → ρ p = τ p := by
    intro n
    induction n with
    | zero =>
      intro i fu τ hi hf hx
      match fu, hf with
      | fu + 1, _ =>
        have : i = 169 := by omega
        subst this
        rw [fX7_clearsRegions_L2.eq_2, if_pos (by decide)]
        exact ⟨τ, rfl, hx, fun _ _ => rfl⟩
    | succ n ih =>
      intro i fu τ hi hf hx
      match fu, hf with
      | fu + 1, hf =>
        rw [fX7_clearsRegions_L2.eq_2, if_neg (le169 (show i < 169 by omega)), if_pos (kn169 (show i < 169 by omega)), klet_eq, nI_n (by omega), nI_add1]
        obtain ⟨ρ, e, h1, h2⟩ := ih (i + 1) fu (su τ 150 i (-1)) (by omega) (by omega) (fun c hc => by
          rw [su_at]
          split
          · rfl
          · exact hx c (by omega))
        exact ⟨ρ, e, h1, fun p hp => by rw [h2 p hp, su_k hp]⟩
  exact hL 169 0 kFU σ (by omega) (by unfold kFU; omega) (fun c hc => absurd hc (by omega))
theorem m_regions_L (ok : OKm m) {col : Int32} (n : Nat) : ∀ (i fu v : Nat) (R : Nat → Prop) (τ : Sto), i + n = 169 → n < fu → v ≤ i → PM m τ → Cls m R → RMm m R τ →
    ∃ τ', fX7_regionsOf_L8 col fu (nI v) (nI i) τ = some (nI (v + cntR m (belQ m col) (List.range' i n) R), τ') ∧ ∀ p, F51 p → τ' p = τ p := by
  induction n with
  | zero =>
    intro i fu v R τ hi hf hv hp hR hM
    match fu, hf with
    | fu + 1, _ =>
      have : i = 169 := by omega
      subst this
      rw [fX7_regionsOf_L8.eq_2, if_pos (by decide)]
      exact ⟨τ, rfl, fun _ _ => rfl⟩
  | succ n ih =>
    intro i fu v R τ hi hf hv hp hR hM
    match fu, hf with
    | fu + 1, hf =>
      have hi2 : i < 169 := by omega
      rw [fX7_regionsOf_L8.eq_2, if_neg (le169 hi2), m_picCell, Option.bind_some, hp.1]
      simp only [fX7_regionsOf_L50, fX7_regionsOf_L46, fX7_regionsOf_L51, fX7_regionsOf_L79, nI_add1, kn169 hi2, if_true, nI_n (show i < 2147483648 by omega), show ¬ (1 : Int32) = 0 from by decide, if_false]
      rw [List.range'_succ]
      cases hn : gNear (m 0) (m 1) (mx i) (my i) with
      | false =>
        rw [if_neg Bool.false_ne_true, cnt_no (fun c => by have := c.1.1.2; rw [hn] at this; cases this)]
        exact ih (i + 1) fu v R τ (by omega) (by omega) (by omega) hp hR hM
      | true =>
        have hnd : nd m i := ⟨hi2, hn⟩
        have hMi := hM i hnd
        rw [if_pos rfl, hp.2.2 i hi2, nd_lC hnd]
        have hsel : ∀ {β : Type} {x y : β}, (if ndC m i = 0 then x else (if col = 0 then y else (if ndC m i = col then y else x))) = if dB (belQ m col i) = true then y else x := by
          intro β x y
          by_cases h0 : ndC m i = 0
          · rw [if_pos h0, dB_f (fun c => c.2.1 h0), if_neg Bool.false_ne_true]
          · rw [if_neg h0]
            by_cases hc : col = 0
            · rw [if_pos hc, dB_t ⟨hnd, h0, .inl hc⟩, if_pos rfl]
            · rw [if_neg hc]
              by_cases h1 : ndC m i = col
              · rw [if_pos h1, dB_t ⟨hnd, h0, .inr h1⟩, if_pos rfl]
              · rw [if_neg h1, dB_f (fun c => c.2.2.elim hc h1), if_neg Bool.false_ne_true]
        rw [hsel]
        by_cases hbel : belQ m col i
        · rw [dB_t hbel, if_pos rfl]
          by_cases hRk : R i
          · rw [if_neg (fun c => hMi.1 c hRk), cnt_no (fun c => c.2 hRk)]
            exact ih (i + 1) fu v R τ (by omega) (by omega) (by omega) hp hR hM
          · rw [if_pos (hMi.2 hRk), cnt_yes ⟨hbel, hRk⟩]
            obtain ⟨τ1, e1, hM1, hf1⟩ := m_floods ok hR (a2 := v) (by omega) hnd hRk hp hM
            rw [e1, Option.bind_some]
            obtain ⟨τ2, e2, hf2⟩ := ih (i + 1) fu (v + 1) (comp m R i) τ1 (by omega) (by omega) (by omega) (pm_51 hp hf1) (cls_comp hR hnd) hM1
            exact ⟨τ2, by rw [e2]; congr 3; omega, fun p hp' => by rw [hf2 p hp', hf1 p hp']⟩
        · rw [dB_f hbel, if_neg Bool.false_ne_true, cnt_no (fun c => hbel c.1)]
          exact ih (i + 1) fu v R τ (by omega) (by omega) (by omega) hp hR hM
theorem m_regionsOf (ok : OKm m) {col : Int32} (hp : PM m σ) : ∃ τ, fX7_regionsOf col σ = some (nI (nRegs m col), τ) ∧ ∀ p, F51 p → τ p = σ p := by
  obtain ⟨τ, e, h1, h2⟩ := @m_clearsR σ
  unfold fX7_regionsOf
  rw [e, Option.bind_some]
  have hf : ∀ p, F51 p → τ p = σ p := fun p hp' => h2 p hp'.1
  obtain ⟨τ', e', hf'⟩ := m_regions_L (col := col) ok 169 0 kFU 0 (fun _ => False) τ rfl (by unfold kFU; omega) (Nat.le_refl _) (pm_51 hp hf) cls_none (fun k hk => ⟨fun _ c => c, fun _ => h1 _ hk.1⟩)
  refine ⟨τ', ?_, fun p hp' => by rw [hf' p hp', hf p hp']⟩
  refine e'.trans ?_
  rw [Nat.zero_add, ← List.range_eq_range']
  rfl
end REG3
