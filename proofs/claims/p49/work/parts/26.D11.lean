theorem nodup_le {l : List Nat} : ∀ {l' : List Nat}, l.Nodup → (∀ k, k ∈ l → k ∈ l') → l.length ≤ l'.length := by
  induction l with
  | nil => intro l' _ _; exact Nat.zero_le _
  | cons a t ih =>
    intro l' hn hs
    have h1 := List.nodup_cons.1 hn
    have ha := hs a List.mem_cons_self
    have h2 := ih (l' := l'.erase a) h1.2 (fun k hk => (List.mem_erase_of_ne (fun c => h1.1 (by rw [← c]; exact hk))).2 (hs k (List.mem_cons_of_mem _ hk)))
    rw [List.length_erase_of_mem ha] at h2
    have h3 := List.length_pos_of_mem ha
    simp only [List.length_cons]
    omega
def nd (m : Vc) (k : Nat) : Prop := k < 169 ∧ gNear (m 0) (m 1) (mx k) (my k) = true
noncomputable def ndC (m : Vc) (k : Nat) : Int32 := mCol m (mx k) (my k)
def stp (m : Vc) (k j d : Nat) : Prop := mx j = mx k + gSX (m 0) d ∧ my j = my k + gSY (m 0) d
def adj (m : Vc) (k j : Nat) : Prop := nd m j ∧ ndC m j = ndC m k ∧ ∃ d, d < gDirs (m 0) ∧ stp m k j d
def Rch (m : Vc) (s j : Nat) : Prop := ∀ P : Nat → Prop, P s → (∀ a b, P a → adj m a b → P b) → P j
theorem rch_refl {m : Vc} {s : Nat} : Rch m s s := fun _ h _ => h
theorem rch_step {m : Vc} {s a b : Nat} (h : Rch m s a) (h' : adj m a b) : Rch m s b := fun P hp hs => hs a b (h P hp hs) h'
theorem rch_trans {m : Vc} {a b c : Nat} (h : Rch m a b) (h' : Rch m b c) : Rch m a c := fun P hp hs => h' P (h P hp hs) hs
theorem rch_nd {m : Vc} {s j : Nat} (hs : nd m s) (h : Rch m s j) : nd m j := h (fun j => nd m j) hs (fun _ _ _ hb => hb.1)
theorem rch_col {m : Vc} {s j : Nat} (h : Rch m s j) : ndC m j = ndC m s := h (fun j => ndC m j = ndC m s) rfl (fun _ _ ha hb => by rw [hb.2.1, ha])
theorem step_inv {a : Int32} {d : Nat} (hd : d < gDirs a) : ∃ d', d' < gDirs a ∧ gSX a d' = -gSX a d ∧ gSY a d' = -gSY a d := by
  unfold gDirs at hd ⊢
  unfold gSX gSY
  cases hx : gHex a
  · rw [hx] at hd
    simp only [Bool.false_eq_true, if_false] at hd ⊢
    refine ⟨(d + 4) % 8, by omega, ?_⟩
    revert d
    decide
  · rw [hx] at hd
    simp only [if_true] at hd ⊢
    refine ⟨(d + 3) % 6, by omega, ?_⟩
    revert d
    decide
theorem adj_sym {m : Vc} {a b : Nat} (ha : nd m a) (h : adj m a b) : adj m b a := by
  obtain ⟨h1, h2, d, h3, h4, h5⟩ := h
  obtain ⟨d', e1, e2, e3⟩ := step_inv h3
  refine ⟨ha, h2.symm, d', e1, ?_, ?_⟩
  · rw [e2, h4]; grind
  · rw [e3, h5]; grind
theorem rch_sym {m : Vc} {s j : Nat} (hs : nd m s) (h : Rch m s j) : Rch m j s := by
  have : Rch m j s ∧ nd m j := h (fun j => Rch m j s ∧ nd m j) ⟨rch_refl, hs⟩ (fun a b ha hb => ⟨rch_trans (rch_step rch_refl (adj_sym ha.2 hb)) ha.1, hb.1⟩)
  exact this.1
def Cls (m : Vc) (R : Nat → Prop) : Prop := (∀ a b, R a → adj m a b → R b) ∧ ∀ a, R a → nd m a
theorem cls_no {m : Vc} {R : Nat → Prop} (h : Cls m R) {a b : Nat} (ha : nd m a) (hn : ¬ R a) (hb : adj m a b) : ¬ R b := fun c => hn (h.1 b a c (adj_sym ha hb))
def comp (m : Vc) (R : Nat → Prop) (s : Nat) : Nat → Prop := fun j => R j ∨ Rch m s j
theorem cls_comp {m : Vc} {R : Nat → Prop} (h : Cls m R) {s : Nat} (hs : nd m s) : Cls m (comp m R s) := by
  refine ⟨fun a b ha hb => ?_, fun a ha => ?_⟩
  · rcases ha with h1 | h1
    · exact .inl (h.1 a b h1 hb)
    · exact .inr (rch_step h1 hb)
  · rcases ha with h1 | h1
    · exact h.2 a h1
    · exact rch_nd hs h1
def cK (k : Nat) : Nat := ci (mx k) (my k)
theorem nd_R {m : Vc} {k : Nat} (h : nd m k) : inR (mx k) (my k) := inS_R (mxy_in h.1)
theorem cK_inj {m : Vc} {k j : Nat} (hk : nd m k) (hj : nd m j) (e : cK k = cK j) : k = j := by
  have := ci_inj (nd_R hk) (nd_R hj) e
  rw [← mxy_mk hk.1, ← mxy_mk hj.1, this.1, this.2]
def BI (m : Vc) (q : Nat) (R : Nat → Prop) (s : Nat) (V : List Nat) (τ : Sto) : Prop :=
  V.Nodup ∧ (∀ k, k ∈ V → nd m k ∧ Rch m s k ∧ ¬ R k) ∧ (∀ i k, V[i]? = some k → τ (q + 6) i = fX1_cellAt (mx k) (my k)) ∧ ∀ k, nd m k → (τ (q + 5) (cK k) = 0 ↔ ¬ (R k ∨ k ∈ V))
def PXc (q : Nat) (m : Vc) (τ : Sto) : Prop := ∀ c, c < 225 → τ (q + 3) c = pC m (cx c) (cy c)
def F56 (q p : Nat) : Prop := p ≠ q + 5 ∧ p ≠ q + 6
theorem bi_len {m : Vc} {q : Nat} {R : Nat → Prop} {s : Nat} {V : List Nat} {τ : Sto} (h : BI m q R s V τ) : V.length ≤ 169 := by
  have := nodup_le (l' := List.range 169) h.1 (fun k hk => List.mem_range.2 (h.2.1 k hk).1.1)
  rw [List.length_range] at this
  exact this
section REG1
variable {σ : Sto} {q q1 : Nat} {m : Vc} {R : Nat → Prop} {s : Nat}
theorem px_c (h : PXc q m σ) {x y : Int32} (hR : inR x y) : fX3_colourOf q (fX1_cellAt x y) σ = some (pC m x y) := by
  unfold fX3_colourOf
  rw [if_pos (cell_is hR), if_pos (cell_kin hR)]
  have := h (ci x y) (ci_lt hR)
  rw [cx_ci hR, cy_ci hR] at this
  rw [ci_e, this]
theorem nd_pC {k : Nat} (h : nd m k) : pC m (mx k) (my k) = ndC m k := by unfold pC ndC; rw [h.2, if_pos rfl]
theorem c_reach_old {V : List Nat} (h : BI m q R s V σ) {j : Nat} (hj : nd m j) (hv : R j ∨ j ∈ V) {w : Int32} : fX3_reach q (fX1_cellAt (mx j) (my j)) w σ = some (w, σ) := by
  unfold fX3_reach
  have := (h.2.2.2 j hj)
  rw [if_pos (cell_is (nd_R hj)), if_pos (cell_kin (nd_R hj)), if_neg]
  intro c
  exact this.1 c hv
theorem c_reach_new {V : List Nat} (h : BI m q R s V σ) {j : Nat} (hj : nd m j) (hr : Rch m s j) (hv : ¬ (R j ∨ j ∈ V)) : ∃ τ, fX3_reach q (fX1_cellAt (mx j) (my j)) (nI V.length) σ = some (nI (V ++ [j]).length, τ) ∧ BI m q R s (V ++ [j]) τ ∧ ∀ p, F56 q p → τ p = σ p := by
  have hlen : V.length ≤ 169 := bi_len h
  unfold fX3_reach
  have h5 := (h.2.2.2 j hj).2 hv
  rw [if_pos (cell_is (nd_R hj)), if_pos (cell_kin (nd_R hj)), ci_e]
  rw [show ci (mx j) (my j) = cK j from rfl, if_pos h5, if_neg (by have := @nI_lt0 V.length (by omega); grind), if_pos (show nI V.length < 225 by rw [← e225, dI_lt (by omega) (by omega)]; omega), klet_eq, if_pos (kin_nI (show V.length < 225 by omega) (by decide)), klet_eq, nI_n (by omega), if_pos (cell_kin (nd_R hj)), nI_add1]
  refine ⟨_, by rw [List.length_append]; rfl, ⟨?_, ?_, ?_, ?_⟩, ?_⟩
  · rw [List.nodup_append]
    refine ⟨h.1, by simp, ?_⟩
    intro a ha b hb
    simp at hb
    subst hb
    intro c
    subst c
    exact hv (.inr ha)
  · intro k hk
    rcases List.mem_append.1 hk with hk | hk
    · exact h.2.1 k hk
    · simp at hk
      subst hk
      exact ⟨hj, hr, fun c => hv (.inl c)⟩
  · intro i k hi
    rw [su_at, su_k (show q + 6 ≠ q + 5 by omega)]
    rw [List.getElem?_append] at hi
    split at hi
    · next hlt =>
      rw [if_neg (by omega)]
      exact h.2.2.1 i k hi
    · next hge =>
      have : i - V.length = 0 := by
        cases e : i - V.length with
        | zero => rfl
        | succ n => rw [e] at hi; simp at hi
      rw [this] at hi
      simp at hi
      subst hi
      rw [if_pos (by omega)]
  · intro k hk
    rw [su_k (show q + 5 ≠ q + 6 by omega), su_at]
    by_cases hkj : k = j
    · subst hkj
      rw [if_pos rfl]
      constructor
      · intro c; exact absurd c (by decide)
      · intro c; exact absurd (.inr (by simp)) c
    · rw [if_neg (fun c => hkj (cK_inj hk hj c)), h.2.2.2 k hk]
      simp [hkj]
  · intro p hp
    rw [su_k hp.2, su_k hp.1]
theorem c_spread_d (ok : OKm m) (hR : Cls m R) {next k : Nat} {col : Int32} {a2 : Int32} {K : Int32 → Int32 → Int32 → Sto → Option (Int32 × Sto)} (hcol : col = ndC m k) (n : Nat) : ∀ (d fu : Nat) (V : List Nat) (τ : Sto), d + n = gDirs (m 0) → n < fu → LX τ q1 (m 0) (m 1) → PXc q m τ → (q1 ≠ q + 5 ∧ q1 ≠ q + 6 ∧ q1 + 1 ≠ q + 5 ∧ q1 + 1 ≠ q + 6) → BI m q R s V τ → V[next]? = some k →
    ∃ V' τ' X, fX3_spread_L35 q q1 a2 K fu col (nI V.length) (nI next) (nI d) τ = K col (nI V'.length) (nI (next + 1)) τ' ∧ BI m q R s V' τ' ∧ V' = V ++ X ∧ (∀ d' j, d ≤ d' → d' < gDirs (m 0) → nd m j → ndC m j = ndC m k → stp m k j d' → j ∈ V') ∧ ∀ p, F56 q p → τ' p = τ p := by
  have hd8 := @dirs_le (m 0)
  induction n with
  | zero =>
    intro d fu V τ hd hf hl hp hq hB hk
    match fu, hf with
    | fu + 1, _ =>
      rw [fX3_spread_L35.eq_2, c_dirs hl, if_pos ((dI_le (by omega) (by omega)).2 (by omega)), nI_add1]
      exact ⟨V, τ, [], rfl, hB, (List.append_nil V).symm, fun d' j h1 h2 => absurd h2 (by omega), fun _ _ => rfl⟩
  | succ n ih =>
    intro d fu V τ hd hf hl hp hq hB hk
    match fu, hf with
    | fu + 1, hf =>
      have hlen := bi_len hB
      have hkV : k ∈ V := List.mem_of_getElem? hk
      have hnl : next < V.length := by
        rcases Nat.lt_or_ge next V.length with h | h
        · exact h
        · rw [List.getElem?_eq_none h] at hk; cases hk
      have hkn := hB.2.1 k hkV
      rw [fX3_spread_L35.eq_2, c_dirs hl, if_neg (by rw [dI_le (by omega) (by omega)]; omega), if_pos (kn225 (show next < 225 by omega)), nI_n (by omega), hB.2.2.1 next k hk, c_picNb hl ok.2.1 (show d < gDirs (m 0) by omega) hkn.1.2, Option.bind_some]
      simp only [fX3_spread_L79, nI_add1]
      cases hn2 : gNear (m 0) (m 1) (mx k + gSX (m 0) d) (my k + gSY (m 0) d) with
      | false =>
        rw [if_neg Bool.false_ne_true]
        have e1 : fX3_colourOf q (-1) τ = some (-1) := rfl
        have hc0 := mCol_rng ok (mx k) (my k)
        rw [e1, Option.bind_some, if_neg (by rw [hcol]; unfold ndC; grind)]
        obtain ⟨V', τ', X, g1, g2, g3, g4, g5⟩ := ih (d + 1) fu V τ (by omega) (by omega) hl hp hq hB hk
        refine ⟨V', τ', X, g1, g2, g3, fun d' j h1 h2 h3 h4 h5 => ?_, g5⟩
        by_cases hdd : d' = d
        · subst hdd
          have h6 := h3.2
          rw [h5.1, h5.2, hn2] at h6
          cases h6
        · exact g4 d' j (by omega) h2 h3 h4 h5
      | true =>
        have hS := near_S ok.2.1 hn2
        have ej1 := mx_mk hS
        have ej2 := my_mk hS
        have hj : nd m (mk (mx k + gSX (m 0) d) (my k + gSY (m 0) d)) := ⟨mk_lt hS, by rw [ej1, ej2]; exact hn2⟩
        have hst : stp m k (mk (mx k + gSX (m 0) d) (my k + gSY (m 0) d)) d := ⟨ej1, ej2⟩
        rw [if_pos rfl]
        rw [← ej1, ← ej2] at hn2
        have euniq : ∀ j, nd m j → stp m k j d → j = mk (mx k + gSX (m 0) d) (my k + gSY (m 0) d) := by
          intro j h3 h5
          rw [← h5.1, ← h5.2, mxy_mk h3.1]
        have eC : fX1_cellAt (mx k + gSX (m 0) d) (my k + gSY (m 0) d) = fX1_cellAt (mx (mk (mx k + gSX (m 0) d) (my k + gSY (m 0) d))) (my (mk (mx k + gSX (m 0) d) (my k + gSY (m 0) d))) := by rw [ej1, ej2]
        rw [eC]
        generalize mk (mx k + gSX (m 0) d) (my k + gSY (m 0) d) = j0 at *
        rw [px_c hp (nd_R hj), Option.bind_some, nd_pC hj]
        by_cases hcj : ndC m j0 = col
        · rw [if_pos hcj]
          have hadj : adj m k j0 := ⟨hj, by rw [hcj, hcol], d, by omega, hst⟩
          by_cases hv : R j0 ∨ j0 ∈ V
          · have hjV : j0 ∈ V := hv.resolve_left (cls_no hR hkn.1 hkn.2.2 hadj)
            rw [c_reach_old hB hj hv, Option.bind_some]
            obtain ⟨V', τ', X, g1, g2, g3, g4, g5⟩ := ih (d + 1) fu V τ (by omega) (by omega) hl hp hq hB hk
            refine ⟨V', τ', X, g1, g2, g3, fun d' j h1 h2 h3 h4 h5 => ?_, g5⟩
            by_cases hdd : d' = d
            · subst hdd
              rw [euniq j h3 h5, g3]
              exact List.mem_append_left _ hjV
            · exact g4 d' j (by omega) h2 h3 h4 h5
          · obtain ⟨τ1, e1, hB1, hf1⟩ := c_reach_new hB hj (rch_step hkn.2.1 hadj) hv
            rw [e1, Option.bind_some]
            have hl1 : LX τ1 q1 (m 0) (m 1) := by
              refine ⟨?_, fun c hc => ?_⟩
              · rw [hf1 q1 ⟨hq.1, hq.2.1⟩]; exact hl.1
              · rw [hf1 (q1 + 1) ⟨hq.2.2.1, hq.2.2.2⟩]; exact hl.2 c hc
            have hp1 : PXc q m τ1 := fun c hc => by rw [hf1 (q + 3) ⟨by omega, by omega⟩]; exact hp c hc
            obtain ⟨V', τ', X, g1, g2, g3, g4, g5⟩ := ih (d + 1) fu (V ++ [j0]) τ1 (by omega) (by omega) hl1 hp1 hq hB1 (by rw [List.getElem?_append_left hnl]; exact hk)
            refine ⟨V', τ', [j0] ++ X, g1, g2, by rw [g3, List.append_assoc], fun d' j h1 h2 h3 h4 h5 => ?_, fun p hp' => by rw [g5 p hp', hf1 p hp']⟩
            by_cases hdd : d' = d
            · subst hdd
              rw [euniq j h3 h5, g3]
              exact List.mem_append_left _ (List.mem_append_right _ (by simp))
            · exact g4 d' j (by omega) h2 h3 h4 h5
        · rw [if_neg hcj]
          obtain ⟨V', τ', X, g1, g2, g3, g4, g5⟩ := ih (d + 1) fu V τ (by omega) (by omega) hl hp hq hB hk
          refine ⟨V', τ', X, g1, g2, g3, fun d' j h1 h2 h3 h4 h5 => ?_, g5⟩
          by_cases hdd : d' = d
          · subst hdd
            rw [euniq j h3 h5] at h4
            exact absurd (by rw [h4, hcol]) hcj
          · exact g4 d' j (by omega) h2 h3 h4 h5
theorem c_spread_L (ok : OKm m) (hR : Cls m R) {col a2 : Int32} (hcol : col = ndC m s) (hs : nd m s) (hq : q1 ≠ q + 5 ∧ q1 ≠ q + 6 ∧ q1 + 1 ≠ q + 5 ∧ q1 + 1 ≠ q + 6) (n : Nat) : ∀ (next fu : Nat) (V : List Nat) (τ : Sto), next + n = 170 → n < fu → LX τ q1 (m 0) (m 1) → PXc q m τ → BI m q R s V τ → s ∈ V → next ≤ V.length → (∀ i k j, i < next → V[i]? = some k → adj m k j → j ∈ V) →
    ∃ V' τ', fX3_spread_L17 q q1 a2 fu col (nI V.length) (nI next) τ = some (nI V'.length, τ') ∧ BI m q R s V' τ' ∧ (∀ j, j ∈ V' ↔ Rch m s j) ∧ ∀ p, F56 q p → τ' p = τ p := by
  have hd8 := @dirs_le (m 0)
  have fin : ∀ (V : List Nat) (τ : Sto), BI m q R s V τ → s ∈ V → (∀ i k j, i < V.length → V[i]? = some k → adj m k j → j ∈ V) → ∀ j, j ∈ V ↔ Rch m s j := by
    intro V τ hB hsV hc j
    constructor
    · intro h; exact (hB.2.1 j h).2.1
    · intro h
      refine h (fun j => j ∈ V) hsV (fun a b ha hb => ?_)
      obtain ⟨i, hi, e⟩ := List.mem_iff_getElem.1 ha
      exact hc i a b hi (by rw [List.getElem?_eq_getElem hi, e]) hb
  induction n with
  | zero =>
    intro next fu V τ hn hf hl hp hB hsV hnl hcl
    have := bi_len hB
    omega
  | succ n ih =>
    intro next fu V τ hn hf hl hp hB hsV hnl hcl
    match fu, hf with
    | fu + 1, hf =>
      have hlen := bi_len hB
      rw [fX3_spread_L17.eq_2]
      by_cases he : V.length ≤ next
      · rw [if_pos ((dI_le (by omega) (by omega)).2 he)]
        have : next = V.length := by omega
        subst this
        exact ⟨V, τ, rfl, hB, fin V τ hB hsV hcl, fun _ _ => rfl⟩
      · rw [if_neg (by rw [dI_le (by omega) (by omega)]; exact he), if_neg (le225 (show next < 225 by omega))]
        obtain ⟨k, hk⟩ : ∃ k, V[next]? = some k := ⟨V[next]'(by omega), List.getElem?_eq_getElem (by omega)⟩
        have hkV : k ∈ V := List.mem_of_getElem? hk
        have hck : col = ndC m k := by rw [hcol, rch_col (hB.2.1 k hkV).2.1]
        obtain ⟨V', τ', X, g1, g2, g3, g4, g5⟩ := c_spread_d (a2 := a2) (K := fX3_spread_L17 q q1 a2 fu) ok hR hck (gDirs (m 0)) 0 kFU V τ (by omega) (by unfold kFU; omega) hl hp hq hB hk
        rw [show (0 : Int32) = nI 0 from rfl, g1]
        have hl1 : LX τ' q1 (m 0) (m 1) := by
          refine ⟨?_, fun c hc => ?_⟩
          · rw [g5 q1 ⟨hq.1, hq.2.1⟩]; exact hl.1
          · rw [g5 (q1 + 1) ⟨hq.2.2.1, hq.2.2.2⟩]; exact hl.2 c hc
        have hp1 : PXc q m τ' := fun c hc => by rw [g5 (q + 3) ⟨by omega, by omega⟩]; exact hp c hc
        have hVV : V.length ≤ V'.length := by rw [g3, List.length_append]; omega
        obtain ⟨V2, τ2, f1, f2, f3, f4⟩ := ih (next + 1) fu V' τ' (by omega) (by omega) hl1 hp1 g2 (by rw [g3]; exact List.mem_append_left _ hsV) (by omega) (fun i k' j hi hk' hadj => by
          by_cases hin : i = next
          · subst hin
            rw [g3, List.getElem?_append_left (by omega), hk] at hk'
            cases hk'
            obtain ⟨h1, h2, d, h3, h4⟩ := hadj
            exact g4 d j (by omega) h3 h1 h2 h4
          · rw [g3, List.getElem?_append_left (by omega)] at hk'
            rw [g3]
            exact List.mem_append_left _ (hcl i k' j (by omega) hk' hadj))
        exact ⟨V2, τ2, f1, f2, f3, fun p hp' => by rw [f4 p hp', g5 p hp']⟩
/-- marks of a picture's cells -/
def RM (m : Vc) (q : Nat) (R : Nat → Prop) (τ : Sto) : Prop := ∀ k, nd m k → (τ (q + 5) (cK k) = 0 ↔ ¬ R k)
theorem c_spread (ok : OKm m) (hR : Cls m R) (hs : nd m s) (hsR : ¬ R s) (hq : q1 ≠ q + 5 ∧ q1 ≠ q + 6 ∧ q1 + 1 ≠ q + 5 ∧ q1 + 1 ≠ q + 6) (hl : LX σ q1 (m 0) (m 1)) (hp : PXc q m σ) (hM : RM m q R σ) :
    ∃ (V : List Nat) (τ : Sto), fX3_spread q q1 (fX1_cellAt (mx s) (my s)) σ = some (nI V.length, τ) ∧ V.Nodup ∧ V.length ≤ 169 ∧ (∀ j, j ∈ V ↔ Rch m s j) ∧ RM m q (comp m R s) τ ∧ ∀ p, F56 q p → τ p = σ p := by
  have hB0 : BI m q R s [] σ := ⟨List.nodup_nil, fun k hk => absurd hk (by simp), fun i k hi => by simp at hi, fun k hk => by rw [hM k hk]; simp⟩
  obtain ⟨τ1, e1, hB1, hf1⟩ := c_reach_new hB0 hs rch_refl (fun c => by rcases c with c | c; exact hsR c; simp at c)
  unfold fX3_spread
  rw [px_c hp (nd_R hs), Option.bind_some, show (0 : Int32) = nI ([] : List Nat).length from rfl, e1, Option.bind_some]
  have hl1 : LX τ1 q1 (m 0) (m 1) := by
    refine ⟨?_, fun c hc => ?_⟩
    · rw [hf1 q1 ⟨hq.1, hq.2.1⟩]; exact hl.1
    · rw [hf1 (q1 + 1) ⟨hq.2.2.1, hq.2.2.2⟩]; exact hl.2 c hc
  have hp1 : PXc q m τ1 := fun c hc => by rw [hf1 (q + 3) ⟨by omega, by omega⟩]; exact hp c hc
  obtain ⟨V, τ, f1, f2, f3, f4⟩ := c_spread_L (a2 := fX1_cellAt (mx s) (my s)) ok hR (nd_pC hs) hs hq 170 0 kFU [s] τ1 rfl (by unfold kFU; omega) hl1 hp1 hB1 (by simp) (by omega) (fun i k j hi => absurd hi (by omega))
  refine ⟨V, τ, f1, f2.1, bi_len f2, f3, fun k hk => ?_, fun p hp' => by rw [f4 p hp', hf1 p hp']⟩
  rw [f2.2.2.2 k hk, f3]
  exact Iff.rfl
end REG1
