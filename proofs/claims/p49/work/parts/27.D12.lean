noncomputable def nReg (m : Vc) (s : Nat) : Nat := ((List.range 169).filter (fun k => dB (Rch m s k))).length
theorem dB_iff {p : Prop} : dB p = true ↔ p := by
  constructor
  · intro h
    by_cases hp : p
    · exact hp
    · rw [dB_f hp] at h; cases h
  · exact dB_t
theorem nReg_of {m : Vc} {s : Nat} (hs : nd m s) {V : List Nat} (hn : V.Nodup) (h : ∀ j, j ∈ V ↔ Rch m s j) : V.length = nReg m s := by
  apply Nat.le_antisymm
  · refine nodup_le hn (fun k hk => List.mem_filter.2 ⟨List.mem_range.2 (rch_nd hs ((h k).1 hk)).1, dB_t ((h k).1 hk)⟩)
  · refine nodup_le ((List.nodup_range).filter _) (fun k hk => (h k).2 (dB_iff.1 (List.mem_filter.1 hk).2))
noncomputable def cntR (m : Vc) (bel : Nat → Prop) : List Nat → (Nat → Prop) → Nat
  | [], _ => 0
  | k :: t, R => if dB (bel k ∧ ¬ R k) = true then 1 + cntR m bel t (comp m R k) else cntR m bel t R
section CNT
variable {m : Vc} {bel : Nat → Prop} {R : Nat → Prop}
theorem cnt_yes {k : Nat} {t : List Nat} (h : bel k ∧ ¬ R k) : cntR m bel (k :: t) R = 1 + cntR m bel t (comp m R k) := by
  rw [cntR.eq_2, dB_t h, if_pos rfl]
theorem cnt_no {k : Nat} {t : List Nat} (h : ¬ (bel k ∧ ¬ R k)) : cntR m bel (k :: t) R = cntR m bel t R := by
  rw [cntR.eq_2, dB_f h, if_neg Bool.false_ne_true]
theorem comp_same {a b : Nat} (ha : nd m a) (h : Rch m a b) : comp m R a = comp m R b := by
  funext j
  apply propext
  unfold comp
  constructor
  · rintro (h1 | h1)
    · exact .inl h1
    · exact .inr (rch_trans (rch_sym ha h) h1)
  · rintro (h1 | h1)
    · exact .inl h1
    · exact .inr (rch_trans h h1)
theorem comp_swap {a b : Nat} : comp m (comp m R a) b = comp m (comp m R b) a := by
  funext j
  apply propext
  unfold comp
  constructor
  · rintro ((h1 | h1) | h1)
    · exact .inl (.inl h1)
    · exact .inr h1
    · exact .inl (.inr h1)
  · rintro ((h1 | h1) | h1)
    · exact .inl (.inl h1)
    · exact .inr h1
    · exact .inl (.inr h1)
theorem cnt_swap (hb : ∀ k, bel k → nd m k) (a b : Nat) (t : List Nat) (R : Nat → Prop) : cntR m bel (a :: b :: t) R = cntR m bel (b :: a :: t) R := by
  by_cases ha : bel a ∧ ¬ R a
  · by_cases hbb : bel b ∧ ¬ R b
    · by_cases hr : Rch m a b
      · have hr' := rch_sym (hb a ha.1) hr
        rw [cnt_yes ha, cnt_no (fun c => c.2 (.inr hr)), cnt_yes hbb, cnt_no (fun c => c.2 (.inr hr')), comp_same (hb a ha.1) hr]
      · have hr' : ¬ Rch m b a := fun c => hr (rch_sym (hb b hbb.1) c)
        rw [cnt_yes ha, cnt_yes ⟨hbb.1, fun c => c.elim hbb.2 hr⟩, cnt_yes hbb, cnt_yes ⟨ha.1, fun c => c.elim ha.2 hr'⟩, comp_swap]
    · rw [cnt_yes ha, cnt_no (t := a :: t) hbb, cnt_yes ha, cnt_no]
      intro c
      exact hbb ⟨c.1, fun d => c.2 (.inl d)⟩
  · by_cases hbb : bel b ∧ ¬ R b
    · rw [cnt_no ha, cnt_yes hbb, cnt_yes hbb, cnt_no]
      intro c
      exact ha ⟨c.1, fun d => c.2 (.inl d)⟩
    · rw [cnt_no ha, cnt_no hbb, cnt_no hbb, cnt_no ha]
theorem cnt_perm (hb : ∀ k, bel k → nd m k) {l l' : List Nat} (h : l.Perm l') : ∀ R, cntR m bel l R = cntR m bel l' R := by
  induction h with
  | nil => exact fun _ => rfl
  | @cons a l1 l2 _ ih =>
    intro R
    by_cases ha : bel a ∧ ¬ R a
    · rw [cnt_yes ha, cnt_yes ha, ih]
    · rw [cnt_no ha, cnt_no ha, ih]
  | swap a b l => exact fun R => cnt_swap hb _ _ _ R
  | trans _ _ h1 h2 => exact fun R => by rw [h1, h2]
end CNT
def belQ (m : Vc) (col : Int32) (k : Nat) : Prop := nd m k ∧ ndC m k ≠ 0 ∧ (col = 0 ∨ ndC m k = col)
noncomputable def nRegs (m : Vc) (col : Int32) : Nat := cntR m (belQ m col) (List.range 169) (fun _ => False)
def cList (l : List Nat) : List Nat := (l.filter (fun c => bS (cx c) (cy c))).map (fun c => mk (cx c) (cy c))
theorem cList_cons {i : Nat} {l : List Nat} : cList (i :: l) = if bS (cx i) (cy i) = true then mk (cx i) (cy i) :: cList l else cList l := by
  unfold cList
  cases h : bS (cx i) (cy i) with
  | true => rw [List.filter_cons_of_pos (by exact h), List.map_cons, if_pos rfl]
  | false => rw [List.filter_cons_of_neg (by simp [h]), if_neg Bool.false_ne_true]
theorem cls_none {m : Vc} : Cls m (fun _ => False) := ⟨fun _ _ h => h.elim, fun _ h => h.elim⟩
section REG2
variable {σ : Sto} {q q1 : Nat} {m : Vc}
theorem c_forget : ∃ τ, fX3_forgetReached q σ = some τ ∧ (∀ c, c < 225 → τ (q + 5) c = 0) ∧ ∀ p, p ≠ q + 5 → τ p = σ p := by
  have hL : ∀ n i fu τ, i + n = 225 → n < fu → (∀ c, c < i → τ (q + 5) c = 0) → ∃ ρ, fX3_forgetReached_L2 q fu (nI i) τ = some ρ ∧ (∀ c, c < 225 → ρ (q + 5) c = 0) ∧ ∀ p, p ≠ q + 5 → ρ p = τ p := by
    intro n
    induction n with
    | zero =>
      intro i fu τ hi hf hx
      match fu, hf with
      | fu + 1, _ =>
        have : i = 225 := by omega
        subst this
        rw [fX3_forgetReached_L2.eq_2, if_pos (by decide)]
        exact ⟨τ, rfl, hx, fun _ _ => rfl⟩
    | succ n ih =>
      intro i fu τ hi hf hx
      match fu, hf with
      | fu + 1, hf =>
        rw [fX3_forgetReached_L2.eq_2, if_neg (le225 (show i < 225 by omega)), if_pos (kn225 (show i < 225 by omega)), klet_eq, nI_n (by omega), nI_add1]
        obtain ⟨ρ, e, h1, h2⟩ := ih (i + 1) fu (su τ (q + 5) i 0) (by omega) (by omega) (fun c hc => by
          rw [su_at]
          split
          · rfl
          · exact hx c (by omega))
        exact ⟨ρ, e, h1, fun p hp => by rw [h2 p hp, su_k hp]⟩
  exact hL 225 0 kFU σ (by omega) (by unfold kFU; omega) (fun c hc => absurd hc (by omega))
def QS (q q1 : Nat) : Prop := q1 ≠ q + 5 ∧ q1 ≠ q + 6 ∧ q1 + 1 ≠ q + 5 ∧ q1 + 1 ≠ q + 6
theorem lx_56 {τ : Sto} (hq : QS q q1) (h : LX σ q1 (m 0) (m 1)) (hf : ∀ p, F56 q p → τ p = σ p) : LX τ q1 (m 0) (m 1) := by
  refine ⟨?_, fun c hc => ?_⟩
  · rw [hf q1 ⟨hq.1, hq.2.1⟩]; exact h.1
  · rw [hf (q1 + 1) ⟨hq.2.2.1, hq.2.2.2⟩]; exact h.2 c hc
theorem px_56 {τ : Sto} (h : PXc q m σ) (hf : ∀ p, F56 q p → τ p = σ p) : PXc q m τ := fun c hc => by rw [hf (q + 3) ⟨by omega, by omega⟩]; exact h c hc
theorem cK_mk {c : Nat} (hc : c < 225) (hS : inS (cx c) (cy c)) : cK (mk (cx c) (cy c)) = c := by
  unfold cK
  rw [mx_mk hS, my_mk hS, cxy_ci hc]
theorem c_regions_L (ok : OKm m) {col : Int32} (hcol : 0 ≤ col) (hq : QS q q1) (n : Nat) : ∀ (i fu v : Nat) (R : Nat → Prop) (τ : Sto), i + n = 225 → n < fu → LX τ q1 (m 0) (m 1) → PXc q m τ → Cls m R → RM m q R τ →
    ∃ τ', fX3_countRegions_L9 q q1 col fu (nI v) (nI i) τ = some (nI (v + cntR m (belQ m col) (cList (List.range' i n)) R), τ') ∧ ∀ p, F56 q p → τ' p = τ p := by
  induction n with
  | zero =>
    intro i fu v R τ hi hf hl hp hR hM
    match fu, hf with
    | fu + 1, _ =>
      have : i = 225 := by omega
      subst this
      rw [fX3_countRegions_L9.eq_2, if_pos (by decide)]
      exact ⟨τ, rfl, fun _ _ => rfl⟩
  | succ n ih =>
    intro i fu v R τ hi hf hl hp hR hM
    match fu, hf with
    | fu + 1, hf =>
      have hi2 : i < 225 := by omega
      rw [fX3_countRegions_L9.eq_2, if_neg (le225 hi2), if_pos (kn225 hi2), if_pos (kn225 hi2), nI_n (by omega), hp i hi2]
      simp only [fX3_countRegions_L83, fX3_countRegions_L55, nI_add1, kn225 hi2, if_true, nI_n (show i < 2147483648 by omega), show ¬ (1 : Int32) = 0 from by decide, if_false]
      rw [List.range'_succ, cList_cons]
      have hno : ∀ {β : Type} {x y : β}, pC m (cx i) (cy i) = -1 → (if col = 0 then (if pC m (cx i) (cy i) ≤ 0 then x else y) else (if pC m (cx i) (cy i) = col then y else x)) = x := by
        intro β x y h
        rw [h]
        by_cases hc : col = 0
        · rw [if_pos hc, if_pos (by decide)]
        · rw [if_neg hc, if_neg (by intro c; rw [← c] at hcol; exact absurd hcol (by decide))]
      cases hS : bS (cx i) (cy i) with
      | false =>
        rw [if_neg Bool.false_ne_true]
        have hpc : pC m (cx i) (cy i) = -1 := by unfold pC; rw [near_nS ok (fun c => by rw [bS_iff.2 c] at hS; cases hS)]; simp
        rw [hno hpc]
        exact ih (i + 1) fu v R τ (by omega) (by omega) hl hp hR hM
      | true =>
        rw [if_pos rfl]
        have hS := bS_iff.1 hS
        have ek := cK_mk hi2 hS
        have ex := mx_mk hS
        have ey := my_mk hS
        cases hn : gNear (m 0) (m 1) (cx i) (cy i) with
        | false =>
          have hpc : pC m (cx i) (cy i) = -1 := by unfold pC; rw [hn]; simp
          rw [hno hpc, cnt_no (fun c => by have := c.1.1.2; rw [ex, ey, hn] at this; cases this)]
          exact ih (i + 1) fu v R τ (by omega) (by omega) hl hp hR hM
        | true =>
          have hnd : nd m (mk (cx i) (cy i)) := ⟨mk_lt hS, by rw [ex, ey]; exact hn⟩
          have hpc : pC m (cx i) (cy i) = ndC m (mk (cx i) (cy i)) := by unfold pC ndC; rw [hn, if_pos rfl, ex, ey]
          have hrg := mCol_rng ok (mx (mk (cx i) (cy i))) (my (mk (cx i) (cy i)))
          have hcell : nI i = fX1_cellAt (mx (mk (cx i) (cy i))) (my (mk (cx i) (cy i))) := by rw [ex, ey, cxy_at hi2]
          have hMi := hM _ hnd
          rw [ek] at hMi
          rw [hpc]
          generalize hk0 : mk (cx i) (cy i) = k0 at *
          have hsel : ∀ {β : Type} {x y : β}, (if col = 0 then (if ndC m k0 ≤ 0 then x else y) else (if ndC m k0 = col then y else x)) = if dB (belQ m col k0) = true then y else x := by
            intro β x y
            by_cases hc : col = 0
            · rw [if_pos hc]
              by_cases h0 : ndC m k0 = 0
              · rw [if_pos (by rw [h0]; decide), dB_f (fun c => c.2.1 h0), if_neg Bool.false_ne_true]
              · have h1 := hrg.1
                rw [if_neg (by unfold ndC at h0 ⊢; grind), dB_t ⟨hnd, h0, .inl hc⟩, if_pos rfl]
            · rw [if_neg hc]
              by_cases h0 : ndC m k0 = col
              · rw [if_pos h0, dB_t ⟨hnd, by rw [h0]; exact hc, .inr h0⟩, if_pos rfl]
              · rw [if_neg h0, dB_f (fun c => c.2.2.elim hc h0), if_neg Bool.false_ne_true]
          rw [hsel]
          by_cases hbel : belQ m col k0
          · rw [dB_t hbel, if_pos rfl]
            by_cases hRk : R k0
            · rw [if_neg (fun c => hMi.1 c hRk), cnt_no (fun c => c.2 hRk)]
              exact ih (i + 1) fu v R τ (by omega) (by omega) hl hp hR hM
            · rw [if_pos (hMi.2 hRk), cnt_yes ⟨hbel, hRk⟩]
              obtain ⟨V, τ1, e1, _, _, _, hM1, hf1⟩ := c_spread ok hR hnd hRk hq hl hp hM
              rw [hcell, e1, Option.bind_some]
              obtain ⟨τ2, e2, hf2⟩ := ih (i + 1) fu (v + 1) (comp m R k0) τ1 (by omega) (by omega) (lx_56 hq hl hf1) (px_56 hp hf1) (cls_comp hR hnd) hM1
              exact ⟨τ2, by rw [e2]; congr 3; omega, fun p hp' => by rw [hf2 p hp', hf1 p hp']⟩
          · rw [dB_f hbel, if_neg Bool.false_ne_true, cnt_no (fun c => hbel c.1)]
            exact ih (i + 1) fu v R τ (by omega) (by omega) hl hp hR hM
theorem c_countRegions (ok : OKm m) {col : Int32} (hcol : 0 ≤ col) (hq : QS q q1) (hl : LX σ q1 (m 0) (m 1)) (hp : PXc q m σ) : ∃ τ, fX3_countRegions q q1 col σ = some (nI (nRegs m col), τ) ∧ ∀ p, F56 q p → τ p = σ p := by
  obtain ⟨τ, e, h1, h2⟩ := @c_forget σ q
  unfold fX3_countRegions
  rw [e, Option.bind_some]
  have hf : ∀ p, F56 q p → τ p = σ p := fun p hp' => h2 p hp'.1
  obtain ⟨τ', e', hf'⟩ := c_regions_L ok hcol hq 225 0 kFU 0 (fun _ => False) τ rfl (by unfold kFU; omega) (lx_56 hq hl hf) (px_56 hp hf) cls_none (fun k hk => ⟨fun _ c => c, fun _ => h1 _ (ci_lt (nd_R hk))⟩)
  refine ⟨τ', ?_, fun p hp' => by rw [hf' p hp', hf p hp']⟩
  refine e'.trans ?_
  rw [Nat.zero_add, ← List.range_eq_range']
  unfold nRegs
  rw [cnt_perm (l := cList (List.range 225)) (l' := List.range 169) (fun k h => h.1) grid_perm]
theorem c_sizeOfRegion (ok : OKm m) (hq : QS q q1) (hl : LX σ q1 (m 0) (m 1)) (hp : PXc q m σ) {s : Nat} (hs : nd m s) : ∃ τ, fX3_sizeOfRegion q q1 (fX1_cellAt (mx s) (my s)) σ = some (if ndC m s = 0 then 0 else nI (nReg m s), τ) ∧ ∀ p, F56 q p → τ p = σ p := by
  unfold fX3_sizeOfRegion
  rw [px_c hp (nd_R hs), Option.bind_some, nd_pC hs]
  have hr := mCol_rng ok (mx s) (my s)
  by_cases h0 : ndC m s = 0
  · rw [if_neg (by rw [h0]; decide), if_pos h0]
    exact ⟨σ, rfl, fun _ _ => rfl⟩
  · have h1 := hr.1
    rw [if_pos (by unfold ndC at h0 ⊢; grind), if_neg h0]
    obtain ⟨τ, e, h1, h2⟩ := @c_forget σ q
    have hf : ∀ p, F56 q p → τ p = σ p := fun p hp' => h2 p hp'.1
    obtain ⟨V, τ1, e1, g1, g2, g3, g4, g5⟩ := c_spread (R := fun _ => False) ok cls_none hs (fun c => c) hq (lx_56 hq hl hf) (px_56 hp hf) (fun k hk => ⟨fun _ c => c, fun _ => h1 _ (ci_lt (nd_R hk))⟩)
    rw [e, Option.bind_some, e1, Option.bind_some, nReg_of hs g1 g3]
    exact ⟨τ1, rfl, fun p hp' => by rw [g5 p hp', hf p hp']⟩
end REG2
