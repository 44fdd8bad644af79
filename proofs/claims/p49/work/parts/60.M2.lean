/-! regions colour by colour; the commonest colour -/
section M2
variable {m : Vc}
/-- only what belongs matters -/
theorem cnt_rest {bel : Nat → Prop} (hb : ∀ k, bel k → nd m k) (l : List Nat) : ∀ (R R' : Nat → Prop), (∀ k, bel k → (R k ↔ R' k)) → cntR m bel l R = cntR m bel l R' := by
  induction l with
  | nil => intro R R' _; rfl
  | cons k t ih =>
    intro R R' h
    by_cases hk : bel k ∧ ¬ R k
    · have hk' : bel k ∧ ¬ R' k := ⟨hk.1, fun c => hk.2 ((h k hk.1).2 c)⟩
      rw [cnt_yes hk, cnt_yes hk']
      congr 1
      refine ih _ _ (fun j hj => ?_)
      show (R j ∨ _) ↔ (R' j ∨ _)
      rw [h j hj]
    · have hk' : ¬ (bel k ∧ ¬ R' k) := fun c => hk ⟨c.1, fun d => c.2 ((h k c.1).1 d)⟩
      rw [cnt_no hk, cnt_no hk']
      exact ih _ _ h
theorem bel_nd (c : Int32) : ∀ k, belQ m c k → nd m k := fun _ h => h.1
/-- the regions of the colours 1 to n together -/
noncomputable def regsUp (m : Vc) (l : List Nat) (R : Nat → Prop) : Nat → Nat
  | 0 => 0
  | n + 1 => regsUp m l R n + cntR m (belQ m (nI (n + 1))) l R
theorem regsUp_cons {k : Nat} {t : List Nat} {R : Nat → Prop} (hk : nd m k) (hR : ¬ R k) {c : Nat} (hc : ndC m k = nI c) (c1 : 1 ≤ c) (c9 : c ≤ 1000) (n : Nat) (hn : n ≤ 1000) : regsUp m (k :: t) R n = regsUp m t (comp m R k) n + (if c ≤ n then 1 else 0) := by
  induction n with
  | zero => rw [if_neg (by omega)]; rfl
  | succ n ih =>
    have ih := ih (by omega)
    show regsUp m (k :: t) R n + cntR m (belQ m (nI (n + 1))) (k :: t) R = regsUp m t (comp m R k) n + cntR m (belQ m (nI (n + 1))) t (comp m R k) + _
    rw [ih]
    have hz : ¬ nI (n + 1) = 0 := fun e => by have := (nI_inj (b := 0) (by omega) (by omega)).1 e; omega
    by_cases e : c = n + 1
    · subst e
      have hb : belQ m (nI (n + 1)) k ∧ ¬ R k := ⟨⟨hk, by rw [hc]; exact hz, .inr hc⟩, hR⟩
      rw [cnt_yes hb, if_neg (by omega), if_pos (by omega)]
      omega
    · have hne : ¬ ndC m k = nI (n + 1) := fun h => e (by
        rw [hc] at h
        exact (nI_inj (by omega) (by omega)).1 h)
      have hb : ¬ (belQ m (nI (n + 1)) k ∧ ¬ R k) := fun h => by
        rcases h.1.2.2 with h2 | h2
        · exact hz h2
        · exact hne h2
      rw [cnt_no hb]
      have hr : cntR m (belQ m (nI (n + 1))) t R = cntR m (belQ m (nI (n + 1))) t (comp m R k) := by
        refine cnt_rest (bel_nd _) t _ _ (fun j hj => ⟨fun h => .inl h, fun h => ?_⟩)
        rcases h with h | h
        · exact h
        · exfalso
          have h1 := rch_col h
          rcases hj.2.2 with h2 | h2
          · exact hz h2
          · exact hne (by rw [← h1, h2])
      rw [hr]
      by_cases hle : c ≤ n
      · rw [if_pos hle, if_pos (by omega)]; omega
      · rw [if_neg hle, if_neg (by omega)]; omega
theorem regsUp_skip {k : Nat} {t : List Nat} {R : Nat → Prop} (h : ¬ (belQ m 0 k ∧ ¬ R k)) (n : Nat) : regsUp m (k :: t) R n = regsUp m t R n := by
  induction n with
  | zero => rfl
  | succ n ih =>
    show regsUp m (k :: t) R n + cntR m (belQ m (nI (n + 1))) (k :: t) R = _
    rw [ih, cnt_no (fun c => h ⟨⟨c.1.1, c.1.2.1, .inl rfl⟩, c.2⟩)]
    rfl
theorem regs_split (ok : OKm m) (l : List Nat) : ∀ R, cntR m (belQ m 0) l R = regsUp m l R 9 := by
  induction l with
  | nil => intro R; rfl
  | cons k t ih =>
    intro R
    by_cases hk : belQ m 0 k ∧ ¬ R k
    · obtain ⟨⟨h1, h2, -⟩, h4⟩ := hk
      have hr := mCol_rng ok (mx k) (my k)
      obtain ⟨c, c9, hc⟩ := isIn_lo (a := ndC m k) (hi := 9) (by decide) (isIn_iff.2 hr)
      have c1 : 1 ≤ c := by
        rcases Nat.eq_zero_or_pos c with h | h
        · subst h; exact absurd hc h2
        · exact h
      rw [cnt_yes ⟨⟨h1, h2, .inl rfl⟩, h4⟩, regsUp_cons h1 h4 hc c1 (by omega) 9 (by omega), if_pos c9, ih]
      omega
    · rw [cnt_no hk, regsUp_skip hk]
      exact ih R
theorem regs_all (ok : OKm m) : nRegs m 0 = regsUp m (List.range 169) (fun _ => False) 9 := regs_split ok _ _
theorem regsUp_s (n : Nat) : regsUp m (List.range 169) (fun _ => False) (n + 1) = regsUp m (List.range 169) (fun _ => False) n + nRegs m (nI (n + 1)) := rfl
theorem cnt_zero {bel : Nat → Prop} (l : List Nat) : ∀ R, cntR m bel l R = 0 → ∀ k, k ∈ l → bel k → R k := by
  induction l with
  | nil => intro R _ k hk; cases hk
  | cons a t ih =>
    intro R h k hk hb
    by_cases ha : bel a ∧ ¬ R a
    · rw [cnt_yes ha] at h; omega
    · rw [cnt_no ha] at h
      rcases List.mem_cons.mp hk with rfl | hk
      · exact Classical.byContradiction fun c => ha ⟨hb, c⟩
      · exact ih R h k hk hb
theorem cnt_none {bel : Nat → Prop} (l : List Nat) (h : ∀ k, k ∈ l → ¬ bel k) : ∀ R, cntR m bel l R = 0 := by
  induction l with
  | nil => intro R; rfl
  | cons a t ih =>
    intro R
    rw [cnt_no (fun c => h a List.mem_cons_self c.1)]
    exact ih (fun k hk => h k (List.mem_cons_of_mem _ hk)) R
theorem cnt_len {bel : Nat → Prop} (l : List Nat) : ∀ R, cntR m bel l R ≤ l.length := by
  induction l with
  | nil => intro R; exact Nat.le_refl 0
  | cons a t ih =>
    intro R
    by_cases ha : bel a ∧ ¬ R a
    · rw [cnt_yes ha, List.length_cons]; have := ih (comp m R a); omega
    · rw [cnt_no ha, List.length_cons]; have := ih R; omega
theorem regs_le (c : Int32) : nRegs m c ≤ 169 := by have := @cnt_len m (belQ m c) (List.range 169) (fun _ => False); rw [List.length_range] at this; exact this
/-- a coloured cell there is, if and only if a colour has cells -/
theorem regs_0 (ok : OKm m) : nRegs m 0 = 0 ↔ ∀ k, k < 169 → nd m k → ndC m k = 0 := by
  constructor
  · intro h k hk hn
    exact Classical.byContradiction fun c => cnt_zero _ _ h k (List.mem_range.mpr hk) ⟨hn, c, .inl rfl⟩
  · intro h
    exact cnt_none _ (fun k hk hb => hb.2.1 (h k (List.mem_range.mp hk) hb.1)) _
theorem col_0 (ok : OKm m) {c : Nat} (hc : c < 10) : nCol m (nI c) = 0 ↔ ∀ k, k < 169 → nd m k → ¬ ndC m k = nI c := by
  constructor
  · intro h k hk hn he
    obtain ⟨j, j1, j2, e⟩ := sm_pos (b := fun k => gNear (m 0) (m 1) (mx k) (my k) && decide (mCol m (mx k) (my k) = nI c)) (n := 169) (by decide) hk (by rw [hn.2, decide_eq_true (show mCol m (mx k) (my k) = nI c from he)]; rfl)
    have h' : nCol m (nI c) = nI j := e
    rw [h] at h'
    have := (nI_inj (a := 0) (by omega) (by omega)).1 h'
    omega
  · intro h
    unfold nCol
    refine sm_zero fun k hk => ?_
    cases hn : gNear (m 0) (m 1) (mx k) (my k) with
    | false => rfl
    | true => rw [decide_eq_false (show ¬ mCol m (mx k) (my k) = nI c from h k hk ⟨hk, hn⟩)]; rfl
theorem ahead_0 {c : Int32} (h : nAhead m c = 0) : ∀ i, i < 9 → aheadB m c (nI (i + 1)) = false := by
  intro i hi
  cases hb : aheadB m c (nI (i + 1)) with
  | false => rfl
  | true =>
    obtain ⟨j, j1, j2, e⟩ := sm_pos (b := fun i => aheadB m c (nI (i + 1))) (n := 9) (by decide) hi hb
    have h' : nAhead m c = nI j := e
    rw [h] at h'
    have := (nI_inj (a := 0) (by omega) (by omega)).1 h'
    omega
theorem com_cases (n : Nat) : ∀ c, (gCom m 0 n c = -1 ∧ ∀ i, c ≤ i → i < c + n → ¬ (0 < nCol m (nI i) ∧ nAhead m (nI i) = 0)) ∨ ∃ i, c ≤ i ∧ i < c + n ∧ gCom m 0 n c = nI i ∧ 0 < nCol m (nI i) ∧ nAhead m (nI i) = 0 := by
  induction n with
  | zero => intro c; exact .inl ⟨rfl, fun i h1 h2 => by omega⟩
  | succ n ih =>
    intro c
    rw [gCom.eq_2]
    by_cases h : 0 < nCol m (nI c) ∧ nAhead m (nI c) = 0
    · rw [if_pos h]
      exact .inr ⟨c, by omega, by omega, rfl, h.1, h.2⟩
    · rw [if_neg h]
      rcases ih (c + 1) with ⟨h1, h2⟩ | ⟨i, h1, h2, h3⟩
      · refine .inl ⟨h1, fun i h3 h4 => ?_⟩
        by_cases e : i = c
        · subst e; exact h
        · exact h2 i (by omega) (by omega)
      · exact .inr ⟨i, by omega, by omega, h3⟩
/-- of finitely many numbers one is the greatest, the first of several -/
theorem best_of (f : Nat → Nat) (n : Nat) (hn : 0 < n) : ∃ i, i < n ∧ ∀ j, j < n → f j ≤ f i ∧ (f j = f i → i ≤ j) := by
  induction n with
  | zero => omega
  | succ n ih =>
    rcases Nat.eq_zero_or_pos n with h0 | h0
    · subst h0
      exact ⟨0, by omega, fun j hj => by rw [show j = 0 by omega]; exact ⟨Nat.le_refl _, fun _ => Nat.le_refl _⟩⟩
    · obtain ⟨i, h1, h2⟩ := ih h0
      by_cases h : f i < f n
      · refine ⟨n, by omega, fun j hj => ?_⟩
        by_cases e : j = n
        · subst e; exact ⟨Nat.le_refl _, fun _ => Nat.le_refl _⟩
        · have := (h2 j (by omega)).1
          exact ⟨by omega, fun e => by omega⟩
      · refine ⟨i, by omega, fun j hj => ?_⟩
        by_cases e : j = n
        · subst e; exact ⟨by omega, fun _ => by omega⟩
        · exact h2 j (by omega)
theorem sm_0 {b : Nat → Bool} {n : Nat} (h : ∀ i, i < n → b i = false) : sm (fun i => kb (b i)) n = 0 := sm_zero fun i hi => by rw [h i hi]; rfl
/-- the law's questions about the commonest colour -/
theorem com_ok (ok : OKm m) : (∀ i, 1 ≤ i → i < 10 → 0 < gCom m 0 9 1 → nCol m (nI i) ≤ nCol m (gCom m 0 9 1)) ∧ (gCom m 0 9 1 = -1 ↔ nRegs m 0 = 0) ∧ (gCom m 0 9 1 = -1 ∨ ∃ c, 1 ≤ c ∧ c ≤ 9 ∧ gCom m 0 9 1 = nI c) := by
  have hg : ∀ c, ∃ n, n ≤ 169 ∧ nCol m (nI c) = nI n := fun c => nCol_rng m (nI c)
  have hexist : (∃ c, 1 ≤ c ∧ c < 10 ∧ ¬ nCol m (nI c) = 0) → ∃ c, 1 ≤ c ∧ c < 10 ∧ 0 < nCol m (nI c) ∧ nAhead m (nI c) = 0 := by
    rintro ⟨c0, a1, a2, a3⟩
    let f : Nat → Nat := fun i => (nCol m (nI (i + 1))).toNatClampNeg
    have hf : ∀ i, nCol m (nI (i + 1)) = nI (f i) ∧ f i ≤ 169 := fun i => by
      obtain ⟨n, h1, h2⟩ := hg (i + 1)
      have : f i = n := by show (nCol m (nI (i + 1))).toNatClampNeg = n; rw [h2, nI_n (by omega)]
      rw [this]
      exact ⟨h2, h1⟩
    obtain ⟨i, hi, hb⟩ := best_of f 9 (by omega)
    refine ⟨i + 1, by omega, by omega, ?_, ?_⟩
    · have h0 := hb (c0 - 1) (by omega)
      have e := hf (c0 - 1)
      rw [show c0 - 1 + 1 = c0 by omega] at e
      have hp : 0 < f (c0 - 1) := by
        rcases Nat.eq_zero_or_pos (f (c0 - 1)) with h | h
        · exact absurd (by rw [e.1, h]; rfl) a3
        · exact h
      rw [(hf i).1]
      exact (dI_lt (a := 0) (by omega) (by have := (hf i).2; omega)).2 (by omega)
    · refine sm_0 fun j hj => ?_
      have hj' := hb j (by omega)
      have e1 := hf i
      have e2 := hf j
      unfold aheadB
      rw [e1.1, e2.1, decide_eq_false (by rw [dI_lt (by omega) (by omega)]; omega), Bool.false_or]
      by_cases he : f j = f i
      · rw [he, decide_eq_true rfl, Bool.true_and]
        refine decide_eq_false ?_
        rw [dI_lt (by omega) (by omega)]
        have := hj'.2 he
        omega
      · rw [decide_eq_false (fun c => he ((nI_inj (by omega) (by omega)).1 c)), Bool.false_and]
  rcases com_cases (m := m) 9 1 with ⟨h1, h2⟩ | ⟨i, i1, i2, i3, i4, i5⟩
  · rw [h1]
    have hall : ∀ c, 1 ≤ c → c < 10 → nCol m (nI c) = 0 := fun c c1 c2 => Classical.byContradiction fun hc => by
      obtain ⟨d, d1, d2, d3⟩ := hexist ⟨c, c1, c2, hc⟩
      exact h2 d d1 (by omega) d3
    refine ⟨fun i _ _ h => absurd h (by decide), ⟨fun _ => (regs_0 ok).2 fun k hk hn => ?_, fun _ => rfl⟩, .inl rfl⟩
    have hr := mCol_rng ok (mx k) (my k)
    obtain ⟨c, c9, hc⟩ := isIn_lo (a := ndC m k) (hi := 9) (by decide) (isIn_iff.2 hr)
    rcases Nat.eq_zero_or_pos c with h | h
    · rw [hc, h]; rfl
    · exact absurd hc ((col_0 ok (by omega)).1 (hall c h (by omega)) k hk hn)
  · rw [i3]
    refine ⟨fun j j1 j2 _ => ?_, ⟨fun h => absurd h (nI_ne1 (by omega)), fun h => ?_⟩, .inr ⟨i, i1, by omega, rfl⟩⟩
    · have h := ahead_0 i5 (j - 1) (by omega)
      rw [show j - 1 + 1 = j by omega] at h
      unfold aheadB at h
      rw [Bool.or_eq_false_iff] at h
      have := of_decide_eq_false h.1
      grind
    · exfalso
      have hz : nCol m (nI i) = 0 := (col_0 ok (by omega)).2 fun k hk hn he => by
        have := (regs_0 ok).1 h k hk hn
        rw [this] at he
        have := (nI_inj (a := 0) (by omega) (by omega)).1 he
        omega
      rw [hz] at i4
      exact absurd i4 (by decide)
end M2
