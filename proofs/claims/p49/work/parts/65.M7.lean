/-! chips that come; the acts -/
section M7
variable {σ τ ρ : Sto} {m : Vc} {ps : List Vc} {sh : KSh}
theorem one_add (w : Nat) : 1 + nI w = nI (1 + w) := nI_addn 1 w
theorem k_adds {t : Nat} (h : INV m ps σ) (ht : TD t σ) (hb : t < 80000) : ∃ m' ps' t' τ, fL_adds sh σ = some (true, τ) ∧ INV m' ps' τ ∧ TD t' τ ∧ t' ≤ t + 5 := by
  have ok := h.1.1
  have hN := came_le ok
  obtain ⟨R, r1, r6, hr⟩ := rad_n ok
  have e2R : (2 * nI R) + 1 = nI (2 * R + 1) := by
    rw [← nI_add1]
    unfold nI
    rw [Int32.ofNat_mul]
    rfl
  obtain ⟨w1, b1, d1, t1⟩ := k_draw (sh := sh) (d := 2 * R + 1) ht (by omega) (by omega) (by omega) e2R
  have h1 := inv_draw (v := nI (t + 1)) h
  obtain ⟨w2, b2, d2, t2⟩ := k_draw (sh := sh) (d := 2 * R + 1) t1 (by omega) (by omega) (by omega) e2R
  have h2 := inv_draw (v := nI (t + 1 + 1)) h1
  generalize hσ2 : su (su σ 133 1 (nI (t + 1))) 133 1 (nI (t + 1 + 1)) = σ2 at d2 h2 t2
  have hR : inR (nI w1 - nI R) (nI w2 - nI R) := ⟨gco7 (by omega) b1, gco7 (by omega) b2⟩
  unfold fL_adds
  rw [k_count_1 h.1, Option.bind_some, if_pos rfl]
  dsimp only
  rw [hr, d1, Option.bind_some]
  dsimp only
  rw [d2, Option.bind_some]
  dsimp only
  rw [k_isBox h2.1 hR, Option.bind_some]
  dsimp only
  generalize hx : nI w1 - nI R = x at hR
  generalize hy : nI w2 - nI R = y at hR
  cases hbox : gBox (m 0) (m 1) x y with
  | false =>
    rw [if_neg Bool.false_ne_true]
    exact ⟨m, ps, t + 2, σ2, rfl, h2, t2, by omega⟩
  | true =>
    rw [if_pos rfl, k_count_5 h2.1, Option.bind_some, if_pos rfl]
    dsimp only
    rw [k_chipAt h2.1 hbox, Option.bind_some, if_pos rfl]
    dsimp only
    obtain ⟨w3, b3, d3, t3⟩ := k_draw (sh := sh) (d := 4) t2 (by omega) (by omega) (by omega) (D := 4) rfl
    have h3 := inv_draw (v := nI (t + 1 + 1 + 1)) h2
    obtain ⟨w4, b4, d4, t4⟩ := k_draw (sh := sh) (d := 9) t3 (by omega) (by omega) (by omega) (D := 9) rfl
    have h4 := inv_draw (v := nI (t + 1 + 1 + 1 + 1)) h3
    obtain ⟨w5, b5, d5, t5⟩ := k_draw (sh := sh) (d := 9) t4 (by omega) (by omega) (by omega) (D := 9) rfl
    have h5 := inv_draw (v := nI (t + 1 + 1 + 1 + 1 + 1)) h4
    rw [d3, Option.bind_some]
    dsimp only
    rw [d4, Option.bind_some]
    dsimp only
    rw [d5, Option.bind_some]
    dsimp only
    rw [one_add, one_add]
    generalize hσ5 : su (su (su σ2 133 1 (nI (t + 1 + 1 + 1))) 133 1 (nI (t + 1 + 1 + 1 + 1))) 133 1 (nI (t + 1 + 1 + 1 + 1 + 1)) = σ5 at h5 t5
    have g1 : 0 ≤ nI w3 ∧ nI w3 ≤ 3 := ⟨nI_lt0 (by omega), (dI_le (b := 3) (by omega) (by omega)).2 (by omega)⟩
    have g2 : 1 ≤ nI (1 + w4) ∧ nI (1 + w4) ≤ 9 := ⟨(dI_le (a := 1) (by omega) (by omega)).2 (by omega), (dI_le (b := 9) (by omega) (by omega)).2 (by omega)⟩
    have g3 : 1 ≤ nI (1 + w5) ∧ nI (1 + w5) ≤ 9 := ⟨(dI_le (a := 1) (by omega) (by omega)).2 (by omega), (dI_le (b := 9) (by omega) (by omega)).2 (by omega)⟩
    have hN' : (m 5 = 30) ↔ mN m = 30 := by rw [came_eq ok]; exact nI_inj (b := 30) (by omega) (by omega)
    by_cases h30 : mN m = 30
    · obtain ⟨τ, e1, hI, a1⟩ := k_addMany h5 hbox g1 g2 g3 h30
      rw [e1, Option.bind_some, if_pos rfl]
      dsimp only
      rw [if_pos (hN'.2 h30), if_pos rfl]
      exact ⟨m, ps, t + 5, τ, rfl, hI, td_ax t5 a1, by omega⟩
    · by_cases hf : mBd m x y = -1
      · obtain ⟨τ, e1, hI, a1⟩ := k_add h5 hbox g1 g2 g3 (by omega) hf
        rw [e1, Option.bind_some, if_pos rfl]
        dsimp only
        rw [if_neg (fun c => h30 (hN'.1 c)), if_pos hf, if_pos (came_eq ok).symm, k_chipAt hI.1 (by rw [mAdd_lo (by omega), mAdd_lo (by omega)]; exact hbox), Option.bind_some, if_pos rfl]
        dsimp only
        rw [if_pos (show mBd (mAdd m (nI w3) (nI (1 + w4)) (nI (1 + w5)) x y) x y = m 5 by rw [bd_add ok, if_pos ⟨rfl, rfl⟩]; exact (came_eq ok).symm)]
        exact ⟨_, _, t + 5, τ, rfl, hI, td_ax t5 a1, by omega⟩
      · obtain ⟨τ, e1, hI, a1⟩ := k_addFull h5 hbox g1 g2 g3 (by omega) hf
        rw [e1, Option.bind_some, if_pos rfl]
        dsimp only
        rw [if_neg (fun c => h30 (hN'.1 c)), if_neg hf, if_pos rfl]
        exact ⟨m, ps, t + 5, τ, rfl, hI, td_ax t5 a1, by omega⟩
theorem ins_take (ok : OKm m) {k : Nat} (hk : k < mN m) (h6 : mC m k 6 = 1) : nIns (mSet m k 6 0) = nIns m - 1 := by
  have hN : mN (mSet m k 6 0) = mN m := by unfold mN; rw [mSet_lo (by decide)]
  have e2 : sm (fun i => kb (decide (mC m i 6 = 1))) (mN m) = sm (fun i => kb (decide (mC (mSet m k 6 0) i 6 = 1)) + kb (decide (i = k))) (mN m) := by
    refine sm_congr fun i hi => ?_
    rw [mC_set (by omega) (by omega)]
    by_cases e : i = k
    · subst e
      rw [if_pos ⟨rfl, rfl⟩, h6, decide_eq_true (show i = i from rfl)]
      rfl
    · rw [if_neg (fun c => e c.1), decide_eq_false e]
      exact (add0 _).symm
  have e1 : nIns m = nIns (mSet m k 6 0) + 1 := by
    unfold nIns
    rw [hN, e2, sm_add, sm_one hk]
  rw [e1]
  grind
theorem chip3_out (ok : OKm m) {k : Nat} (hk : k < mN m) : chipV m k 3 = -100 ↔ ¬ mC m k 6 = 1 := by
  unfold chipV
  by_cases h6 : mC m k 6 = 1
  · rw [if_neg (fun c => c.2 h6)]
    have hi := near_in ok.2.1 (ok_near ok hk h6)
    constructor
    · intro c
      rw [c] at hi
      exact absurd hi.1.1 (by decide)
    · intro c; exact absurd h6 c
  · rw [if_pos ⟨.inl rfl, h6⟩]
    exact ⟨fun _ => h6, fun _ => rfl⟩
theorem cov_fin0 : ∀ v, v < 4 → ((krem (nI v) 2 = 0) ↔ v.testBit 0 = false) ∧ (v ^^^ 2 ^ 0).testBit 0 = !v.testBit 0 ∧ v ^^^ 2 ^ 0 < 4 := by decide
theorem cov_V (ok : OKm m) : (mV (mCov m 0)).testBit 0 = !(mV m).testBit 0 := by
  have h := cov_fin0 (mV m) ok.2.2.2.2.2.1.2
  have e : mV (mCov m 0) = mV m ^^^ 2 ^ 0 := by
    have e6 : mCov m 0 6 = nI (mV m ^^^ 2 ^ 0) := by unfold mCov vset; rw [if_pos rfl]
    show (mCov m 0 6).toNatClampNeg = _
    rw [e6, nI_n (by have := h.2.2; omega)]
  rw [e, h.2.1]
theorem k_292 {t : Nat} (h : INV m ps σ) (ht : TD t σ) (hb : t < 80000) : ∃ m' ps' t' τ, fL_acts_L292 sh (kb (!(mV m).testBit 0)) σ = some (true, τ) ∧ INV m' ps' τ ∧ TD t' τ ∧ t' ≤ t + 1 := by
  have ok := h.1.1
  obtain ⟨τ1, e1, hI1, a1⟩ := k_cover h (bb := !(mV m).testBit 0) (by cases (mV m).testBit 0 <;> decide)
  obtain ⟨τ2, e2, f2⟩ := k_count_9 hI1.1
  have hI2 := inv_cx hI1 f2
  obtain ⟨τ3, e3, hI3, a3⟩ := k_coverNo hI2 (bb := !(mV m).testBit 0) (cov_V ok)
  have t3 : TD t τ3 := td_ax (td_cx (td_ax ht a1) f2) a3
  obtain ⟨w, b4, d4, t4⟩ := k_draw (sh := sh) (d := 2) t3 (by omega) (by omega) (by omega) (D := 2) rfl
  have hI4 := inv_draw (v := nI (t + 1)) hI3
  unfold fL_acts_L292
  rw [e1, Option.bind_some, if_pos rfl]
  dsimp only
  rw [e2, Option.bind_some, if_pos rfl]
  dsimp only
  rw [if_pos rfl, e3, Option.bind_some, if_pos rfl]
  dsimp only
  rw [if_pos rfl, d4, Option.bind_some]
  dsimp only
  by_cases h0 : nI w = 0
  · rw [if_pos h0]
    exact ⟨_, _, t + 1, _, rfl, hI4, t4, by omega⟩
  · rw [if_neg h0]
    rw [psh_top] at hI4
    obtain ⟨τ5, e5, hI5, a5⟩ := k_undo hI4
    have hlen : (ps.take 7).length ≤ 7 := by rw [List.length_take]; omega
    have hp := @nI_lt0 (ps.take 7).length (by omega)
    rw [e5, Option.bind_some]
    dsimp only
    rw [if_neg (show ¬ nI (ps.take 7).length < 0 by grind), k_count_10 hI5.1, Option.bind_some, if_pos rfl]
    dsimp only
    have hk := (cov_fin0 (mV m) ok.2.2.2.2.2.1.2).1
    rw [← ok.2.2.2.2.2.1.1] at hk
    refine ⟨m, ps.take 7, t + 1, τ5, ?_, hI5, td_ax t4 a5, by omega⟩
    unfold fL_acts_L353
    cases hT : (mV m).testBit 0 with
    | false => rw [if_pos (hk.2 hT), if_pos (show (1 : Int32) = kb (!false) from rfl)]
    | true => rw [if_neg (fun c => by rw [hk.1 c] at hT; cases hT), if_pos (show (0 : Int32) = kb (!true) from rfl)]
theorem k_148 {t k : Nat} (h : INV m ps σ) (ht : TD t σ) (hb : t < 80000) (hk : k < mN m) {s : Int32} (hs : s = 0 ↔ ¬ mC m k 6 = 1) : ∃ m' ps' t' τ, fL_acts_L148 sh (nI k) s σ = some (true, τ) ∧ INV m' ps' τ ∧ TD t' τ ∧ t' ≤ t + 1 := by
  obtain ⟨w, b1, d1, t1⟩ := k_draw (sh := sh) (d := 9) ht (by omega) (by omega) (by omega) (D := 9) rfl
  have h1 := inv_draw (v := nI (t + 1)) h
  unfold fL_acts_L148
  rw [d1, Option.bind_some]
  dsimp only
  rw [one_add]
  by_cases h6 : mC m k 6 = 1
  · obtain ⟨τ, e2, hI2, a2⟩ := k_paint h1 hk h6 (j := 1 + w) (by omega) (by omega)
    obtain ⟨ρ, e3, f3⟩ := k_cellsOf hI2.1 (k := 1 + w) (by omega)
    rw [e2, Option.bind_some, if_pos rfl]
    dsimp only
    rw [if_neg (fun c => hs.1 c h6), e3, Option.bind_some, if_pos rfl]
    dsimp only
    unfold fL_acts_L184
    rw [if_pos rfl]
    exact ⟨_, _, t + 1, ρ, rfl, inv_cx hI2 f3, td_cx (td_ax t1 a2) f3, by omega⟩
  · obtain ⟨τ, e2, hI2, a2⟩ := k_paintNo h1 hk h6 (j := 1 + w) (by omega) (by omega)
    rw [e2, Option.bind_some, if_pos rfl]
    dsimp only
    rw [if_pos (hs.2 h6)]
    unfold fL_acts_L184
    rw [if_pos rfl]
    exact ⟨m, ps, t + 1, τ, rfl, hI2, td_ax t1 a2, by omega⟩
theorem k_acts {t : Nat} (h : INV m ps σ) (ht : TD t σ) (hb : t < 70000) : ∃ m' ps' t' τ, fL_acts sh σ = some (true, τ) ∧ INV m' ps' τ ∧ TD t' τ ∧ t' ≤ t + 6 := by
  have ok := h.1.1
  have hN := came_le ok
  obtain ⟨w, b1, d1, t1⟩ := k_draw (sh := sh) (d := 8) ht (by omega) (by omega) (by omega) (D := 8) rfl
  have h1 := inv_draw (v := nI (t + 1)) h
  generalize hσ1 : su σ 133 1 (nI (t + 1)) = σ1 at d1 t1 h1
  have hm0 : (m 5 = 0) ↔ mN m = 0 := by rw [came_eq ok]; exact nI_inj (b := 0) (by omega) (by omega)
  unfold fL_acts
  rw [k_count_5 h.1, Option.bind_some, if_pos rfl]
  dsimp only
  rw [d1, Option.bind_some]
  dsimp only
  have lit : ∀ v, v < 8 → ((nI w = nI v) ↔ w = v) := fun v hv => nI_inj (by omega) (by omega)
  by_cases c0 : w = 0
  · rw [if_pos (show nI w = 0 from (lit 0 (by omega)).2 c0)]
    obtain ⟨m', ps', τ, e2, hI2, a2⟩ := k_falls h1
    rw [e2, Option.bind_some]
    exact ⟨m', ps', t + 1, τ, rfl, hI2, td_ax t1 a2, by omega⟩
  rw [if_neg (show ¬ nI w = 0 from fun c => c0 ((lit 0 (by omega)).1 c))]
  by_cases c1 : w = 1
  · rw [if_pos (show nI w = 1 from (lit 1 (by omega)).2 c1)]
    obtain ⟨s, b2, d2, t2⟩ := k_draw (sh := sh) (d := 7) t1 (by omega) (by omega) (by omega) (D := 7) rfl
    have h2 := inv_draw (v := nI (t + 1 + 1)) h1
    obtain ⟨τ, e3, hI3, a3⟩ := k_turn h2 (s := 1 + s) (by omega) (by omega)
    have hd := @dirs_le (m 0)
    have hD := ok.2.2.1.2
    have e4 : krem (m 2 + nI (1 + s)) (nI (gDirs (m 0))) = nI ((mD m + (1 + s)) % gDirs (m 0)) := by
      have h9 := ok.2.2.1.1
      rw [h9, nI_addn]
      have hD' : mD (fun i => m i) = mD m := rfl
      exact krem_d (by omega)
    rw [k_count_2 h1.1, Option.bind_some, if_pos rfl]
    dsimp only
    rw [d2, Option.bind_some]
    dsimp only
    rw [one_add, e3, Option.bind_some, if_pos rfl]
    dsimp only
    have g0 : mTurn m (1 + s) 0 = m 0 := vset_ne (by decide)
    have g2 : mTurn m (1 + s) 2 = nI ((mD m + (1 + s)) % gDirs (m 0)) := by unfold mTurn vset; rw [if_pos rfl]
    rw [k_count_14 hI3.1, Option.bind_some, if_pos rfl]
    dsimp only
    rw [g0, if_neg dirs_ne, if_pos e4.symm, k_count_2 hI3.1, Option.bind_some, if_pos rfl]
    dsimp only
    rw [k_count_14 hI3.1, Option.bind_some, if_pos rfl]
    dsimp only
    rw [g0, if_neg dirs_ne, g2, if_pos e4.symm]
    exact ⟨_, _, t + 2, τ, rfl, hI3, td_ax t2 a3, by omega⟩
  rw [if_neg (show ¬ nI w = 1 from fun c => c1 ((lit 1 (by omega)).1 c))]
  by_cases c2 : w = 2
  · rw [if_pos (show nI w = 2 from (lit 2 (by omega)).2 c2)]
    by_cases hz : mN m = 0
    · rw [if_pos (hm0.2 hz)]
      exact ⟨m, ps, t + 1, σ1, rfl, h1, t1, by omega⟩
    · rw [if_neg (fun c => hz (hm0.1 c))]
      obtain ⟨k, b2, d2, t2⟩ := k_draw (sh := sh) (d := mN m) t1 (by omega) (by omega) (by omega) (came_eq ok)
      have h2 := inv_draw (v := nI (t + 1 + 1)) h1
      generalize hσ2 : su σ1 133 1 (nI (t + 1 + 1)) = σ2 at d2 t2 h2
      rw [d2, Option.bind_some]
      dsimp only
      rw [show fX6_chip (nI k) 3 σ2 = _ from k_chip h2.1 b2 (v := 3) (by omega), Option.bind_some, if_pos rfl]
      dsimp only
      by_cases hc : chipV m k 3 = -100
      · rw [if_pos hc]
        obtain ⟨m', ps', t', τ, e3, q1, q2, q3⟩ := k_148 (sh := sh) h2 t2 (by omega) b2 (s := 0) ⟨fun _ => (chip3_out ok b2).1 hc, fun _ => rfl⟩
        exact ⟨m', ps', t', τ, e3, q1, q2, by omega⟩
      · rw [if_neg hc]
        obtain ⟨m', ps', t', τ, e3, q1, q2, q3⟩ := k_148 (sh := sh) h2 t2 (by omega) b2 (s := 1) ⟨fun c => absurd c (by decide), fun c => absurd ((chip3_out ok b2).2 c) hc⟩
        exact ⟨m', ps', t', τ, e3, q1, q2, by omega⟩
  rw [if_neg (show ¬ nI w = 2 from fun c => c2 ((lit 2 (by omega)).1 c))]
  by_cases c3 : w = 3
  · rw [if_pos (show nI w = 3 from (lit 3 (by omega)).2 c3)]
    by_cases hz : mN m = 0
    · rw [if_pos (hm0.2 hz)]
      exact ⟨m, ps, t + 1, σ1, rfl, h1, t1, by omega⟩
    · rw [if_neg (fun c => hz (hm0.1 c))]
      obtain ⟨k, b2, d2, t2⟩ := k_draw (sh := sh) (d := mN m) t1 (by omega) (by omega) (by omega) (came_eq ok)
      have h2 := inv_draw (v := nI (t + 1 + 1)) h1
      generalize hσ2 : su σ1 133 1 (nI (t + 1 + 1)) = σ2 at d2 t2 h2
      rw [d2, Option.bind_some]
      dsimp only
      rw [k_count_6 h2.1, Option.bind_some, if_pos rfl]
      dsimp only
      rw [show fX6_chip (nI k) 3 σ2 = _ from k_chip h2.1 b2 (v := 3) (by omega), Option.bind_some, if_pos rfl]
      dsimp only
      by_cases hc : chipV m k 3 = -100
      · rw [if_pos hc]
        obtain ⟨τ, e3, hI3, a3⟩ := k_takeNo h2 b2 ((chip3_out ok b2).1 hc)
        rw [e3, Option.bind_some, if_pos rfl]
        dsimp only
        rw [if_pos rfl]
        exact ⟨m, ps, t + 2, τ, rfl, hI3, td_ax t2 a3, by omega⟩
      · rw [if_neg hc]
        have h6 : mC m k 6 = 1 := Classical.byContradiction fun c => hc ((chip3_out ok b2).2 c)
        obtain ⟨τ, e3, hI3, a3⟩ := k_take h2 b2 h6
        have hN' : mN (mSet m k 6 0) = mN m := by unfold mN; rw [mSet_lo (by decide)]
        rw [e3, Option.bind_some, if_pos rfl]
        dsimp only
        rw [if_pos (ins_take ok b2 h6), show fX6_chip (nI k) 4 τ = _ from k_chip hI3.1 (show k < mN (mSet m k 6 0) by rw [hN']; exact b2) (v := 4) (by omega), Option.bind_some, if_pos rfl]
        dsimp only
        rw [if_pos (show chipV (mSet m k 6 0) k 4 = -100 by
          unfold chipV
          rw [if_pos ⟨.inr rfl, by rw [mC_set (by omega) (by omega), if_pos ⟨rfl, rfl⟩]; decide⟩])]
        exact ⟨_, _, t + 2, τ, rfl, hI3, td_ax t2 a3, by omega⟩
  rw [if_neg (show ¬ nI w = 3 from fun c => c3 ((lit 3 (by omega)).1 c))]
  by_cases c4 : w = 4
  · rw [if_pos (show nI w = 4 from (lit 4 (by omega)).2 c4), k_count_10 h1.1, Option.bind_some, if_pos rfl]
    dsimp only
    have hk := (cov_fin0 (mV m) ok.2.2.2.2.2.1.2).1
    rw [← ok.2.2.2.2.2.1.1] at hk
    obtain ⟨m', ps', t', τ, e3, q1, q2, q3⟩ := k_292 (sh := sh) h1 t1 (by omega)
    refine ⟨m', ps', t', τ, ?_, q1, q2, by omega⟩
    cases hT : (mV m).testBit 0 with
    | false => rw [if_pos (hk.2 hT)]; rw [hT] at e3; exact e3
    | true => rw [if_neg (fun c => by rw [hk.1 c] at hT; cases hT)]; rw [hT] at e3; exact e3
  rw [if_neg (show ¬ nI w = 4 from fun c => c4 ((lit 4 (by omega)).1 c))]
  by_cases c5 : w = 5
  · rw [if_pos (show nI w = 5 from (lit 5 (by omega)).2 c5), k_count_3 h1.1, Option.bind_some, if_pos rfl]
    dsimp only
    obtain ⟨s, b2, d2, t2⟩ := k_draw (sh := sh) (d := 100) t1 (by omega) (by omega) (by omega) (D := 100) rfl
    have h2 := inv_draw (v := nI (t + 1 + 1)) h1
    obtain ⟨τ, e3, hI3, a3⟩ := k_setKeep h2 (v := nI (1 + s)) ((dI_le (a := 1) (by omega) (by omega)).2 (by omega)) ((dI_le (b := 100) (by omega) (by omega)).2 (by omega))
    obtain ⟨ρ, e4, hI4, a4⟩ := k_hasMaps hI3
    rw [d2, Option.bind_some]
    dsimp only
    rw [one_add, e3, Option.bind_some, if_pos rfl]
    dsimp only
    rw [if_pos rfl, e4, Option.bind_some]
    dsimp only
    rw [if_pos rfl]
    exact ⟨_, _, t + 2, ρ, rfl, hI4, td_ax (td_ax t2 a3) a4, by omega⟩
  rw [if_neg (show ¬ nI w = 5 from fun c => c5 ((lit 5 (by omega)).1 c))]
  obtain ⟨m', ps', t', τ, e2, q1, q2, q3⟩ := k_adds (sh := sh) h1 t1 (by omega)
  rw [e2, Option.bind_some]
  exact ⟨m', ps', t', τ, rfl, q1, q2, by omega⟩
end M7
