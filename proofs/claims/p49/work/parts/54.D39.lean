section MST
variable {σ τ ρ : Sto} {B : Nat → Int32} {L p q : Nat} {m m' : Vc} {v lo hi c : Int32}
def MOUT (B : Nat → Int32) (L : Nat) (r : PR (Vc × Nat)) (τ : Sto) : Prop := (∀ m' q, r = .inl (m', q) → MP B L q m' τ) ∧ ∀ c q, r = .inr (c, q) → ME c q τ
theorem mout_t {r : PR (Vc × Nat)} (e : r = .inl (m', q)) (h : MP B L q m' τ) : MOUT B L r τ := by
  subst e
  exact ⟨fun m1 q1 c => (by cases c; exact h), fun c1 q1 c => (by cases c)⟩
theorem mout_f {r : PR (Vc × Nat)} (e : r = .inr (c, q)) (h : ME c q τ) : MOUT B L r τ := by
  subst e
  exact ⟨fun m1 q1 c => (by cases c), fun c1 q1 c => (by cases c; exact h)⟩
theorem m_chip (hB : BY B L) (h : MP B L p m σ) (hz : Zr m) (ok : OKm m) {kd : Int32} : ∃ τ, fX7_readsChip kd σ = some τ ∧ FM σ τ ∧ MOUT B L (gCh B L kd m p) τ := by
  have hn := came_le ok
  unfold fX7_readsChip gCh
  rw [if_pos (show kin 5 220 = true by decide), z5, h.2.2.2.2, came_eq ok]
  by_cases h30 : mN m = 30
  · obtain ⟨a, b⟩ := m_fails h hz (c := 4) (by decide)
    rw [if_pos (by rw [h30]; rfl), Option.bind_some, if_pos h30]
    unfold fX7_readsChip_L16
    rw [e_goesOn a.2.1, Option.bind_some, e_reads a.2.1, Option.bind_some, e_reads a.2.1, Option.bind_some, e_place a.2.1, Option.bind_some, e_goesOn a.2.1, Option.bind_some, e_place a.2.1, Option.bind_some, e_good a.2.1, if_neg Bool.false_ne_true, e_L87 a.2.1]
    exact ⟨_, rfl, b, mout_f rfl a⟩
  · rw [if_neg (show ¬ nI (mN m) = 30 from fun x => h30 ((nI_inj (b := 30) (by omega) (by omega)).1 x)), if_neg h30]
    unfold fX7_readsChip_L16
    obtain ⟨τ0, f0, a0, b0⟩ := m_goesOn hB h
    rw [f0, Option.bind_some]
    rcases e1 : gNu B L 1 9 (tkE B L p) with ⟨v1, p1⟩ | ⟨c, q⟩
    · obtain ⟨τ1, f1, a1, b1⟩ := m_nu_t hB a0 e1
      rw [f1, Option.bind_some, pb_l]
      rcases e2 : gNu B L 1 9 p1 with ⟨v2, p2⟩ | ⟨c, q⟩
      · obtain ⟨τ2, f2, a2, b2⟩ := m_nu_t hB a1 e2
        rw [f2, Option.bind_some, pb_l]
        rcases e3 : gPl B L p2 with ⟨v3, p3⟩ | ⟨c, q⟩
        · obtain ⟨τ3, f3, a3, b3, q3⟩ := m_pl_t hB a2 e3
          obtain ⟨τ4, f4, a4, b4⟩ := m_goesOn hB a3
          rw [← q3] at a4
          rw [f3, Option.bind_some, f4, Option.bind_some, pb_l]
          have hF := fm_trans (fm_trans (fm_trans (fm_trans b0 b1) b2) b3) b4
          rcases e5 : gPl B L p3 with ⟨v5, p5⟩ | ⟨c, q⟩
          · obtain ⟨τ5, f5, a5, b5, q5⟩ := m_pl_t hB a4 e5
            have t4 : τ5 134 = m := a5.2.2.2.2
            have t4' : ((v5, τ5) : Int32 × Sto).2 134 = m := t4
            rw [f5, Option.bind_some, pb_l, g_good a5, if_pos rfl, m_box, Option.bind_some, t4']
            show ∃ τ, (if gBox (m 0) (m 1) v3 v5 = true then (fX7_chipNow v3 v5 τ5).bind fun r31 => if r31 = -1 then fX7_readsChip_L87 kd v1 v2 v3 v5 τ5 else fX7_readsChip_L82 kd v1 v2 v3 v5 τ5 else fX7_readsChip_L82 kd v1 v2 v3 v5 τ5) = some τ ∧ FM σ τ ∧ MOUT B L (if gBox (m 0) (m 1) v3 v5 = true then (if mBd m v3 v5 = -1 then (.inl (mAdd m kd v1 v2 v3 v5, p5) : PR (Vc × Nat)) else .inr (3, tkS B L (gQ B L p3))) else .inr (3, tkS B L (gQ B L p3))) τ
            obtain ⟨ae, be⟩ := m_fails a5 hz (c := 3) (by decide)
            have bad : ∃ τ, fX7_readsChip_L82 kd v1 v2 v3 v5 τ5 = some τ ∧ FM σ τ ∧ ME 3 (tkS B L (gQ B L p3)) τ := by
              unfold fX7_readsChip_L82
              rw [Option.bind_some, e_L87 ae.2.1]
              exact ⟨_, rfl, fm_trans (fm_trans hF b5) be, ae⟩
            cases hb : gBox (m 0) (m 1) v3 v5 with
            | false =>
              obtain ⟨τ, x1, x2, x3⟩ := bad
              rw [if_neg Bool.false_ne_true, if_neg Bool.false_ne_true]
              exact ⟨τ, x1, x2, mout_f rfl x3⟩
            | true =>
              have cn : fX7_chipNow v3 v5 τ5 = some (mBd m v3 v5) := by rw [m_chipNow (by rw [t4]; exact came_eq ok) (by rw [t4]; exact hn), t4]
              rw [if_pos rfl, if_pos rfl, cn, Option.bind_some]
              by_cases hf : mBd m v3 v5 = -1
              · rw [if_pos hf, if_pos hf]
                obtain ⟨τ6, f6, a6, b6⟩ := m_goesOn hB a5
                rw [← q5] at a6
                obtain ⟨τ7, f7, k7, k7'⟩ := m_lays ok a6.2.2.2.2 (by omega) (kd := kd) (col := v1) (w := v2) (x := v3) (y := v5)
                have e133 : τ7 133 = τ6 133 := k7' 133 (by decide)
                unfold fX7_readsChip_L87
                rw [f6, Option.bind_some, g_good a6, if_pos rfl, f7, Option.bind_some]
                refine ⟨τ7, rfl, fm_trans (fm_trans (fm_trans hF b5) b6) ⟨fun q _ hq => k7' q hq, fun i _ => by rw [e133]⟩, mout_t rfl ?_⟩
                obtain ⟨x1, x2, x3, x4, x5⟩ := a6
                refine ⟨⟨x1.1, by rw [e133]; exact x1.2.1, fun i hi => by rw [k7' 149 (by decide)]; exact x1.2.2 i hi⟩, ?_, x3, by rw [e133]; exact x4, k7⟩
                unfold TKM
                rw [e133]
                exact x2
              · obtain ⟨τ, x1, x2, x3⟩ := bad
                rw [if_neg hf, if_neg hf]
                exact ⟨τ, x1, x2, mout_f rfl x3⟩
          · obtain ⟨w, ρ, f5, k1, k2⟩ := m_pl_f hB a4 hz e5
            rw [f5, Option.bind_some, pb_r]
            show ∃ τ, (if fX7_isGood ρ = true then _ else _) = _ ∧ _
            rw [e_good k1.2.1, if_neg Bool.false_ne_true]
            exact ⟨ρ, e_L87 k1.2.1, fm_trans hF k2, mout_f rfl k1⟩
        · obtain ⟨w, ρ, f3, k1, k2⟩ := m_pl_f hB a2 hz e3
          rw [f3, Option.bind_some, e_goesOn k1.2.1, Option.bind_some, e_place k1.2.1, Option.bind_some, pb_r, e_good k1.2.1, if_neg Bool.false_ne_true]
          exact ⟨ρ, e_L87 k1.2.1, fm_trans (fm_trans (fm_trans b0 b1) b2) k2, mout_f rfl k1⟩
      · obtain ⟨ρ, f2, k1, k2⟩ := m_nu_f a1 hz e2
        rw [f2, Option.bind_some, e_place k1.2.1, Option.bind_some, e_goesOn k1.2.1, Option.bind_some, e_place k1.2.1, Option.bind_some, pb_r, e_good k1.2.1, if_neg Bool.false_ne_true]
        exact ⟨ρ, e_L87 k1.2.1, fm_trans (fm_trans b0 b1) k2, mout_f rfl k1⟩
    · obtain ⟨ρ, f1, k1, k2⟩ := m_nu_f a0 hz e1
      rw [f1, Option.bind_some, e_reads k1.2.1, Option.bind_some, e_place k1.2.1, Option.bind_some, e_goesOn k1.2.1, Option.bind_some, e_place k1.2.1, Option.bind_some, pb_r, e_good k1.2.1, if_neg Bool.false_ne_true]
      exact ⟨ρ, e_L87 k1.2.1, fm_trans b0 k2, mout_f rfl k1⟩
def gCv (B : Nat → Int32) (L : Nat) (m : Vc) (p : Nat) : PR (Vc × Nat) := pb (gNu B L 0 (nI (gMany (m 0)) - 1) (tkE B L p)) fun r => if (mV m).testBit r.1.toNatClampNeg = true then .inr (3, tkS B L (tkE B L p)) else .inl (mCov m r.1.toNatClampNeg, r.2)
theorem m_cover (hB : BY B L) (h : MP B L p m σ) (hz : Zr m) (ok : OKm m) : ∃ τ, fX7_readsCover σ = some τ ∧ FM σ τ ∧ MOUT B L (gCv B L m p) τ := by
  have hg := @many_le (m 0)
  have hv := ok.2.2.2.2.2.1.2
  obtain ⟨τ0, f0, a0, b0⟩ := m_goesOn hB h
  have w6 : kin 6 220 = true := by decide
  have L42 : ∀ (x : Int32) (ρ : Sto), (¬ ρ 133 26 = 0) → fX7_readsCover_L42 x ρ = some (su ρ 134 6 (ρ 134 6 ||| (1 <<< (x &&& 31)))) := fun x ρ h => by
    unfold fX7_readsCover_L42
    rw [e_goesOn h, Option.bind_some, if_pos w6, if_pos w6, klet_eq, z6]
  unfold fX7_readsCover gCv
  rw [f0, Option.bind_some, m_many, Option.bind_some, a0.2.2.2.2]
  rcases e1 : gNu B L 0 (nI (gMany (m 0)) - 1) (tkE B L p) with ⟨v1, p1⟩ | ⟨c, q⟩
  · obtain ⟨_, r1, _, c1⟩ := gNu_f e1
    obtain ⟨j, hj, ej⟩ := isIn_nI (by omega) r1
    subst ej
    have t4 : ((nI j, τ0) : Int32 × Sto).2 134 = m := a0.2.2.2.2
    have hj2 : j < 2 := by omega
    have hcv := cov_set _ hv j hj2
    rw [m_lk_t a0 e1, Option.bind_some, g_good a0, if_pos rfl, if_pos w6, z6, t4, ok.2.2.2.2.2.1.1, has_fin _ hv j hj2, pb_l]
    show ∃ τ, _ ∧ FM σ τ ∧ MOUT B L (if (mV m).testBit (nI j).toNatClampNeg = true then (.inr (3, tkS B L (tkE B L p)) : PR (Vc × Nat)) else .inl (mCov m (nI j).toNatClampNeg, p1)) τ
    rw [nI_n (show j < 2147483648 by omega)]
    by_cases ht : (mV m).testBit j = true
    · obtain ⟨ae, be⟩ := m_fails a0 hz (c := 3) (by decide)
      rw [if_pos ht, if_pos ht, Option.bind_some, L42 _ _ ae.2.1]
      exact ⟨_, rfl, fm_trans (fm_trans b0 be) fm_su, mout_f rfl (me_su ae (by decide))⟩
    · obtain ⟨τ1, f1, a1, b1⟩ := m_goesOn hB a0
      rw [if_neg ht, if_neg ht]
      unfold fX7_readsCover_L42
      rw [f1, Option.bind_some, if_pos w6, if_pos w6, klet_eq, z6, a1.2.2.2.2, ok.2.2.2.2.2.1.1]
      have ht' : (mV m).testBit j = false := by rw [Bool.not_eq_true] at ht; exact ht
      have e6 : (nI (mV m) ||| (1 <<< (nI j &&& 31))) = nI (mV m ^^^ 2 ^ j) := hcv.2.2.1 ht'
      have e6' : (nI (mV m) ||| (1 <<< (((nI j, τ0) : Int32 × Sto).1 &&& 31))) = nI (mV m ^^^ 2 ^ j) := e6
      rw [e6']
      subst c1
      exact ⟨_, rfl, fm_trans (fm_trans b0 b1) fm_su, mout_t rfl (mp_su a1)⟩
  · obtain ⟨ρ, f1, k1, k2⟩ := m_lk_f a0 hz e1
    rw [f1, Option.bind_some, e_good k1.2.1, if_neg Bool.false_ne_true, pb_r, L42 _ _ k1.2.1]
    exact ⟨_, rfl, fm_trans (fm_trans b0 k2) fm_su, mout_f rfl (me_su k1 (by decide))⟩
theorem m_kind (h : MP B L p m σ) : fX7_kindHere σ = some (gKd B L p) := by
  have w := fun t => m_isWord h (t := t)
  unfold fX7_kindHere gKd
  rw [show (11 : Nat) = 2 + 9 from rfl, show (12 : Nat) = 3 + 9 from rfl, show (13 : Nat) = 4 + 9 from rfl, show (14 : Nat) = 5 + 9 from rfl, w 2, w 3, w 4, w 5, Option.bind_some, Option.bind_some, Option.bind_some, Option.bind_some]
  split
  · rfl
  · split
    · rfl
    · split
      · rfl
      · split <;> rfl
/-- a statement's end -/
theorem m_tail (hB : BY B L) {r : PR (Vc × Nat)} {τ : Sto} (ho : MOUT B L r τ) (hf : FM σ τ) (hzr : ∀ m' q, r = .inl (m', q) → Zr m') : ∃ κ, fX7_ends τ = some κ ∧ FM σ κ ∧ MOUT B L (pb r fun s => pb (gTk B L 4 s.2) fun q => .inl (s.1, q)) κ := by
  rcases r with ⟨m1, q1⟩ | ⟨c, q⟩
  · have hm := ho.1 m1 q1 rfl
    have hz := hzr m1 q1 rfl
    rw [pb_l]
    show ∃ κ, _ ∧ _ ∧ MOUT B L (pb (gTk B L 4 q1) fun q => .inl (m1, q)) κ
    rcases e : gTk B L 4 q1 with q2 | ⟨c, q⟩
    · obtain ⟨κ, f1, a1, b1⟩ := m_en_t hB hm e
      exact ⟨κ, f1, fm_trans hf b1, mout_t rfl a1⟩
    · obtain ⟨κ, f1, a1, b1⟩ := m_en_f hB hm hz e
      exact ⟨κ, f1, fm_trans hf b1, mout_f rfl a1⟩
  · have hm := ho.2 c q rfl
    exact ⟨τ, e_ends hm.2.1, hf, mout_f rfl hm⟩
theorem m_st (hB : BY B L) (h : MP B L p m σ) (hz : Zr m) (ok : OKm m) : ∃ τ, fX7_readsStatement σ = some τ ∧ FM σ τ ∧ MOUT B L (gSS B L m p) τ := by
  have w := fun t => m_isWord h (t := t)
  have hd := @dirs_le (m 0)
  have w2 : kin 2 220 = true := by decide
  have w3 : kin 3 220 = true := by decide
  have hzr : ∀ m' q, gSt B L m p = .inl (m', q) → Zr m' := fun m' q e => (gSt_ok ok hz h.2.2.1 e).2.1
  unfold fX7_readsStatement gSS
  rw [m_kind h, Option.bind_some]
  by_cases hk : gKd B L p = -1
  · rw [if_pos hk, show (15 : Nat) = 6 + 9 from rfl, show (16 : Nat) = 7 + 9 from rfl, show (17 : Nat) = 8 + 9 from rfl, w 6, Option.bind_some]
    by_cases h6 : dB (WDt B L 6 p) = true
    · have eS : gSt B L m p = pb (gNu B L 0 (nI (gDirs (m 0)) - 1) (tkE B L p)) fun r => .inl (vset m 2 r.1, r.2) := by unfold gSt; rw [if_pos hk, if_pos h6]
      obtain ⟨τ0, f0, a0, b0⟩ := m_goesOn hB h
      rw [if_pos h6, f0, Option.bind_some, m_dirs, Option.bind_some, a0.2.2.2.2]
      rcases e1 : gNu B L 0 (nI (gDirs (m 0)) - 1) (tkE B L p) with ⟨v1, p1⟩ | ⟨c, q⟩
      · obtain ⟨τ1, f1, a1, b1⟩ := m_nu_t hB a0 e1
        rw [e1, pb_l] at eS
        rw [f1, Option.bind_some, if_pos w2, klet_eq, z2]
        obtain ⟨κ, x1, x2, x3⟩ := m_tail hB (σ := σ) (τ := su τ1 134 2 v1) (mout_t eS (mp_su a1)) (fm_trans (fm_trans b0 b1) fm_su) hzr
        exact ⟨κ, by show (fX7_ends (su τ1 134 2 v1)).bind _ = _; rw [x1, Option.bind_some], x2, x3⟩
      · obtain ⟨τ1, f1, a1, b1⟩ := m_nu_f a0 hz e1
        rw [e1, pb_r] at eS
        rw [f1, Option.bind_some, if_pos w2, klet_eq, z2]
        obtain ⟨κ, x1, x2, x3⟩ := m_tail hB (σ := σ) (τ := su τ1 134 2 0) (mout_f eS (me_su a1 (by decide))) (fm_trans (fm_trans b0 b1) fm_su) hzr
        exact ⟨κ, by show (fX7_ends (su τ1 134 2 0)).bind _ = _; rw [x1, Option.bind_some], x2, x3⟩
    · rw [if_neg h6, w 7, Option.bind_some]
      by_cases h7 : dB (WDt B L 7 p) = true
      · have eS : gSt B L m p = pb (gNu B L 1 100 (tkE B L p)) fun r => .inl (vset m 3 r.1, r.2) := by unfold gSt; rw [if_pos hk, if_neg h6, if_pos h7]
        obtain ⟨τ0, f0, a0, b0⟩ := m_goesOn hB h
        rw [if_pos h7, f0, Option.bind_some]
        rcases e1 : gNu B L 1 100 (tkE B L p) with ⟨v1, p1⟩ | ⟨c, q⟩
        · obtain ⟨τ1, f1, a1, b1⟩ := m_nu_t hB a0 e1
          rw [e1, pb_l] at eS
          rw [f1, Option.bind_some, if_pos w3, klet_eq, z3]
          obtain ⟨κ, x1, x2, x3⟩ := m_tail hB (σ := σ) (τ := su τ1 134 3 v1) (mout_t eS (mp_su a1)) (fm_trans (fm_trans b0 b1) fm_su) hzr
          exact ⟨κ, by show (fX7_ends (su τ1 134 3 v1)).bind _ = _; rw [x1, Option.bind_some], x2, x3⟩
        · obtain ⟨τ1, f1, a1, b1⟩ := m_nu_f a0 hz e1
          rw [e1, pb_r] at eS
          rw [f1, Option.bind_some, if_pos w3, klet_eq, z3]
          obtain ⟨κ, x1, x2, x3⟩ := m_tail hB (σ := σ) (τ := su τ1 134 3 1) (mout_f eS (me_su a1 (by decide))) (fm_trans (fm_trans b0 b1) fm_su) hzr
          exact ⟨κ, by show (fX7_ends (su τ1 134 3 1)).bind _ = _; rw [x1, Option.bind_some], x2, x3⟩
      · rw [if_neg h7, w 8, Option.bind_some]
        by_cases h8 : dB (WDt B L 8 p) = true
        · have eS : gSt B L m p = gCv B L m p := by unfold gSt; rw [if_pos hk, if_neg h6, if_neg h7, if_pos h8]; rfl
          obtain ⟨τ1, f1, b1, o1⟩ := m_cover hB h hz ok
          rw [← eS] at o1
          obtain ⟨κ, x1, x2, x3⟩ := m_tail hB o1 b1 hzr
          rw [if_pos h8, f1, Option.bind_some, x1, Option.bind_some]
          exact ⟨κ, rfl, x2, x3⟩
        · have eS : gSt B L m p = .inr (1, tkS B L p) := by unfold gSt; rw [if_pos hk, if_neg h6, if_neg h7, if_neg h8]
          obtain ⟨ae, be⟩ := m_fails h hz (c := 1) (by decide)
          obtain ⟨κ, x1, x2, x3⟩ := m_tail hB (mout_f eS ae) be hzr
          rw [if_neg h8, Option.bind_some, x1, Option.bind_some]
          exact ⟨κ, rfl, x2, x3⟩
  · have eS : gSt B L m p = gCh B L (gKd B L p) m p := by unfold gSt; rw [if_neg hk]
    obtain ⟨τ1, f1, b1, o1⟩ := m_chip hB h hz ok (kd := gKd B L p)
    rw [← eS] at o1
    obtain ⟨κ, x1, x2, x3⟩ := m_tail hB o1 b1 hzr
    rw [if_neg hk, f1, Option.bind_some, x1, Option.bind_some]
    exact ⟨κ, rfl, x2, x3⟩
def MLK (r : PR Vc) (τ : Sto) : Prop := (∀ m', r = .inl m' → (τ 133 26 = 0 ∧ τ 133 27 = -1) ∧ τ 134 = m') ∧ ∀ c q, r = .inr (c, q) → ME c q τ
theorem mlk_f {r : PR Vc} (e : r = .inr (c, q)) (h : ME c q τ) : MLK r τ := by
  subst e
  exact ⟨fun m1 c => (by cases c), fun c1 q1 c => (by cases c; exact h)⟩
theorem m_loop (hB : BY B L) (n : Nat) : ∀ (fu p : Nat) (m : Vc) (σ : Sto), L + 1 ≤ p + n → n < fu → MP B L p m σ → OKm m → Zr m → ∃ τ, fX7_readsAll_L71 fu σ = some τ ∧ FM σ τ ∧ MLK (gLp B L n m p) τ := by
  induction n with
  | zero =>
    intro fu p m σ h1 h2 h3
    have := h3.2.2.1
    omega
  | succ n ih =>
    intro fu p m σ h1 h2 h3 ok hz
    match fu, h2 with
    | fu + 1, h2 =>
      rw [fX7_readsAll_L71.eq_2, g_good h3, if_pos rfl, h3.2.1.2.2.1, gLp.eq_2]
      by_cases h0 : tkT B L p = 0
      · rw [if_pos (mT_0.2 h0), if_pos h0]
        exact ⟨σ, rfl, fm_refl, ⟨fun m1 c => (by cases c; exact h3.2.2.2), fun c1 q1 c => (by cases c)⟩⟩
      · rw [if_neg (fun x => h0 (mT_0.1 x)), if_neg h0]
        obtain ⟨τ1, f1, b1, o1⟩ := m_st hB h3 hz ok
        rw [f1, Option.bind_some]
        rcases e : gSS B L m p with ⟨m1, q1⟩ | ⟨c, q⟩
        · obtain ⟨x1, x2, x3, x4⟩ := gSS_ok hB ok hz h3.2.2.1 e
          obtain ⟨τ2, f2, b2, o2⟩ := ih fu q1 m1 τ1 (by omega) (by omega) (o1.1 m1 q1 e) x1 x2
          rw [pb_l]
          exact ⟨τ2, f2, fm_trans b1 b2, o2⟩
        · have me := o1.2 c q e
          match fu, h2 with
          | fu + 1, _ =>
            rw [pb_r]
            exact ⟨τ1, e_L71 me.2.1, b1, mlk_f rfl me⟩
theorem m_clears_L {a r : Int32} (n : Nat) : ∀ (i fu : Nat) (τ : Sto), i + n = 220 → n < fu → (∀ j, j < i → τ 134 j = 0) → Zr (τ 134) → ∃ ρ, fX7_clears_L2 a r fu (nI i) τ = some ρ ∧ ρ 134 = mNew a r ∧ ∀ p, p ≠ 134 → ρ p = τ p := by
  induction n with
  | zero =>
    intro i fu τ hi hf h0 hz
    match fu, hf with
    | fu + 1, _ =>
      have : i = 220 := by omega
      subst this
      rw [fX7_clears_L2.eq_2, if_pos (by decide), if_pos (by decide), klet_eq, if_pos (by decide), klet_eq, if_pos (by decide), klet_eq]
      refine ⟨_, rfl, ?_, fun p hp => by rw [su_k hp, su_k hp, su_k hp]⟩
      rw [su_v, su_v, su_v, z3, z1, z0]
      funext j
      unfold mNew
      by_cases j3 : j = 3
      · subst j3; rw [vset_eq]; rfl
      · rw [vset_ne j3]
        by_cases j1 : j = 1
        · subst j1; rw [vset_eq]; rfl
        · rw [vset_ne j1]
          by_cases j0 : j = 0
          · subst j0; rw [vset_eq]; rfl
          · rw [vset_ne j0, if_neg j0, if_neg j1, if_neg j3]
            by_cases hj : j < 220
            · exact h0 j hj
            · exact hz j (by omega)
  | succ n ih =>
    intro i fu τ hi hf h0 hz
    match fu, hf with
    | fu + 1, hf =>
      rw [fX7_clears_L2.eq_2, if_neg (show ¬ (220 : Int32) ≤ nI i by rw [show (220 : Int32) = nI 220 from rfl, dI_le (by omega) (by omega)]; omega), if_pos (kin_nI (by omega) (by decide)), klet_eq, nI_n (by omega), nI_add1]
      obtain ⟨ρ, e, g1, g2⟩ := ih (i + 1) fu (su τ 134 i 0) (by omega) (by omega) (fun j hj => by
        by_cases hji : j = i
        · subst hji; exact su_eq
        · rw [su_i hji]; exact h0 j (by omega)) (by rw [su_v]; exact zr_vset hz (by omega))
      exact ⟨ρ, e, g1, fun p hp => by rw [g2 p hp, su_k hp]⟩
theorem m_clears {a r : Int32} (hz : Zr (σ 134)) : ∃ ρ, fX7_clears a r σ = some ρ ∧ ρ 134 = mNew a r ∧ ∀ p, p ≠ 134 → ρ p = σ p :=
  m_clears_L 220 0 kFU σ (by omega) (by unfold kFU; omega) (fun j hj => absurd hj (by omega)) hz
theorem e_L35 (h : ¬ σ 133 26 = 0) {a : Int32} : fX7_readsAll_L35 a σ = some σ := by
  have hk : kFU = 3999999 + 1 := rfl
  unfold fX7_readsAll_L35
  rw [e_goesOn h, Option.bind_some, e_needs h, Option.bind_some, e_reads h, Option.bind_some, e_ends h, Option.bind_some, e_good h, if_neg Bool.false_ne_true, hk, e_L71 h]
theorem m_readsAll (hB : BY B L) (h : MP B L 0 m σ) (hz : Zr m) : ∃ τ, fX7_readsAll σ = some τ ∧ FM σ τ ∧ MLK (gAll B L) τ := by
  have hk : kFU = 3999999 + 1 := rfl
  have hL := h.1.1
  unfold fX7_readsAll gAll
  rcases e1 : gWd B L 0 0 with p1 | ⟨c, q⟩
  · obtain ⟨τ1, f1, a1, b1⟩ := m_wd_t hB h e1
    have f1' : fX7_needs 9 σ = some τ1 := f1
    rw [f1', Option.bind_some, pb_l]
    by_cases h2 : tkT B L p1 = 2
    · have en : gNu B L 0 1000 p1 = .inl (tkV B L p1, tkE B L p1) := by
        unfold gNu
        rw [if_pos h2, if_pos (isIn_iff.2 (tkV_r a1.2.2.1 hB h2))]
      rw [m_lk_t a1 en, Option.bind_some, g_good a1, if_pos rfl, if_pos h2]
      by_cases h3 : fX7_isAngle (tkV B L p1) = true
      · rw [if_pos h3, if_pos h3]
        unfold fX7_readsAll_L35
        obtain ⟨τ2, f2, a2, b2⟩ := m_goesOn hB a1
        rw [f2, Option.bind_some]
        rcases e3 : gWd B L 1 (tkE B L p1) with p3 | ⟨c, q⟩
        · obtain ⟨τ3, f3, a3, b3⟩ := m_wd_t hB a2 e3
          have f3' : fX7_needs 10 τ2 = some τ3 := f3
          rw [f3', Option.bind_some, pb_l]
          rcases e4 : gNu B L 1 6 p3 with ⟨v4, p4⟩ | ⟨c, q⟩
          · obtain ⟨τ4, f4, a4, b4⟩ := m_nu_t hB a3 e4
            obtain ⟨_, r4, _, _⟩ := gNu_f e4
            have hr : rOK v4 := isIn_iff.1 r4
            rw [f4, Option.bind_some, pb_l]
            have hF := fm_trans (fm_trans (fm_trans b1 b2) b3) b4
            show ∃ τ, _ ∧ _ ∧ MLK (pb (gTk B L 4 p4) fun p3 => gLp B L (L + 1) (mNew (tkV B L p1) v4) p3) τ
            rcases e6 : gTk B L 4 p4 with p6 | ⟨c, q⟩
            · obtain ⟨τ6, f6, a6, b6⟩ := m_en_t hB a4 e6
              obtain ⟨τ7, f7, k7, k7'⟩ := m_clears (a := tkV B L p1) (r := v4) (σ := τ6) (by rw [a6.2.2.2.2]; exact hz)
              have e133 : τ7 133 = τ6 133 := k7' 133 (by decide)
              have b7 : FM τ6 τ7 := ⟨fun q _ hq => k7' q hq, fun i _ => by rw [e133]⟩
              have a7 : MP B L p6 (mNew (tkV B L p1) v4) τ7 := by
                obtain ⟨x1, x2, x3, x4, x5⟩ := a6
                refine ⟨⟨x1.1, by rw [e133]; exact x1.2.1, fun i hi => by rw [k7' 149 (by decide)]; exact x1.2.2 i hi⟩, ?_, x3, by rw [e133]; exact x4, k7⟩
                unfold TKM
                rw [e133]
                exact x2
              rw [f6, Option.bind_some, g_good a6, if_pos rfl, f7, Option.bind_some, pb_l]
              obtain ⟨τ8, f8, b8, o8⟩ := m_loop hB (L + 1) kFU p6 (mNew (tkV B L p1) v4) τ7 (by omega) (by unfold kFU; omega) a7 (ok_new (angle_ok h3) hr) zr_new
              exact ⟨τ8, f8, fm_trans (fm_trans (fm_trans hF b6) b7) b8, o8⟩
            · obtain ⟨τ6, f6, a6, b6⟩ := m_en_f hB a4 hz e6
              rw [f6, Option.bind_some, e_good a6.2.1, if_neg Bool.false_ne_true, pb_r, hk]
              exact ⟨τ6, e_L71 a6.2.1, fm_trans hF b6, mlk_f rfl a6⟩
          · obtain ⟨ρ, f4, k1, k2⟩ := m_nu_f a3 hz e4
            rw [f4, Option.bind_some, e_ends k1.2.1, Option.bind_some, e_good k1.2.1, if_neg Bool.false_ne_true, pb_r, hk]
            exact ⟨ρ, e_L71 k1.2.1, fm_trans (fm_trans (fm_trans b1 b2) b3) k2, mlk_f rfl k1⟩
        · obtain ⟨ρ, f3, k1, k2⟩ := m_wd_f a2 hz e3
          have f3' : fX7_needs 10 τ2 = some ρ := f3
          rw [f3', Option.bind_some, e_reads k1.2.1, Option.bind_some, e_ends k1.2.1, Option.bind_some, e_good k1.2.1, if_neg Bool.false_ne_true, pb_r, hk]
          exact ⟨ρ, e_L71 k1.2.1, fm_trans (fm_trans b1 b2) k2, mlk_f rfl k1⟩
      · obtain ⟨ae, be⟩ := m_fails a1 hz (c := 2) (by decide)
        rw [if_neg h3, if_neg h3, Option.bind_some]
        exact ⟨_, e_L35 ae.2.1, fm_trans b1 be, mlk_f rfl ae⟩
    · have en : gNu B L 0 1000 p1 = .inr (1, tkS B L p1) := by
        unfold gNu
        rw [if_neg h2]
      obtain ⟨ρ, f2, k1, k2⟩ := m_lk_f a1 hz en
      rw [f2, Option.bind_some, e_good k1.2.1, if_neg Bool.false_ne_true, if_neg h2]
      exact ⟨ρ, e_L35 k1.2.1, fm_trans b1 k2, mlk_f rfl k1⟩
  · obtain ⟨ρ, f1, k1, k2⟩ := m_wd_f h hz e1
    have f1' : fX7_needs 9 σ = some ρ := f1
    rw [f1', Option.bind_some, e_looks k1.2.1, Option.bind_some, e_good k1.2.1, if_neg Bool.false_ne_true, pb_r]
    exact ⟨ρ, e_L35 k1.2.1, k2, mlk_f rfl k1⟩
end MST
