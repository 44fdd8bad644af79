section SU
variable {σ : Sto} {k i : Nat} {v : Int32}
theorem su_eq : su σ k i v k i = v := by unfold su; rw [if_pos rfl, if_pos rfl]
theorem su_k {p : Nat} (h : p ≠ k) : su σ k i v p = σ p := by funext j; unfold su; rw [if_neg h]
theorem su_i {j : Nat} (h : j ≠ i) : su σ k i v k j = σ k j := by unfold su; rw [if_pos rfl, if_neg h]
theorem su_at {j : Nat} : su σ k i v k j = if j = i then v else σ k j := by unfold su; rw [if_pos rfl]
theorem kcp_k {q0 q1 N p : Nat} (h : p ≠ q1) : kcp σ q0 q1 N p = σ p := by funext j; unfold kcp sur; rw [if_neg h]
theorem kcp_at {q0 q1 N j : Nat} (h : j < N) : kcp σ q0 q1 N q1 j = σ q0 j := by unfold kcp sur; rw [if_pos rfl]; exact if_pos h
end SU
def vset (m : Vc) (i : Nat) (v : Int32) : Vc := fun j => if j = i then v else m j
theorem su_v {σ : Sto} {k i : Nat} {v : Int32} : su σ k i v k = vset (σ k) i v := by funext j; unfold su vset; rw [if_pos rfl]
theorem vset_eq {m : Vc} {i : Nat} {v : Int32} : vset m i v i = v := by unfold vset; rw [if_pos rfl]
theorem vset_ne {m : Vc} {i j : Nat} {v : Int32} (h : j ≠ i) : vset m i v j = m j := by unfold vset; rw [if_neg h]
def mC (m : Vc) (k w : Nat) : Int32 := m (10 + 7 * k + w)
def mN (m : Vc) : Nat := (m 5).toNatClampNeg
def mD (m : Vc) : Nat := (m 2).toNatClampNeg
def mV (m : Vc) : Nat := (m 6).toNatClampNeg
def mCell (m : Vc) (k : Nat) : Int32 := if mC m k 6 = 1 then fX1_cellAt (mC m k 3) (mC m k 4) else -1
def mAt (m : Vc) (x y : Int32) (k : Nat) : Prop := mC m k 6 = 1 ∧ mC m k 3 = x ∧ mC m k 4 = y
noncomputable def mBdL (m : Vc) (x y : Int32) : Nat → Int32
  | 0 => -1
  | n + 1 => haveI := Classical.propDecidable (mAt m x y n)
             if mAt m x y n then nI n else mBdL m x y n
noncomputable def mBd (m : Vc) (x y : Int32) : Int32 := mBdL m x y (mN m)
def OKc (m : Vc) (k : Nat) : Prop := (mC m k 6 = 0 ∨ mC m k 6 = 1) ∧ (0 ≤ mC m k 0 ∧ mC m k 0 ≤ 3) ∧ (1 ≤ mC m k 1 ∧ mC m k 1 ≤ 9) ∧ (1 ≤ mC m k 2 ∧ mC m k 2 ≤ 9) ∧ (mC m k 6 = 1 → gBox (m 0) (m 1) (mC m k 3) (mC m k 4) = true)
def OKm (m : Vc) : Prop :=
  gAng (m 0) ∧ rOK (m 1) ∧ (m 2 = nI (mD m) ∧ mD m < gDirs (m 0)) ∧ (1 ≤ m 3 ∧ m 3 ≤ 100) ∧ (m 5 = nI (mN m) ∧ mN m ≤ 30) ∧ (m 6 = nI (mV m) ∧ mV m < 4) ∧
  (∀ k, k < mN m → OKc m k) ∧ ∀ k j, k < mN m → j < mN m → mC m k 6 = 1 → mC m j 6 = 1 → mC m k 3 = mC m j 3 → mC m k 4 = mC m j 4 → k = j
theorem mBdL_cases (m : Vc) (x y : Int32) (n : Nat) : (mBdL m x y n = -1 ∧ ∀ k, k < n → ¬ mAt m x y k) ∨ ∃ k, k < n ∧ mAt m x y k ∧ mBdL m x y n = nI k := by
  induction n with
  | zero => exact .inl ⟨rfl, fun k hk => absurd hk (by omega)⟩
  | succ n ih =>
    unfold mBdL
    by_cases h : mAt m x y n
    · rw [if_pos h]
      exact .inr ⟨n, by omega, h, rfl⟩
    · rw [if_neg h]
      rcases ih with ⟨h1, h2⟩ | ⟨k, h1, h2, h3⟩
      · refine .inl ⟨h1, fun k hk => ?_⟩
        by_cases e : k = n
        · subst e; exact h
        · exact h2 k (by omega)
      · exact .inr ⟨k, by omega, h2, h3⟩
theorem mBd_cases (m : Vc) (x y : Int32) : (mBd m x y = -1 ∧ ∀ k, k < mN m → ¬ mAt m x y k) ∨ ∃ k, k < mN m ∧ mAt m x y k ∧ mBd m x y = nI k := mBdL_cases m x y _
theorem ok_uniq {m : Vc} (ok : OKm m) {x y : Int32} {k j : Nat} (hk : k < mN m) (hj : j < mN m) (h1 : mAt m x y k) (h2 : mAt m x y j) : k = j :=
  ok.2.2.2.2.2.2.2 k j hk hj h1.1 h2.1 (by rw [h1.2.1, h2.2.1]) (by rw [h1.2.2, h2.2.2])
theorem mBd_of {m : Vc} (ok : OKm m) {x y : Int32} {k : Nat} (hk : k < mN m) (h : mAt m x y k) : mBd m x y = nI k := by
  rcases mBd_cases m x y with ⟨_, h2⟩ | ⟨j, h1, h2, h3⟩
  · exact absurd h (h2 k hk)
  · rw [h3, ok_uniq ok hk h1 h h2]
theorem mBd_no {m : Vc} {x y : Int32} (h : ∀ k, k < mN m → ¬ mAt m x y k) : mBd m x y = -1 := by
  rcases mBd_cases m x y with ⟨h1, _⟩ | ⟨j, h1, h2, h3⟩
  · exact h1
  · exact absurd h2 (h j h1)
def BX (σ : Sto) (b : Nat) (m : Vc) : Prop :=
  LX σ (b + 1) (m 0) (m 1) ∧ (σ b 1 = m 2 ∧ σ b 2 = m 3 ∧ σ b 3 = m 4 ∧ σ b 4 = m 6 ∧ σ b 5 = m 7 ∧ σ b 6 = m 8 ∧ σ b 7 = m 9 ∧ σ b 8 = m 5) ∧
  (∀ k, k < mN m → σ (b + 3) k = mC m k 0 ∧ σ (b + 4) k = mC m k 1 ∧ σ (b + 5) k = mC m k 2 ∧ σ (b + 6) k = mCell m k ∧ σ (b + 7) k = mC m k 5) ∧
  ∀ c, c < 225 → σ (b + 8) c = mBd m (cx c) (cy c)
theorem bx_frame {σ τ : Sto} {b : Nat} {m : Vc} (h : BX σ b m) (hf : ∀ p, b ≤ p → p ≤ b + 8 → τ p = σ p) : BX τ b m := by
  obtain ⟨⟨h1, h2⟩, h3, h4, h5⟩ := h
  refine ⟨⟨?_, fun c hc => ?_⟩, ?_, fun k hk => ?_, fun c hc => ?_⟩
  · rw [hf (b + 1) (by omega) (by omega)]; exact h1
  · rw [hf (b + 1 + 1) (by omega) (by omega)]; exact h2 c hc
  · rw [hf b (by omega) (by omega)]; exact h3
  · rw [hf (b + 3) (by omega) (by omega), hf (b + 4) (by omega) (by omega), hf (b + 5) (by omega) (by omega), hf (b + 6) (by omega) (by omega), hf (b + 7) (by omega) (by omega)]
    exact h4 k hk
  · rw [hf (b + 8) (by omega) (by omega)]; exact h5 c hc
section CLASS2
variable {σ : Sto}
theorem c_layCopy {q0 q1 : Nat} (hq : q0 ≠ q1 ∧ q0 ≠ q1 + 1 ∧ q0 + 1 ≠ q1 ∧ q0 + 1 ≠ q1 + 1) {a r : Int32} (hl : LX σ q1 a r) : ∃ τ, fX1_copyFrom q0 q1 σ = some τ ∧ LX τ q0 a r ∧ ∀ p, p ≠ q0 → p ≠ q0 + 1 → τ p = σ p := by
  unfold fX1_copyFrom
  simp only [klet_eq]
  obtain ⟨h1, h2, h3, h4⟩ := hq
  have e2 : (su (su σ q0 0 (σ q1 0)) q0 1 (su σ q0 0 (σ q1 0) q1 1)) q1 = σ q1 := by
    rw [su_k (Ne.symm h1), su_k (Ne.symm h1)]
  rw [e2]
  rw [if_pos (by rw [hl.1.2.2]; cases gHex a <;> decide)]
  refine ⟨_, rfl, ⟨⟨?_, ?_, ?_⟩, fun c hc => ?_⟩, fun p hp hp1 => ?_⟩
  · rw [kcp_k (by omega), su_i (by decide), su_i (by decide), su_eq]
    exact hl.1.1
  · rw [kcp_k (by omega), su_i (by decide), su_eq, su_k (Ne.symm h1)]
    exact hl.1.2.1
  · rw [kcp_k (by omega), su_eq]
    exact hl.1.2.2
  · rw [kcp_at hc, su_k (by omega), su_k (by omega), su_k (by omega)]
    exact hl.2 c hc
  · rw [kcp_k hp1, su_k hp, su_k hp, su_k hp]
theorem c_copy {b0 b1 : Nat} (hb : b0 + 9 ≤ b1 ∨ b1 + 9 ≤ b0) {m : Vc} (ok : OKm m) (h : BX σ b1 m) : ∃ τ, fX5_copyFrom b0 b1 σ = some τ ∧ BX τ b0 m ∧ ∀ p, (p < b0 ∨ b0 + 8 < p) → τ p = σ p := by
  obtain ⟨hl, h3, h4, h5⟩ := h
  obtain ⟨τ, e, hl', hf⟩ := c_layCopy (q0 := b0 + 1) (q1 := b1 + 1) (by omega) hl
  unfold fX5_copyFrom
  rw [e]
  simp only [klet_eq, Option.bind_some]
  have hn : mN m ≤ 30 := ok.2.2.2.2.1.2
  refine ⟨_, rfl, ⟨⟨?_, fun c hc => ?_⟩, ?_, fun k hk => ?_, fun c hc => ?_⟩, fun p hp => ?_⟩
  · simp only [kcp_k (show b0 + 1 ≠ b0 + 3 by omega), kcp_k (show b0 + 1 ≠ b0 + 4 by omega), kcp_k (show b0 + 1 ≠ b0 + 5 by omega), kcp_k (show b0 + 1 ≠ b0 + 6 by omega), kcp_k (show b0 + 1 ≠ b0 + 7 by omega), kcp_k (show b0 + 1 ≠ b0 + 8 by omega), su_k (show b0 + 1 ≠ b0 by omega)]
    exact hl'.1
  · simp only [kcp_k (show b0 + 1 + 1 ≠ b0 + 3 by omega), kcp_k (show b0 + 1 + 1 ≠ b0 + 4 by omega), kcp_k (show b0 + 1 + 1 ≠ b0 + 5 by omega), kcp_k (show b0 + 1 + 1 ≠ b0 + 6 by omega), kcp_k (show b0 + 1 + 1 ≠ b0 + 7 by omega), kcp_k (show b0 + 1 + 1 ≠ b0 + 8 by omega), su_k (show b0 + 1 + 1 ≠ b0 by omega)]
    exact hl'.2 c hc
  · have hb1 : τ b1 = σ b1 := hf b1 (by omega) (by omega)
    simp only [kcp_k (show b0 ≠ b0 + 3 by omega), kcp_k (show b0 ≠ b0 + 4 by omega), kcp_k (show b0 ≠ b0 + 5 by omega), kcp_k (show b0 ≠ b0 + 6 by omega), kcp_k (show b0 ≠ b0 + 7 by omega), kcp_k (show b0 ≠ b0 + 8 by omega), su_k (show b1 ≠ b0 by omega), hb1, su_at]
    exact h3
  · have e3 : τ (b1 + 3) = σ (b1 + 3) := hf _ (by omega) (by omega)
    have e4 : τ (b1 + 4) = σ (b1 + 4) := hf _ (by omega) (by omega)
    have e5 : τ (b1 + 5) = σ (b1 + 5) := hf _ (by omega) (by omega)
    have e6 : τ (b1 + 6) = σ (b1 + 6) := hf _ (by omega) (by omega)
    have e7 : τ (b1 + 7) = σ (b1 + 7) := hf _ (by omega) (by omega)
    have hk3 : k < 30 := by omega
    refine ⟨?_, ?_, ?_, ?_, ?_⟩
    · rw [kcp_k (by omega), kcp_k (by omega), kcp_k (by omega), kcp_k (by omega), kcp_k (by omega), kcp_at hk3]
      simp only [su_k (show b1 + 3 ≠ b0 by omega), e3]
      exact (h4 k hk).1
    · rw [kcp_k (by omega), kcp_k (by omega), kcp_k (by omega), kcp_k (by omega), kcp_at hk3, kcp_k (by omega)]
      simp only [su_k (show b1 + 4 ≠ b0 by omega), e4]
      exact (h4 k hk).2.1
    · rw [kcp_k (by omega), kcp_k (by omega), kcp_k (by omega), kcp_at hk3, kcp_k (by omega), kcp_k (by omega)]
      simp only [su_k (show b1 + 5 ≠ b0 by omega), e5]
      exact (h4 k hk).2.2.1
    · rw [kcp_k (by omega), kcp_k (by omega), kcp_at hk3, kcp_k (by omega), kcp_k (by omega), kcp_k (by omega)]
      simp only [su_k (show b1 + 6 ≠ b0 by omega), e6]
      exact (h4 k hk).2.2.2.1
    · rw [kcp_k (by omega), kcp_at hk3, kcp_k (by omega), kcp_k (by omega), kcp_k (by omega), kcp_k (by omega)]
      simp only [su_k (show b1 + 7 ≠ b0 by omega), e7]
      exact (h4 k hk).2.2.2.2
  · have e8 : τ (b1 + 8) = σ (b1 + 8) := hf _ (by omega) (by omega)
    rw [kcp_at hc, kcp_k (by omega), kcp_k (by omega), kcp_k (by omega), kcp_k (by omega), kcp_k (by omega)]
    simp only [su_k (show b1 + 8 ≠ b0 by omega), e8]
    exact h5 c hc
  · rw [kcp_k (by omega), kcp_k (by omega), kcp_k (by omega), kcp_k (by omega), kcp_k (by omega), kcp_k (by omega)]
    simp only [su_k (show p ≠ b0 by omega)]
    exact hf p (by omega) (by omega)
end CLASS2
section CLASS3
variable {σ : Sto} {b : Nat} {m : Vc}
theorem came_le (ok : OKm m) : mN m ≤ 30 := ok.2.2.2.2.1.2
theorem came_eq (ok : OKm m) : m 5 = nI (mN m) := ok.2.2.2.2.1.1
theorem bx8 (h : BX σ b m) : σ b 8 = m 5 := h.2.1.2.2.2.2.2.2.2
theorem c_isChip (ok : OKm m) (h : BX σ b m) {k : Nat} (hk : k < 2147483648) : fX5_isChip b (nI k) σ = decide (k < mN m) := by
  have h1 := came_le ok
  unfold fX5_isChip
  rw [bx8 h, came_eq ok]
  have e0 : ¬ (nI k < 0) := by
    rw [show (0 : Int32) = nI 0 from rfl, dI_lt hk (by omega)]
    omega
  have e1 : nI (mN m) ≤ nI k ↔ mN m ≤ k := dI_le (by omega) hk
  have e2 : (30 : Int32) ≤ nI k ↔ 30 ≤ k := dI_le (a := 30) (by omega) hk
  rw [if_neg e0]
  by_cases hk' : k < mN m
  · rw [if_neg (by rw [e1]; omega), if_neg (by rw [e2]; omega)]
    simp [hk']
  · rw [if_pos (by rw [e1]; omega)]
    simp [hk']
theorem c_isChip_no (h : BX σ b m) : fX5_isChip b (-1) σ = false := rfl
theorem c_kindOf (ok : OKm m) (h : BX σ b m) {k : Nat} (hk : k < mN m) : fX5_kindOf b (nI k) σ = some (mC m k 0) := by
  have h1 := came_le ok
  unfold fX5_kindOf
  rw [c_isChip ok h (by omega), if_pos (by simp [hk]), if_pos (kin_nI (by omega) (by decide)), nI_n (by omega), (h.2.2.1 k hk).1]
theorem c_colourOf (ok : OKm m) (h : BX σ b m) {k : Nat} (hk : k < mN m) : fX5_colourOf b (nI k) σ = some (mC m k 1) := by
  have h1 := came_le ok
  unfold fX5_colourOf
  rw [c_isChip ok h (by omega), if_pos (by simp [hk]), if_pos (kin_nI (by omega) (by decide)), nI_n (by omega), (h.2.2.1 k hk).2.1]
theorem c_weightOf (ok : OKm m) (h : BX σ b m) {k : Nat} (hk : k < mN m) : fX5_weightOf b (nI k) σ = some (mC m k 2) := by
  have h1 := came_le ok
  unfold fX5_weightOf
  rw [c_isChip ok h (by omega), if_pos (by simp [hk]), if_pos (kin_nI (by omega) (by decide)), nI_n (by omega), (h.2.2.1 k hk).2.2.1]
theorem c_cellOf (ok : OKm m) (h : BX σ b m) {k : Nat} (hk : k < mN m) : fX5_cellOf b (nI k) σ = some (mCell m k) := by
  have h1 := came_le ok
  unfold fX5_cellOf
  rw [c_isChip ok h (by omega), if_pos (by simp [hk]), if_pos (kin_nI (by omega) (by decide)), nI_n (by omega), (h.2.2.1 k hk).2.2.2.1]
theorem c_ownMovesOf (ok : OKm m) (h : BX σ b m) {k : Nat} (hk : k < mN m) : fX5_ownMovesOf b (nI k) σ = some (mC m k 5) := by
  have h1 := came_le ok
  unfold fX5_ownMovesOf
  rw [c_isChip ok h (by omega), if_pos (by simp [hk]), if_pos (kin_nI (by omega) (by decide)), nI_n (by omega), (h.2.2.1 k hk).2.2.2.2]
theorem c_chipOn (h : BX σ b m) {x y : Int32} (hR : inR x y) : fX5_chipOn b (fX1_cellAt x y) σ = some (mBd m x y) := by
  unfold fX5_chipOn
  rw [if_pos (cell_is hR), if_pos (cell_kin hR)]
  have := h.2.2.2 (ci x y) (ci_lt hR)
  rw [cx_ci hR, cy_ci hR] at this
  rw [← this]
  rfl
theorem c_chipOn_no : fX5_chipOn b (-1) σ = some (-1) := rfl
theorem c_kindOf_no : fX5_kindOf b (-1) σ = some (-1) := rfl
theorem c_colourOf_no : fX5_colourOf b (-1) σ = some 0 := rfl
theorem ok_chip (ok : OKm m) {k : Nat} (hk : k < mN m) : OKc m k := ok.2.2.2.2.2.2.1 k hk
theorem ok_near (ok : OKm m) {k : Nat} (hk : k < mN m) (h : mC m k 6 = 1) : gNear (m 0) (m 1) (mC m k 3) (mC m k 4) = true := box_near ((ok_chip ok hk).2.2.2.2 h)
theorem ok_in (ok : OKm m) {k : Nat} (hk : k < mN m) (h : mC m k 6 = 1) : inR (mC m k 3) (mC m k 4) := near_R ok.2.1 (ok_near ok hk h)
theorem mCell_no (ok : OKm m) {k : Nat} (hk : k < mN m) : mCell m k = -1 ↔ ¬ mC m k 6 = 1 := by
  unfold mCell
  by_cases h : mC m k 6 = 1
  · rw [if_pos h]
    simp only [h, not_true, iff_false]
    exact cell_ne1 (ok_in ok hk h)
  · rw [if_neg h]
    simp [h]
end CLASS3
section MODEL2
variable {σ : Sto}
theorem m_idx {k w : Nat} (hk : k < 30) (hw : w < 7) : (10 + 7 * nI k) + nI w = nI (10 + 7 * k + w) := by
  unfold nI
  rw [Int32.ofNat_add, Int32.ofNat_add, Int32.ofNat_mul]
  rfl
theorem m_c {k w : Nat} (hk : k < 30) (hw : w < 7) {W : Int32} (hW : W = nI w) : fX7_c (nI k) W σ = some (mC (σ 134) k w) := by
  subst hW
  unfold fX7_c
  rw [m_idx hk hw, if_pos (kin_nI (by omega) (by decide)), nI_n (by omega)]
  rfl
theorem m_puts {k w : Nat} (hk : k < 30) (hw : w < 7) {W v : Int32} (hW : W = nI w) : fX7_puts (nI k) W v σ = some (su σ 134 (10 + 7 * k + w) v) := by
  subst hW
  unfold fX7_puts
  rw [m_idx hk hw, if_pos (kin_nI (by omega) (by decide)), nI_n (by omega)]
  rfl
theorem m_isInside {k : Nat} (hk : k < 30) : fX7_isInside (nI k) σ = some (decide (mC (σ 134) k 6 = 1)) := by
  unfold fX7_isInside
  rw [m_c hk (w := 6) (by decide) (W := 6) rfl, Option.bind_some]
  by_cases h : mC (σ 134) k 6 = 1 <;> simp [h]
theorem m_chipNow_L {x y : Int32} (h5 : σ 134 5 = nI (mN (σ 134))) (hn : mN (σ 134) ≤ 30) (n : Nat) : ∀ (i fu : Nat), i + n = mN (σ 134) → n < fu →
    fX7_chipNow_L5 x y fu (mBdL (σ 134) x y i) (nI i) σ = some (mBd (σ 134) x y) := by
  induction n with
  | zero =>
    intro i fu hi hf
    match fu, hf with
    | fu + 1, _ =>
      unfold fX7_chipNow_L5
      simp only [w5, z5, if_true, h5]
      rw [if_pos ((dI_le (by omega) (by omega)).2 (by omega))]
      unfold mBd
      rw [← hi]
      rfl
  | succ n ih =>
    intro i fu hi hf
    match fu, hf with
    | fu + 1, hf =>
      unfold fX7_chipNow_L5
      simp only [w5, z5, if_true, h5]
      rw [if_neg (by rw [dI_le (by omega) (by omega)]; omega), m_isInside (by omega)]
      simp only [Option.bind_some, m_c (show i < 30 by omega) (w := 3) (by decide) (W := 3) rfl, m_c (show i < 30 by omega) (w := 4) (by decide) (W := 4) rfl, fX7_chipNow_L52, fX7_chipNow_L53, nI_add1]
      have hih := ih (i + 1) fu (by omega) (by omega)
      unfold mBdL at hih
      by_cases h6 : mC (σ 134) i 6 = 1
      · by_cases hx : mC (σ 134) i 3 = x
        · by_cases hy : mC (σ 134) i 4 = y
          · rw [if_pos ⟨h6, hx, hy⟩] at hih
            simp only [h6, hx, hy, decide_true, if_true]
            exact hih
          · rw [if_neg (fun c => hy c.2.2)] at hih
            simp only [h6, hx, hy, decide_true, if_true, if_false]
            exact hih
        · rw [if_neg (fun c => hx c.2.1)] at hih
          simp only [h6, hx, decide_true, if_true, if_false]
          exact hih
      · rw [if_neg (fun c => h6 c.1)] at hih
        simp only [h6, decide_false, if_false, Bool.false_eq_true]
        exact hih
theorem m_chipNow {x y : Int32} (h5 : σ 134 5 = nI (mN (σ 134))) (hn : mN (σ 134) ≤ 30) : fX7_chipNow x y σ = some (mBd (σ 134) x y) :=
  m_chipNow_L h5 hn (mN (σ 134)) 0 kFU (by omega) (by unfold kFU; omega)
end MODEL2
