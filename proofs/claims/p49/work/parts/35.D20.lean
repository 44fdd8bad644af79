section TK
variable {σ : Sto} {b q0 : Nat} {m : Vc}
def FQ (b q0 : Nat) (σ τ : Sto) : Prop := ∀ p, (p < b ∨ b + 8 < p) → p ≠ q0 → p ≠ q0 + 1 → τ p = σ p
theorem fq_refl : FQ b q0 σ σ := fun _ _ _ _ => rfl
theorem fq_trans {τ ρ : Sto} (h : FQ b q0 σ τ) (h' : FQ b q0 τ ρ) : FQ b q0 σ ρ := fun p a c d => by rw [h' p a c d, h p a c d]
theorem fq_fb {τ : Sto} (h : FB b σ τ) : FQ b q0 σ τ := fun p a _ _ => h p a
theorem ord_kind {m : Vc} : ∀ k, k ∈ mOrd m false → ¬ mC m k 0 = 2 := by
  intro k hk c
  have := (ordL_mem m false _ k hk).2
  unfold sel at this
  rw [c, if_neg Bool.false_ne_true, Bool.and_eq_true] at this
  exact absurd this.2 (by decide)
def LNT (q0 i : Nat) (t : List Nat) (τ : Sto) : Prop := τ q0 1 = nI (i + t.length) ∧ i + t.length ≤ 30 ∧ ∀ j, j < t.length → krem (τ (q0 + 1) (i + j)) 32 = nI (t.getD j 0)
theorem lnt_tl {i k : Nat} {t : List Nat} {τ : Sto} (h : LNT q0 i (k :: t) τ) : LNT q0 (i + 1) t τ := by
  obtain ⟨h1, h2, h3⟩ := h
  rw [List.length_cons] at h1 h2
  refine ⟨by rw [h1]; congr 1; omega, by omega, fun j hj => ?_⟩
  have := h3 (j + 1) (by rw [List.length_cons]; omega)
  rw [show i + (j + 1) = i + 1 + j by omega] at this
  exact this
theorem lnt_fb {i : Nat} {t : List Nat} {τ ρ : Sto} (hq : q0 + 1 < b ∨ b + 8 < q0) (h : LNT q0 i t τ) (hf : FB b τ ρ) : LNT q0 i t ρ := by
  unfold LNT
  rw [hf q0 (by omega), hf (q0 + 1) (by omega)]
  exact h
theorem c_falls (hq : q0 + 1 < b ∨ b + 8 < q0) {v2 : Int32} (t : List Nat) : ∀ (i fu : Nat) (m : Vc) (τ : Sto), t.length < fu → BX τ b m → OKm m → Inb m t → (∀ k, k ∈ t → ¬ mC m k 0 = 2) → LNT q0 i t τ →
    ∃ ρ, fX0_makeTick_L13 q0 b fu v2 (nI i) τ = fX0_makeTick_L46 q0 b v2 ρ ∧ BX ρ b (mPh mFall t m).2 ∧ FB b τ ρ := by
  induction t with
  | nil =>
    intro i fu m τ hf hB ok hI hk hL
    match fu, hf with
    | fu + 1, _ =>
      rw [fX0_makeTick_L13.eq_2, hL.1, if_pos (by simp)]
      exact ⟨τ, rfl, hB, fb_refl⟩
  | cons k t ih =>
    intro i fu m τ hf hB ok hI hk hL
    match fu, hf with
    | fu + 1, hf =>
      have h30 := hL.2.1
      rw [List.length_cons] at h30 hf
      have hk0 := hI k List.mem_cons_self
      have hr := hL.2.2 0 (by simp)
      rw [show i + 0 = i from rfl] at hr
      rw [fX0_makeTick_L13.eq_2, hL.1, List.length_cons, if_neg (by rw [dI_le (by omega) (by omega)]; omega), if_neg (show ¬ (30 : Int32) ≤ nI i from fun c => by have := (dI_le (a := 30) (by omega) (by omega)).1 c; omega), if_pos (kin_nI (show i < 30 by omega) (by decide)), nI_n (by omega), hr]
      obtain ⟨τ1, q1, q2, q3⟩ := c_fall ok hB hk0.1 hk0.2 (hk k List.mem_cons_self)
      have q1' : fX0_tryToFall b (nI ((k :: t).getD 0 0)) τ = some τ1 := q1
      rw [q1', Option.bind_some, nI_add1]
      have f := fall_facts ok hk0.1 hk0.2
      obtain ⟨ρ, e, g1, g2⟩ := ih (i + 1) fu (mFall m k).2 τ1 (by omega) q2 f.1 (inb_same (inb_tl hI) f.2.1 f.2.2.1) (fun j hj => by rw [f.2.2.1 j 0 (by omega)]; exact hk j (List.mem_cons_of_mem _ hj)) (lnt_fb hq (lnt_tl hL) q3)
      exact ⟨ρ, e, g1, fb_trans q3 g2⟩
theorem c_rises (hq : q0 + 1 < b ∨ b + 8 < q0) {v2 : Int32} (t : List Nat) : ∀ (i fu : Nat) (m : Vc) (τ : Sto), t.length < fu → BX τ b m → OKm m → Inb m t → LNT q0 i t τ →
    ∃ ρ, fX0_makeTick_L54 q0 b fu v2 (nI i) τ = fX0_makeTick_L87 q0 b v2 ρ ∧ BX ρ b (mPh mRise t m).2 ∧ FB b τ ρ := by
  induction t with
  | nil =>
    intro i fu m τ hf hB ok hI hL
    match fu, hf with
    | fu + 1, _ =>
      rw [fX0_makeTick_L54.eq_2, hL.1, if_pos (by simp)]
      exact ⟨τ, rfl, hB, fb_refl⟩
  | cons k t ih =>
    intro i fu m τ hf hB ok hI hL
    match fu, hf with
    | fu + 1, hf =>
      have h30 := hL.2.1
      rw [List.length_cons] at h30 hf
      have hk0 := hI k List.mem_cons_self
      have hr := hL.2.2 0 (by simp)
      rw [show i + 0 = i from rfl] at hr
      rw [fX0_makeTick_L54.eq_2, hL.1, List.length_cons, if_neg (by rw [dI_le (by omega) (by omega)]; omega), if_neg (show ¬ (30 : Int32) ≤ nI i from fun c => by have := (dI_le (a := 30) (by omega) (by omega)).1 c; omega), if_pos (kin_nI (show i < 30 by omega) (by decide)), nI_n (by omega), hr]
      obtain ⟨τ1, q1, q2, q3⟩ := c_rise ok hB hk0.1 hk0.2
      have q1' : fX0_tryToRise b (nI ((k :: t).getD 0 0)) τ = some τ1 := q1
      rw [q1', Option.bind_some, nI_add1]
      have f := rise_facts ok hk0.1 hk0.2
      obtain ⟨ρ, e, g1, g2⟩ := ih (i + 1) fu (mRise m k).2 τ1 (by omega) q2 f.1 (inb_same (inb_tl hI) f.2.1 f.2.2.1) (lnt_fb hq (lnt_tl hL) q3)
      exact ⟨ρ, e, g1, fb_trans q3 g2⟩
theorem bx_tick (h : BX σ b m) : BX (su σ b 3 (σ b 3 + 1)) b (vset m 4 (m 4 + 1)) := by
  obtain ⟨h1, h2, h3, h4⟩ := h
  refine ⟨⟨?_, fun c hc => ?_⟩, ?_, fun j hj => ?_, fun c hc => ?_⟩
  · rw [su_k (by omega), vset_ne (by decide), vset_ne (by decide)]; exact h1.1
  · rw [su_k (by omega), vset_ne (by decide), vset_ne (by decide)]; exact h1.2 c hc
  · rw [vset_ne (show 2 ≠ 4 by decide), vset_ne (show 3 ≠ 4 by decide), vset_eq, vset_ne (show 6 ≠ 4 by decide), vset_ne (show 7 ≠ 4 by decide), vset_ne (show 8 ≠ 4 by decide), vset_ne (show 9 ≠ 4 by decide), vset_ne (show 5 ≠ 4 by decide), su_i (show 1 ≠ 3 by decide), su_i (show 2 ≠ 3 by decide), su_eq, su_i (show 4 ≠ 3 by decide), su_i (show 5 ≠ 3 by decide), su_i (show 6 ≠ 3 by decide), su_i (show 7 ≠ 3 by decide), su_i (show 8 ≠ 3 by decide)]
    exact ⟨h2.1, h2.2.1, by rw [h2.2.2.1], h2.2.2.2.1, h2.2.2.2.2.1, h2.2.2.2.2.2.1, h2.2.2.2.2.2.2.1, h2.2.2.2.2.2.2.2⟩
  · rw [mN_vset (by decide)] at hj
    rw [su_k (by omega), su_k (by omega), su_k (by omega), su_k (by omega), su_k (by omega), mC_vset (by decide), mC_vset (by decide), mC_vset (by decide), mC_vset (by decide)]
    unfold mCell
    rw [mC_vset (by decide), mC_vset (by decide), mC_vset (by decide)]
    exact h3 j hj
  · rw [su_k (by omega), bd_vset (by decide) (by decide)]
    exact h4 c hc
theorem lnt_of (ok : OKm m) {bub : Bool} {τ : Sto} (h : LNE q0 (fun k => nI (rkN m bub k)) (mOrd m bub) τ) : LNT q0 0 (mOrd m bub) τ := by
  have hl := ordL_len m bub (mN m)
  have hn := came_le ok
  refine ⟨by rw [Nat.zero_add]; exact h.1, by unfold mOrd; omega, fun j hj => ?_⟩
  rw [Nat.zero_add, h.2 j hj]
  have hm := ord_inb m bub _ (getD_mem hj)
  rw [krem32 _ (rk_lt ok hm.1 hm.2), rk_mod ok hm.1]
noncomputable def mTk (m : Vc) : Vc := haveI := Classical.propDecidable (mTkN m = 0); if mTkN m = 0 then m else mTkV m
theorem c_tick (ok : OKm m) (hq : q0 + 1 < b ∨ b + 8 < q0) (h : BX σ b m) : ∃ ρ, fX0_makeTick q0 b σ = some (nI (mTkN m), ρ) ∧ BX ρ b (mTk m) ∧ FQ b q0 σ ρ := by
  have hn := came_le ok
  unfold fX0_makeTick
  obtain ⟨τ1, e1, a1, a2, a3⟩ := c_lineUp ok hq (bub := false) h
  have e1' : fX0_lineUp q0 b 0 σ = some τ1 := e1
  have hl1 := ordL_len m false (mN m)
  rw [e1', Option.bind_some]
  obtain ⟨τ2, e2, b1, b2⟩ := c_falls hq (v2 := σ b 5) (mOrd m false) 0 kFU m τ1 (by unfold kFU mOrd; omega) a1 ok (ord_inb m false) ord_kind (lnt_of ok a2)
  rw [show (0 : Int32) = nI 0 from rfl, e2]
  unfold fX0_makeTick_L46
  have f1 := p1_facts ok
  obtain ⟨τ3, e3, c1, c2, c3⟩ := c_lineUp f1.1 hq (bub := true) b1
  have e3' : fX0_lineUp q0 b 1 τ2 = some τ3 := e3
  have hl2 := ordL_len (mP1 m).2 true (mN (mP1 m).2)
  have hn2 := came_le f1.1
  rw [e3', Option.bind_some]
  obtain ⟨τ4, e4, d1, d2⟩ := c_rises hq (v2 := σ b 5) (mOrd (mP1 m).2 true) 0 kFU (mP1 m).2 τ3 (by unfold kFU mOrd; omega) c1 f1.1 (ord_inb _ true) (lnt_of f1.1 c2)
  rw [show (0 : Int32) = nI 0 from rfl, e4]
  have d1' : BX τ4 b (mP2 m).2 := d1
  have hfr : FQ b q0 σ τ4 := by
    intro p p1 p2 p3
    rw [d2 p p1, c3 p p2 p3, b2 p p1, a3 p p2 p3]
  unfold fX0_makeTick_L87
  have e7 : τ4 b 5 - σ b 5 = nI (mTkN m) := by rw [bx5 d1', bx5 h]; exact tk_7 ok
  have hle := tkN_le ok
  rw [e7]
  unfold mTk
  by_cases h0 : mTkN m = 0
  · rw [if_pos (by rw [h0]; decide), if_pos h0]
    have := tk_0 ok h0
    rw [this] at d1'
    exact ⟨τ4, rfl, d1', hfr⟩
  · rw [if_neg (show ¬ nI (mTkN m) ≤ (0 : Int32) by rw [show (0 : Int32) = nI 0 from rfl, dI_le (by omega) (by omega)]; omega), if_neg h0, klet_eq]
    exact ⟨_, rfl, bx_tick d1', fun p p1 p2 p3 => by rw [su_k (by omega), hfr p p1 p2 p3]⟩
end TK
section TM
variable {σ : Sto} {m : Vc}
def LNU (i : Nat) (t : List Nat) (τ : Sto) : Prop := τ 133 18 = nI (i + t.length) ∧ i + t.length ≤ 30 ∧ ∀ j, j < t.length → τ 146 (i + j) = nI (t.getD j 0)
theorem lnu_tl {i k : Nat} {t : List Nat} {τ : Sto} (h : LNU i (k :: t) τ) : LNU (i + 1) t τ := by
  obtain ⟨h1, h2, h3⟩ := h
  rw [List.length_cons] at h1 h2
  refine ⟨by rw [h1]; congr 1; omega, by omega, fun j hj => ?_⟩
  have := h3 (j + 1) (by rw [List.length_cons]; omega)
  rw [show i + (j + 1) = i + 1 + j by omega] at this
  exact this
theorem lnu_42 {i : Nat} {t : List Nat} {τ ρ : Sto} (h : LNU i t τ) (hf : F42 τ ρ) : LNU i t ρ := by
  unfold LNU
  rw [hf 133 (by decide) (by decide), hf 146 (by decide) (by decide)]
  exact h
theorem bit_if (b : Bool) (w : Int32) (n : Nat) : (w + fX7_bit (kb b)) + nI n = w + nI (n + (if b = true then 1 else 0)) := by
  cases b
  · rw [if_neg Bool.false_ne_true]
    show (w + 0) + nI n = _
    rw [add0]
    rfl
  · rw [if_pos rfl]
    show (w + 1) + nI n = _
    rw [← nI_add1]
    grind
theorem m_fallsL (t : List Nat) : ∀ (i fu : Nat) (m : Vc) (τ : Sto) (v : Int32), t.length < fu → MOK m τ → OKm m → Inb m t → LNU i t τ →
    ∃ ρ, fX7_ticksOnce_L13 fu v (nI i) τ = ((fX7_arranges 1 ρ).bind fun r7 => fX7_ticksOnce_L50 kFU (v + nI (mPh mFall t m).1) 0 r7) ∧ MOK (mPh mFall t m).2 ρ ∧ F42 τ ρ := by
  induction t with
  | nil =>
    intro i fu m τ v hf hB ok hI hL
    match fu, hf with
    | fu + 1, _ =>
      rw [fX7_ticksOnce_L13.eq_2, hL.1, if_pos (by simp)]
      refine ⟨τ, ?_, hB, f42_refl⟩
      show _ = (fX7_arranges 1 τ).bind fun r7 => fX7_ticksOnce_L50 kFU (v + 0) 0 r7
      rw [add0]
  | cons k t ih =>
    intro i fu m τ v hf hB ok hI hL
    match fu, hf with
    | fu + 1, hf =>
      have h30 := hL.2.1
      rw [List.length_cons] at h30 hf
      have hk0 := hI k List.mem_cons_self
      have hr := hL.2.2 0 (by simp)
      rw [show i + 0 = i from rfl] at hr
      rw [fX7_ticksOnce_L13.eq_2, hL.1, List.length_cons, if_neg (by rw [dI_le (by omega) (by omega)]; omega), if_pos (kin_nI (show i < 30 by omega) (by decide)), nI_n (by omega), hr]
      obtain ⟨τ1, q1, q2, q3⟩ := m_fall ok hB hk0.1 hk0.2
      have q1' : fX7_falls (nI ((k :: t).getD 0 0)) τ = some ((mFall m k).1, τ1) := q1
      rw [q1', Option.bind_some, nI_add1]
      have f := fall_facts ok hk0.1 hk0.2
      obtain ⟨ρ, e, g1, g2⟩ := ih (i + 1) fu (mFall m k).2 τ1 (v + fX7_bit (kb (mFall m k).1)) (by omega) q2 f.1 (inb_same (inb_tl hI) f.2.1 f.2.2.1) (lnu_42 (lnu_tl hL) q3)
      refine ⟨ρ, ?_, g1, f42_trans q3 g2⟩
      rw [e, bit_if]
      rfl
theorem m_risesL (t : List Nat) : ∀ (i fu : Nat) (m : Vc) (τ : Sto) (v : Int32), t.length < fu → MOK m τ → OKm m → Inb m t → LNU i t τ →
    ∃ ρ, fX7_ticksOnce_L50 fu v (nI i) τ = some (v + nI (mPh mRise t m).1, su ρ 134 4 (ρ 134 4 + 1)) ∧ MOK (mPh mRise t m).2 ρ ∧ F42 τ ρ := by
  induction t with
  | nil =>
    intro i fu m τ v hf hB ok hI hL
    match fu, hf with
    | fu + 1, _ =>
      rw [fX7_ticksOnce_L50.eq_2, hL.1, if_pos (by simp)]
      simp only [w4, z4, if_true, klet_eq]
      refine ⟨τ, ?_, hB, f42_refl⟩
      show _ = some (v + 0, _)
      rw [add0]
  | cons k t ih =>
    intro i fu m τ v hf hB ok hI hL
    match fu, hf with
    | fu + 1, hf =>
      have h30 := hL.2.1
      rw [List.length_cons] at h30 hf
      have hk0 := hI k List.mem_cons_self
      have hr := hL.2.2 0 (by simp)
      rw [show i + 0 = i from rfl] at hr
      have ht := (m_turned' ok hB.1).2.2
      rw [fX7_ticksOnce_L50.eq_2, hL.1, List.length_cons, if_neg (by rw [dI_le (by omega) (by omega)]; omega), if_pos (kin_nI (show i < 30 by omega) (by decide)), nI_n (by omega), hr, m_dirs, Option.bind_some]
      simp only [w2, z2, if_true, hB.1]
      rw [hB.1] at ht
      rw [ht, Option.bind_some]
      obtain ⟨τ1, q1, q2, q3⟩ := m_try' (ex := false) (d := dU m) ok hB hk0.1 hk0.2 dU_lt
      have q1' : fX7_tries (nI ((k :: t).getD 0 0)) (nI (dU m)) 0 τ = some ((mRise m k).1, τ1) := q1
      rw [q1', Option.bind_some, nI_add1]
      have f := rise_facts ok hk0.1 hk0.2
      obtain ⟨ρ, e, g1, g2⟩ := ih (i + 1) fu (mRise m k).2 τ1 (v + fX7_bit (kb (mRise m k).1)) (by omega) q2 f.1 (inb_same (inb_tl hI) f.2.1 f.2.2.1) (lnu_42 (lnu_tl hL) q3)
      refine ⟨ρ, ?_, g1, f42_trans q3 g2⟩
      rw [e, bit_if]
      rfl
def FT (σ τ : Sto) : Prop := (∀ p, p ≠ 133 → p ≠ 134 → p ≠ 142 → p ≠ 146 → p ≠ 147 → τ p = σ p) ∧ ∀ i, i ≠ 18 → τ 133 i = σ 133 i
theorem ft_refl : FT σ σ := ⟨fun _ _ _ _ _ _ => rfl, fun _ _ => rfl⟩
theorem ft_trans {τ ρ : Sto} (h : FT σ τ) (h' : FT τ ρ) : FT σ ρ := ⟨fun p a b c d e => by rw [h'.1 p a b c d e, h.1 p a b c d e], fun i hi => by rw [h'.2 i hi, h.2 i hi]⟩
theorem ft_67 {τ : Sto} (h : F67 σ τ) : FT σ τ := ⟨fun p a b c d e => h.1 p d e a, h.2⟩
theorem ft_42 {τ : Sto} (h : F42 σ τ) : FT σ τ := ⟨fun p a b c d e => h p b c, fun i _ => by rw [h 133 (by decide) (by decide)]⟩
theorem ft_mk {τ : Sto} (h : FT σ τ) (hK : MK σ) : MK τ := by
  unfold MK
  rw [h.1 140 (by decide) (by decide) (by decide) (by decide) (by decide), h.1 141 (by decide) (by decide) (by decide) (by decide) (by decide)]
  exact hK
theorem mok_67 {τ : Sto} (h : MOK m σ) (hf : F67 σ τ) : MOK m τ := by
  refine ⟨by rw [hf.1 134 (by decide) (by decide) (by decide)]; exact h.1, fun x y hxy => by rw [hf.1 142 (by decide) (by decide) (by decide)]; exact h.2.1 x y hxy, ?_⟩
  unfold MK
  rw [hf.1 140 (by decide) (by decide) (by decide), hf.1 141 (by decide) (by decide) (by decide)]
  exact h.2.2
theorem lnu_of {bub : Bool} {τ : Sto} (ok : OKm m) (h : LNM m bub (mOrd m bub) τ) : LNU 0 (mOrd m bub) τ := by
  have hl := ordL_len m bub (mN m)
  have hn := came_le ok
  exact ⟨by rw [Nat.zero_add]; exact h.1, by unfold mOrd; omega, fun j hj => by rw [Nat.zero_add]; exact h.2.2 j hj⟩
theorem m_ticksOnce (ok : OKm m) (hm : σ 134 = m) (hK : MK σ) : ∃ ρ, fX7_ticksOnce σ = some (nI (mTkN m), ρ) ∧ ρ 134 = mTkV m ∧ MK ρ ∧ FT σ ρ := by
  subst hm
  have hn := came_le ok
  unfold fX7_ticksOnce
  obtain ⟨τ1, e1, a1, a2⟩ := m_laysChips ok
  have hM1 : MOK (σ 134) τ1 := ⟨a2 134 (by decide), a1, by unfold MK; rw [a2 140 (by decide), a2 141 (by decide)]; exact hK⟩
  have f1 : FT σ τ1 := ⟨fun p _ _ c _ _ => a2 p c, fun i _ => by rw [a2 133 (by decide)]⟩
  obtain ⟨τ2, e2, b1, b2⟩ := m_arranges ok (bub := false) hM1.1 hM1.2.2
  have e2' : fX7_arranges 0 τ1 = some τ2 := e2
  have hl1 := ordL_len (σ 134) false (mN (σ 134))
  rw [e1, Option.bind_some, e2', Option.bind_some]
  obtain ⟨τ3, e3, c1, c2⟩ := m_fallsL (mOrd (σ 134) false) 0 kFU (σ 134) τ2 0 (by unfold kFU mOrd; omega) (mok_67 hM1 b2) ok (ord_inb _ false) (lnu_of ok b1)
  have e3' : fX7_ticksOnce_L13 kFU 0 0 τ2 = _ := e3
  rw [e3']
  have g1 := p1_facts ok
  have c1' : MOK (mP1 (σ 134)).2 τ3 := c1
  obtain ⟨τ4, e4, d1, d2⟩ := m_arranges g1.1 (bub := true) c1'.1 c1'.2.2
  have e4' : fX7_arranges 1 τ3 = some τ4 := e4
  have hl2 := ordL_len (mP1 (σ 134)).2 true (mN (mP1 (σ 134)).2)
  have hn2 := came_le g1.1
  rw [e4', Option.bind_some]
  obtain ⟨τ5, e5, h1, h2⟩ := m_risesL (mOrd (mP1 (σ 134)).2 true) 0 kFU (mP1 (σ 134)).2 τ4 (0 + nI (mPh mFall (mOrd (σ 134) false) (σ 134)).1) (by unfold kFU mOrd; omega) (mok_67 c1' d2) g1.1 (ord_inb _ true) (lnu_of g1.1 d1)
  have e5' : fX7_ticksOnce_L50 kFU (0 + nI (mPh mFall (mOrd (σ 134) false) (σ 134)).1) 0 τ4 = _ := e5
  rw [e5', zadd, nI_addn]
  have hft : FT σ τ5 := ft_trans f1 (ft_trans (ft_67 b2) (ft_trans (ft_42 c2) (ft_trans (ft_67 d2) (ft_42 h2))))
  have hft2 : FT σ (su τ5 134 4 (τ5 134 4 + 1)) := ft_trans hft ⟨fun p _ b _ _ _ => su_k b, fun i _ => by rw [su_k (by decide)]⟩
  refine ⟨_, rfl, ?_, ft_mk hft2 hK, hft2⟩
  rw [su_v, h1.1]
  rfl
theorem m_copies_L {q0 n0 A q2 n2 B : Nat} (hA : A + 220 ≤ n0) (hB : B + 220 ≤ n2) (h0 : n0 < 10000) (h2 : n2 < 10000) (hq : q0 ≠ q2) (n : Nat) : ∀ (i fu : Nat) (τ : Sto), i + n = 220 → n < fu →
    ∃ ρ, fX7_copies_L3 q0 n0 (nI A) q2 n2 (nI B) fu (nI i) τ = some ρ ∧ (∀ j, i ≤ j → j < 220 → ρ q2 (B + j) = τ q0 (A + j)) ∧ (∀ j, (j < B + i ∨ B + 220 ≤ j) → ρ q2 j = τ q2 j) ∧ ∀ p, p ≠ q2 → ρ p = τ p := by
  induction n with
  | zero =>
    intro i fu τ hi hf
    match fu, hf with
    | fu + 1, _ =>
      have : i = 220 := by omega
      subst this
      rw [fX7_copies_L3.eq_2, if_pos (by decide)]
      exact ⟨τ, rfl, fun j a b => by omega, fun _ _ => rfl, fun _ _ => rfl⟩
  | succ n ih =>
    intro i fu τ hi hf
    match fu, hf with
    | fu + 1, hf =>
      rw [fX7_copies_L3.eq_2, if_neg (show ¬ (220 : Int32) ≤ nI i from fun c => by have := (dI_le (a := 220) (by omega) (by omega)).1 c; omega), nI_addn, nI_addn, if_pos (kin_nI (by omega) (by omega)), if_pos (kin_nI (by omega) (by omega)), klet_eq, nI_n (by omega), nI_n (by omega), nI_add1]
      obtain ⟨ρ, e, g1, g2, g3⟩ := ih (i + 1) fu (su τ q2 (B + i) (τ q0 (A + i))) (by omega) (by omega)
      refine ⟨ρ, e, fun j a b => ?_, fun j hj => ?_, fun p hp => by rw [g3 p hp, su_k hp]⟩
      · by_cases hji : j = i
        · subst hji
          rw [g2 (B + j) (by omega), su_eq]
        · rw [g1 j (by omega) b, su_k hq]
      · rw [g2 j (by omega), su_i (by omega)]
theorem m_copies {q0 n0 A q2 n2 B : Nat} {a1 a3 : Int32} (h1 : a1 = nI A) (h3 : a3 = nI B) (hA : A + 220 ≤ n0) (hB : B + 220 ≤ n2) (h0 : n0 < 10000) (h2 : n2 < 10000) (hq : q0 ≠ q2) :
    ∃ ρ, fX7_copies q0 n0 a1 q2 n2 a3 σ = some ρ ∧ (∀ j, j < 220 → ρ q2 (B + j) = σ q0 (A + j)) ∧ (∀ j, (j < B ∨ B + 220 ≤ j) → ρ q2 j = σ q2 j) ∧ ∀ p, p ≠ q2 → ρ p = σ p := by
  subst h1 h3
  obtain ⟨ρ, e, g1, g2, g3⟩ := m_copies_L hA hB h0 h2 hq 220 0 kFU σ rfl (by unfold kFU; omega)
  exact ⟨ρ, e, fun j hj => g1 j (by omega) hj, fun j hj => g2 j (by omega), g3⟩
end TM
def HI (m m' : Vc) : Prop := ∀ i, 220 ≤ i → m' i = m i
theorem hi_refl {m : Vc} : HI m m := fun _ _ => rfl
theorem hi_trans {m m1 m2 : Vc} (h : HI m m1) (h' : HI m1 m2) : HI m m2 := fun i hi => by rw [h' i hi, h i hi]
theorem hi_vset {m : Vc} {i : Nat} {v : Int32} (hi : i < 220) : HI m (vset m i v) := fun j hj => vset_ne (by omega)
theorem hi_mSet {m : Vc} {k w : Nat} {v : Int32} (hk : k < 30) (hw : w < 7) : HI m (mSet m k w v) := hi_vset (by omega)
theorem hi_move {m : Vc} {k : Nat} {x y : Int32} (hk : k < 30) : HI m (mMove m k x y) :=
  hi_trans (hi_mSet hk (by decide)) (hi_trans (hi_mSet hk (by decide)) (hi_trans (hi_mSet hk (by decide)) (hi_vset (by decide))))
theorem hi_exc {m : Vc} {k j : Nat} {x y x0 y0 : Int32} (hk : k < 30) (hj : j < 30) : HI m (mExc m k j x y x0 y0) :=
  hi_trans (hi_mSet hk (by decide)) (hi_trans (hi_mSet hk (by decide)) (hi_trans (hi_mSet hj (by decide)) (hi_trans (hi_mSet hj (by decide)) (hi_trans (hi_vset (by decide)) (hi_trans (hi_mSet hk (by decide)) (hi_vset (by decide)))))))
section HIS
variable {m : Vc} {k d : Nat} {ex : Bool}
theorem hi_try (ok : OKm m) (hk : k < mN m) : HI m (mTry m k d ex).2 := by
  have hn := came_le ok
  unfold mTry
  split
  · split
    · exact hi_move (by omega)
    · next hne =>
      split
      · rcases mBd_cases m (mTo m k d).1 (mTo m k d).2 with ⟨hf, _⟩ | ⟨j, hj, ha, hbj⟩
        · exact absurd hf hne
        · rw [hbj, nI_n (by omega)]
          exact hi_exc (by omega) (by omega)
      · exact hi_refl
  · exact hi_refl
theorem hi_roll2 (ok : OKm m) (hk : k < mN m) {d1 d2 : Nat} : HI m (mRoll2 m k d1 d2).2 := by
  unfold mRoll2
  split
  · exact hi_trans (hi_try ok hk) (hi_vset (by decide))
  · split
    · exact hi_trans (hi_try ok hk) (hi_vset (by decide))
    · exact hi_refl
theorem hi_fall (ok : OKm m) (hk : k < mN m) : HI m (mFall m k).2 := by
  unfold mFall
  split
  · exact hi_try ok hk
  · split
    · split
      · exact hi_roll2 ok hk
      · exact hi_roll2 ok hk
    · exact hi_refl
theorem hi_ph {f : Vc → Nat → Bool × Vc} (hf : ∀ m k, OKm m → k < mN m → mC m k 6 = 1 → TFX m (f m k)) (hh : ∀ m k, OKm m → k < mN m → HI m (f m k).2) (l : List Nat) : ∀ m, OKm m → Inb m l → HI m (mPh f l m).2 := by
  induction l with
  | nil => intro m _ _; exact hi_refl
  | cons k t ih =>
    intro m ok hI
    have hk := hI k List.mem_cons_self
    obtain ⟨a1, a2, a3, _⟩ := hf m k ok hk.1 hk.2
    exact hi_trans (hh m k ok hk.1) (ih (f m k).2 a1 (inb_same (inb_tl hI) a2 a3))
theorem hi_tk (ok : OKm m) : HI m (mTkV m) :=
  hi_trans (hi_ph (fun _ _ o a b => fall_facts o a b) (fun _ _ o a => hi_fall o a) _ m ok (ord_inb m false))
    (hi_trans (hi_ph (fun _ _ o a b => rise_facts o a b) (fun _ _ o a => hi_try o a) _ _ (p1_facts ok).1 (ord_inb _ true)) (hi_vset (by decide)))
end HIS
section TM2
variable {σ : Sto} {m : Vc}
def FT8 (σ τ : Sto) : Prop := (∀ p, p ≠ 133 → p ≠ 134 → p ≠ 142 → p ≠ 146 → p ≠ 147 → p ≠ 148 → τ p = σ p) ∧ ∀ i, i ≠ 18 → τ 133 i = σ 133 i
theorem ft8_refl : FT8 σ σ := ⟨fun _ _ _ _ _ _ _ => rfl, fun _ _ => rfl⟩
theorem ft8_trans {τ ρ : Sto} (h : FT8 σ τ) (h' : FT8 τ ρ) : FT8 σ ρ := ⟨fun p a b c d e f => by rw [h'.1 p a b c d e f, h.1 p a b c d e f], fun i hi => by rw [h'.2 i hi, h.2 i hi]⟩
theorem ft8_ft {τ : Sto} (h : FT σ τ) : FT8 σ τ := ⟨fun p a b c d e _ => h.1 p a b c d e, h.2⟩
theorem ft8_mk {τ : Sto} (h : FT8 σ τ) (hK : MK σ) : MK τ := by
  unfold MK
  rw [h.1 140 (by decide) (by decide) (by decide) (by decide) (by decide) (by decide), h.1 141 (by decide) (by decide) (by decide) (by decide) (by decide) (by decide)]
  exact hK
theorem m_movesNow (ok : OKm m) (hm : σ 134 = m) (hK : MK σ) : ∃ ρ, fX7_movesNow σ = some (nI (mTkN m), ρ) ∧ ρ 134 = m ∧ FT8 σ ρ := by
  unfold fX7_movesNow
  obtain ⟨τ1, e1, a1, a2, a3⟩ := @m_copies σ 134 220 0 148 220 0 0 0 rfl rfl (by decide) (by decide) (by decide) (by decide) (by decide)
  rw [e1, Option.bind_some]
  have hK1 : MK τ1 := by unfold MK; rw [a3 140 (by decide), a3 141 (by decide)]; exact hK
  obtain ⟨τ2, e2, b1, b2, b3⟩ := m_ticksOnce ok (by rw [a3 134 (by decide)]; exact hm) hK1
  rw [e2, Option.bind_some]
  obtain ⟨τ3, e3, c1, c2, c3⟩ := @m_copies τ2 148 220 0 134 220 0 0 0 rfl rfl (by decide) (by decide) (by decide) (by decide) (by decide)
  rw [e3, Option.bind_some]
  refine ⟨τ3, rfl, ?_, fun p p1 p2 p3 p4 p5 p6 => ?_, fun i hi => ?_⟩
  · funext i
    by_cases h : i < 220
    · have h1 := c1 i h
      have h2 := a1 i h
      simp only [Nat.zero_add] at h1 h2
      rw [h1, b3.1 148 (by decide) (by decide) (by decide) (by decide) (by decide), h2, hm]
    · rw [c2 i (by omega), b1, hi_tk ok i (by omega)]
  · rw [c3 p p2, b3.1 p p1 p2 p3 p4 p5, a3 p p6]
  · rw [c3 133 (by decide), b3.2 i hi, a3 133 (by decide)]
end TM2
