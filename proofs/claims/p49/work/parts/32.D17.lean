def Same (m m' : Vc) : Prop := ∀ j u, (u = 0 ∨ u = 1 ∨ u = 2 ∨ u = 6) → mC m' j u = mC m j u
theorem same_refl {m : Vc} : Same m m := fun _ _ _ => rfl
theorem same_trans {m m1 m2 : Vc} (h : Same m m1) (h' : Same m1 m2) : Same m m2 := fun j u hu => by rw [h' j u hu, h j u hu]
theorem geo_refl {m : Vc} : Geo m m := ⟨rfl, rfl, rfl, rfl, rfl, rfl⟩
theorem geo_trans {m m1 m2 : Vc} (h : Geo m m1) (h' : Geo m1 m2) : Geo m m2 := by
  obtain ⟨a0, a1, a2, a3, a5, a6⟩ := h
  obtain ⟨b0, b1, b2, b3, b5, b6⟩ := h'
  exact ⟨by rw [b0, a0], by rw [b1, a1], by rw [b2, a2], by rw [b3, a3], by rw [b5, a5], by rw [b6, a6]⟩
section TF
variable {m : Vc} {k d : Nat} {ex : Bool}
theorem same_move {x y : Int32} : Same m (mMove m k x y) := by
  intro j u hu
  rw [mMove_C (by omega)]
  by_cases hj : j = k
  · subst hj
    rw [if_pos rfl, if_neg (by omega), if_neg (by omega), if_neg (by omega)]
  · rw [if_neg hj]
theorem same_exc {i : Nat} {x y x0 y0 : Int32} (hki : k ≠ i) : Same m (mExc m k i x y x0 y0) := by
  intro j u hu
  rw [mExc_C hki (by omega)]
  by_cases hj : j = k
  · subst hj
    rw [if_pos rfl, if_neg (by omega), if_neg (by omega), if_neg (by omega)]
  · rw [if_neg hj]
    by_cases hi : j = i
    · subst hi
      rw [if_pos rfl, if_neg (by omega), if_neg (by omega)]
    · rw [if_neg hi]
theorem no_self (hd : d < gDirs (m 0)) {j : Nat} (ha : mAt m (mTo m k d).1 (mTo m k d).2 j) : k ≠ j := by
  intro c
  subst c
  have h3 := ha.2.1
  have h4 := ha.2.2
  unfold mTo at h3 h4
  exact step_nz hd ⟨by simp only at h3; grind, by simp only at h4; grind⟩
def TFX (m : Vc) (r : Bool × Vc) : Prop := OKm r.2 ∧ Geo m r.2 ∧ Same m r.2 ∧ (r.1 = false → r.2 = m) ∧ r.2 4 = m 4 ∧ (r.1 = true → r.2 7 = m 7 + 1)
theorem try_facts (ok : OKm m) (hk : k < mN m) (hi : mC m k 6 = 1) (hd : d < gDirs (m 0)) : TFX m (mTry m k d ex) := by
  have hn := came_le ok
  unfold mTry
  by_cases hb : gBox (m 0) (m 1) (mTo m k d).1 (mTo m k d).2 = true
  · rw [if_pos hb]
    rcases mBd_cases m (mTo m k d).1 (mTo m k d).2 with ⟨hf, _⟩ | ⟨j, hj, ha, hbj⟩
    · rw [if_pos hf]
      exact ⟨ok_move ok hk hi hb hf, geo_move, same_move, Bool.noConfusion, by show mMove m k _ _ 4 = m 4; rw [mMove_lo (by decide)]; rfl, fun _ => by show mMove m k _ _ 7 = m 7 + 1; rw [mMove_lo (by decide)]; rfl⟩
    · have hne : ¬ mBd m (mTo m k d).1 (mTo m k d).2 = -1 := by rw [hbj]; exact nI_ne1 (by omega)
      have hkj := no_self hd ha
      rw [if_neg hne, hbj, nI_n (by omega)]
      by_cases hx : ex = true ∧ mC m j 0 = 2
      · rw [if_pos hx]
        exact ⟨ok_exc ok hk hi hj ha hkj, geo_exc, same_exc hkj, Bool.noConfusion, by show mExc m k j _ _ _ _ 4 = m 4; rw [mExc_lo (by decide)]; rfl, fun _ => by show mExc m k j _ _ _ _ 7 = m 7 + 1; rw [mExc_lo (by decide)]; rfl⟩
      · rw [if_neg hx]
        exact ⟨ok, geo_refl, same_refl, fun _ => rfl, rfl, Bool.noConfusion⟩
  · rw [if_neg hb]
    exact ⟨ok, geo_refl, same_refl, fun _ => rfl, rfl, Bool.noConfusion⟩
theorem mN_vset {i : Nat} {v : Int32} (h5 : i ≠ 5) : mN (vset m i v) = mN m := by unfold mN; rw [vset_ne (Ne.symm h5)]
theorem bd_vset {i : Nat} {v : Int32} (hi : i < 10) (h5 : i ≠ 5) {x y : Int32} : mBd (vset m i v) x y = mBd m x y :=
  bd_same (mN_vset h5) (fun j _ => by unfold mAt; rw [mC_vset hi, mC_vset hi, mC_vset hi])
theorem geo_vset {i : Nat} {v : Int32} (h : i = 4 ∨ 7 ≤ i) : Geo m (vset m i v) := by
  refine ⟨?_, ?_, ?_, ?_, ?_, ?_⟩ <;> rw [vset_ne (by omega)]
theorem same_vset {i : Nat} {v : Int32} (hi : i < 10) : Same m (vset m i v) := fun j u _ => mC_vset hi
theorem okc_vset {i : Nat} {v : Int32} (hi : i = 4 ∨ (7 ≤ i ∧ i < 10)) (ok : OKm m) : OKm (vset m i v) := by
  refine ok_geo ok (geo_vset (by omega)) (fun j hj => ?_) (fun a b ha hb h1 h2 h3 h4 => ?_)
  · have := ok_chip ok hj
    unfold OKc at *
    rw [mC_vset (by omega), mC_vset (by omega), mC_vset (by omega), mC_vset (by omega), mC_vset (by omega), mC_vset (by omega), vset_ne (by omega), vset_ne (by omega)]
    exact this
  · rw [mC_vset (by omega)] at h1 h2 h3 h4
    rw [mC_vset (by omega)] at h3 h4
    exact ok.2.2.2.2.2.2.2 a b ha hb h1 h2 h3 h4
end TF
def dN (m : Vc) : Nat := (mD m + 1) % gDirs (m 0)
def dP (m : Vc) : Nat := (mD m + gDirs (m 0) - 1) % gDirs (m 0)
def dU (m : Vc) : Nat := (mD m + gDirs (m 0) / 2) % gDirs (m 0)
theorem dN_lt {m : Vc} : dN m < gDirs (m 0) := Nat.mod_lt _ (by have := @dirs_le (m 0); omega)
theorem dP_lt {m : Vc} : dP m < gDirs (m 0) := Nat.mod_lt _ (by have := @dirs_le (m 0); omega)
theorem dU_lt {m : Vc} : dU m < gDirs (m 0) := Nat.mod_lt _ (by have := @dirs_le (m 0); omega)
theorem krem_fin : ∀ n, n < 32 → krem (nI n) 6 = nI (n % 6) ∧ krem (nI n) 8 = nI (n % 8) := by decide +kernel
theorem krem_d {a : Int32} {n : Nat} (hn : n < 32) : krem (nI n) (nI (gDirs a)) = nI (n % gDirs a) := by
  unfold gDirs
  split
  · exact (krem_fin n hn).1
  · exact (krem_fin n hn).2
theorem nI_addn (i j : Nat) : nI i + nI j = nI (i + j) := by unfold nI; rw [Int32.ofNat_add]
theorem nI_subn {i j : Nat} (h : j ≤ i) : nI i - nI j = nI (i - j) := by
  have : nI i = nI (i - j) + nI j := by rw [nI_addn]; congr 1; omega
  rw [this]
  grind
noncomputable def mRoll2 (m : Vc) (k d1 d2 : Nat) : Bool × Vc :=
  if (mTry m k d1 false).1 = true then (true, vset (mTry m k d1 false).2 9 ((mTry m k d1 false).2 9 + 1))
  else if (mTry m k d2 false).1 = true then (true, vset (mTry m k d2 false).2 9 ((mTry m k d2 false).2 9 + 1)) else (false, m)
noncomputable def mFall (m : Vc) (k : Nat) : Bool × Vc :=
  if (mTry m k (mD m) true).1 = true then (true, (mTry m k (mD m) true).2)
  else if mC m k 0 = 1 then (if krem (m 4) 2 = 0 then mRoll2 m k (dN m) (dP m) else mRoll2 m k (dP m) (dN m)) else (false, m)
noncomputable def mRise (m : Vc) (k : Nat) : Bool × Vc := mTry m k (dU m) false
section FL
variable {m : Vc} {k : Nat}
theorem tfx_roll {r : Bool × Vc} (h : TFX m r) (h1 : r.1 = true) : TFX m (true, vset r.2 9 (r.2 9 + 1)) := by
  obtain ⟨a, b, c, d, e, f⟩ := h
  refine ⟨okc_vset (.inr ⟨by decide, by decide⟩) a, geo_trans b (geo_vset (.inr (by decide))), same_trans c (same_vset (by decide)), Bool.noConfusion, ?_, fun _ => ?_⟩
  · show vset r.2 9 (r.2 9 + 1) 4 = m 4
    rw [vset_ne (by decide)]
    exact e
  · show vset r.2 9 (r.2 9 + 1) 7 = m 7 + 1
    rw [vset_ne (by decide)]
    exact f h1
theorem roll2_facts (ok : OKm m) (hk : k < mN m) (hi : mC m k 6 = 1) {d1 d2 : Nat} (h1 : d1 < gDirs (m 0)) (h2 : d2 < gDirs (m 0)) : TFX m (mRoll2 m k d1 d2) := by
  have f1 := try_facts (ex := false) ok hk hi h1
  have f2 := try_facts (ex := false) ok hk hi h2
  unfold mRoll2
  by_cases c1 : (mTry m k d1 false).1 = true
  · rw [if_pos c1]
    exact tfx_roll f1 c1
  · rw [if_neg c1]
    by_cases c2 : (mTry m k d2 false).1 = true
    · rw [if_pos c2]
      exact tfx_roll f2 c2
    · rw [if_neg c2]
      exact ⟨ok, geo_refl, same_refl, fun _ => rfl, rfl, Bool.noConfusion⟩
theorem fall_facts (ok : OKm m) (hk : k < mN m) (hi : mC m k 6 = 1) : TFX m (mFall m k) := by
  have f1 := try_facts (ex := true) ok hk hi ok.2.2.1.2
  unfold mFall
  by_cases c1 : (mTry m k (mD m) true).1 = true
  · rw [if_pos c1]
    obtain ⟨a, b, c, d, e, f⟩ := f1
    exact ⟨a, b, c, Bool.noConfusion, e, fun _ => f c1⟩
  · rw [if_neg c1]
    by_cases c2 : mC m k 0 = 1
    · rw [if_pos c2]
      split
      · exact roll2_facts ok hk hi dN_lt dP_lt
      · exact roll2_facts ok hk hi dP_lt dN_lt
    · rw [if_neg c2]
      exact ⟨ok, geo_refl, same_refl, fun _ => rfl, rfl, Bool.noConfusion⟩
theorem rise_facts (ok : OKm m) (hk : k < mN m) (hi : mC m k 6 = 1) : TFX m (mRise m k) := try_facts ok hk hi dU_lt
end FL
section FC
variable {σ : Sto} {b : Nat} {m : Vc} {k : Nat}
theorem bx_roll (h : BX σ b m) : BX (su σ b 7 (σ b 7 + 1)) b (vset m 9 (m 9 + 1)) := by
  obtain ⟨h1, h2, h3, h4⟩ := h
  refine ⟨⟨?_, fun c hc => ?_⟩, ?_, fun j hj => ?_, fun c hc => ?_⟩
  · rw [su_k (by omega), vset_ne (by decide), vset_ne (by decide)]; exact h1.1
  · rw [su_k (by omega), vset_ne (by decide), vset_ne (by decide)]; exact h1.2 c hc
  · rw [vset_ne (by decide), vset_ne (by decide), vset_ne (by decide), vset_ne (by decide), vset_ne (by decide), vset_ne (by decide), vset_eq, vset_ne (by decide), su_i (by decide), su_i (by decide), su_i (by decide), su_i (by decide), su_i (by decide), su_i (by decide), su_eq, su_i (by decide)]
    exact ⟨h2.1, h2.2.1, h2.2.2.1, h2.2.2.2.1, h2.2.2.2.2.1, h2.2.2.2.2.2.1, by rw [h2.2.2.2.2.2.2.1], h2.2.2.2.2.2.2.2⟩
  · rw [mN_vset (by decide)] at hj
    rw [su_k (by omega), su_k (by omega), su_k (by omega), su_k (by omega), su_k (by omega), mC_vset (by decide), mC_vset (by decide), mC_vset (by decide), mC_vset (by decide)]
    unfold mCell
    rw [mC_vset (by decide), mC_vset (by decide), mC_vset (by decide)]
    exact h3 j hj
  · rw [su_k (by omega), bd_vset (by decide) (by decide)]
    exact h4 c hc
theorem c_L32 (ok : OKm m) (h : BX σ b m) (hk : k < mN m) (hi : mC m k 6 = 1) {s0 : Int32} {d1 d2 : Nat} (hs : s0 = 0 ∧ d1 = dN m ∧ d2 = dP m ∨ s0 = 1 ∧ d1 = dP m ∧ d2 = dN m) :
    ∃ τ, fX0_tryToFall_L32 b (nI k) s0 σ = some τ ∧ BX τ b (mRoll2 m k d1 d2).2 ∧ FB b σ τ := by
  have hd8 := @dirs_le (m 0)
  have hD := ok.2.2.1.2
  have eN : ∀ {τ : Sto}, BX τ b m → fX1_wrapped (b + 1) (τ b 1 + 1) τ = nI (dN m) := by
    intro τ hτ
    unfold dN
    rw [c_wrapped hτ.1, bx1 hτ, ok.2.2.1.1, nI_add1, krem_d (by omega)]
  have eP : ∀ {τ : Sto}, BX τ b m → fX1_wrapped (b + 1) ((τ b 1 + fX1_directions (b + 1) τ) - 1) τ = nI (dP m) := by
    intro τ hτ
    unfold dP
    rw [c_wrapped hτ.1, bx1 hτ, ok.2.2.1.1, c_dirs hτ.1, nI_addn, show (1 : Int32) = nI 1 from rfl, nI_subn (by omega), krem_d (by omega)]
  have go : ∀ (e1 e2 : Nat), e1 < gDirs (m 0) → e2 < gDirs (m 0) → ∃ τ, ((fX0_roll b (nI k) (nI e1) σ).bind fun r7 => if r7.1 = true then fX0_tryToFall_L106 b (nI k) r7.2 else (fX0_roll b (nI k) (nI e2) r7.2).bind fun r11 => if r11.1 = true then fX0_tryToFall_L106 b (nI k) r11.2 else some r11.2) = some τ ∧ BX τ b (mRoll2 m k e1 e2).2 ∧ FB b σ τ := by
    intro e1 e2 h1 h2
    obtain ⟨τ1, q1, q2, q3⟩ := c_roll ok h hk hi h1
    rw [q1, Option.bind_some]
    unfold mRoll2 fX0_tryToFall_L106
    have f1 := try_facts (ex := false) ok hk hi h1
    cases c1 : (mTry m k e1 false).1 with
    | true =>
      simp only [if_true, klet_eq]
      exact ⟨_, rfl, bx_roll q2, fun p hp => by rw [su_k (by omega), q3 p hp]⟩
    | false =>
      have e := f1.2.2.2.1 c1
      rw [e] at q2
      obtain ⟨τ2, p1, p2, p3⟩ := c_roll ok q2 hk hi h2
      simp only [Bool.false_eq_true, if_false]
      rw [p1, Option.bind_some]
      have f2 := try_facts (ex := false) ok hk hi h2
      cases c2 : (mTry m k e2 false).1 with
      | true =>
        simp only [if_true, klet_eq]
        exact ⟨_, rfl, bx_roll p2, fun p hp => by rw [su_k (by omega), p3 p hp, q3 p hp]⟩
      | false =>
        have e' := f2.2.2.2.1 c2
        rw [e'] at p2
        simp only [Bool.false_eq_true, if_false]
        exact ⟨τ2, rfl, p2, fun p hp => by rw [p3 p hp, q3 p hp]⟩
  unfold fX0_tryToFall_L32
  rcases hs with ⟨h0, e1, e2⟩ | ⟨h0, e1, e2⟩
  · subst h0 e1 e2
    rw [if_pos rfl, eN h]
    obtain ⟨τ, q1, q2, q3⟩ := go (dN m) (dP m) dN_lt dP_lt
    refine ⟨τ, ?_, q2, q3⟩
    rw [← q1]
    cases hr : fX0_roll b (nI k) (nI (dN m)) σ with
    | none => rw [Option.bind_none, Option.bind_none]
    | some r =>
      rw [Option.bind_some, Option.bind_some]
      cases hr1 : r.1 with
      | true => rw [if_pos rfl, if_pos rfl]
      | false =>
        simp only [Bool.false_eq_true, if_false, if_true]
        rw [eP h]
  · subst h0 e1 e2
    rw [if_neg (show ¬ (1 : Int32) = 0 by decide), eP h]
    obtain ⟨τ, q1, q2, q3⟩ := go (dP m) (dN m) dP_lt dN_lt
    refine ⟨τ, ?_, q2, q3⟩
    rw [← q1]
    cases hr : fX0_roll b (nI k) (nI (dP m)) σ with
    | none => rw [Option.bind_none, Option.bind_none]
    | some r =>
      rw [Option.bind_some, Option.bind_some]
      cases hr1 : r.1 with
      | true => rw [if_pos rfl, if_pos rfl]
      | false =>
        simp only [Bool.false_eq_true, if_false, show ¬ (1 : Int32) = 0 from by decide]
        rw [eN h]
theorem c_fall (ok : OKm m) (h : BX σ b m) (hk : k < mN m) (hi : mC m k 6 = 1) (hkind : ¬ mC m k 0 = 2) :
    ∃ τ, fX0_tryToFall b (nI k) σ = some τ ∧ BX τ b (mFall m k).2 ∧ FB b σ τ := by
  obtain ⟨τ1, q1, q2, q3⟩ := c_drop ok h hk hi hkind
  unfold fX0_tryToFall mFall
  rw [q1, Option.bind_some]
  have f1 := try_facts (ex := true) ok hk hi ok.2.2.1.2
  cases c1 : (mTry m k (mD m) true).1 with
  | true =>
    simp only [if_true]
    exact ⟨τ1, rfl, q2, q3⟩
  | false =>
    rw [f1.2.2.2.1 c1] at q2
    simp only [Bool.false_eq_true, if_false]
    rw [c_kindOf ok q2 hk, Option.bind_some]
    by_cases hb : mC m k 0 = 1
    · rw [if_pos hb, if_pos hb, bx3 q2]
      by_cases hp : krem (m 4) 2 = 0
      · rw [if_pos hp, if_pos hp]
        obtain ⟨τ2, p1, p2, p3⟩ := c_L32 ok q2 hk hi (.inl ⟨rfl, rfl, rfl⟩)
        exact ⟨τ2, p1, p2, fb_trans q3 p3⟩
      · rw [if_neg hp, if_neg hp]
        obtain ⟨τ2, p1, p2, p3⟩ := c_L32 ok q2 hk hi (.inr ⟨rfl, rfl, rfl⟩)
        exact ⟨τ2, p1, p2, fb_trans q3 p3⟩
    · rw [if_neg hb, if_neg hb]
      exact ⟨τ1, rfl, q2, q3⟩
theorem c_rise (ok : OKm m) (h : BX σ b m) (hk : k < mN m) (hi : mC m k 6 = 1) :
    ∃ τ, fX0_tryToRise b (nI k) σ = some τ ∧ BX τ b (mRise m k).2 ∧ FB b σ τ := by
  have hd8 := @dirs_le (m 0)
  have hD := ok.2.2.1.2
  unfold fX0_tryToRise
  rw [c_wrapped h.1, bx1 h, ok.2.2.1.1, c_dirs h.1, dirs_half, nI_addn, krem_d (by omega)]
  obtain ⟨τ1, q1, q2, q3⟩ := c_roll ok h hk hi (d := dU m) dU_lt
  have q1' : fX0_roll b (nI k) (nI ((mD m + gDirs (m 0) / 2) % gDirs (m 0))) σ = some ((mTry m k (dU m) false).1, τ1) := q1
  rw [q1', Option.bind_some]
  exact ⟨τ1, rfl, q2, q3⟩
end FC
section FM
variable {σ : Sto} {m : Vc} {k : Nat}
def MOK (m : Vc) (σ : Sto) : Prop := σ 134 = m ∧ BDM m σ ∧ MK σ
theorem m_turned' (ok : OKm m) (hm : σ 134 = m) : fX7_turned (σ 134 2) 1 σ = some (nI (dN m)) ∧ fX7_turned (σ 134 2) (-1) σ = some (nI (dP m)) ∧ fX7_turned (σ 134 2) (nI (gDirs (m 0)) / 2) σ = some (nI (dU m)) := by
  have hd8 := @dirs_le (m 0)
  have hD := ok.2.2.1.2
  rw [show σ 134 2 = nI (mD m) by rw [hm]; exact ok.2.2.1.1]
  refine ⟨?_, ?_, ?_⟩
  · rw [m_turned, hm, show (1 : Int32) = nI 1 from rfl, nI_addn, nI_addn, krem_d (by omega)]
    unfold dN
    rw [Nat.add_mod_right]
  · rw [m_turned, hm, show nI (mD m) + -1 + nI (gDirs (m 0)) = nI (mD m) + nI (gDirs (m 0)) - nI 1 by rw [show nI 1 = 1 from rfl]; grind, nI_addn, nI_subn (by omega), krem_d (by omega)]
    rfl
  · rw [m_turned, hm, dirs_half, nI_addn, nI_addn, krem_d (by omega)]
    unfold dU
    rw [Nat.add_mod_right]
theorem m_try' (ok : OKm m) (h : MOK m σ) (hk : k < mN m) (hi : mC m k 6 = 1) {d : Nat} (hd : d < gDirs (m 0)) {ex : Bool} :
    ∃ τ, fX7_tries (nI k) (nI d) (kb ex) σ = some ((mTry m k d ex).1, τ) ∧ MOK (mTry m k d ex).2 τ ∧ F42 σ τ := by
  obtain ⟨τ, h1, h2, h3, h4⟩ := m_tries ok h.1 h.2.1 h.2.2 hk hi hd (ex := ex)
  exact ⟨τ, h1, ⟨h2, h3, mk_f42 h4 h.2.2⟩, h4⟩
theorem mok_roll {m : Vc} (h : MOK m σ) : MOK (vset m 9 (m 9 + 1)) (su σ 134 9 (σ 134 9 + 1)) ∧ F42 σ (su σ 134 9 (σ 134 9 + 1)) := by
  refine ⟨⟨?_, fun x y hxy => ?_, ?_⟩, fun p p1 p2 => su_k p1⟩
  · rw [su_v, h.1]
  · rw [su_k (by decide), bd_vset (by decide) (by decide)]
    exact h.2.1 x y hxy
  · unfold MK
    rw [su_k (by decide), su_k (by decide)]
    exact h.2.2
theorem su_same {i : Nat} {v : Int32} {p : Nat} (h : v = σ p i) : su σ p i v = σ := by
  funext a b
  unfold su
  by_cases h1 : a = p
  · by_cases h2 : b = i
    · rw [if_pos h1, if_pos h2, h1, h2]; exact h
    · rw [if_pos h1, if_neg h2]
  · rw [if_neg h1]
theorem m_L45 (ok : OKm m) (h : MOK m σ) (hk : k < mN m) (hi : mC m k 6 = 1) {s0 : Int32} {d1 d2 : Nat} (hs : s0 = 1 ∧ d1 = dN m ∧ d2 = dP m ∨ s0 = -1 ∧ d1 = dP m ∧ d2 = dN m) :
    ∃ τ, fX7_falls_L45 (nI k) s0 σ = some ((mRoll2 m k d1 d2).1, τ) ∧ MOK (mRoll2 m k d1 d2).2 τ ∧ F42 σ τ := by
  have t1 : fX7_turned (σ 134 2) s0 σ = some (nI d1) ∧ d1 < gDirs (m 0) ∧ d2 < gDirs (m 0) := by
    have := m_turned' ok h.1
    rcases hs with ⟨e0, e1, e2⟩ | ⟨e0, e1, e2⟩
    · subst e0 e1 e2; exact ⟨this.1, dN_lt, dP_lt⟩
    · subst e0 e1 e2; exact ⟨this.2.1, dP_lt, dN_lt⟩
  have t2 : ∀ {τ : Sto}, MOK m τ → fX7_turned (τ 134 2) (-s0) τ = some (nI d2) := by
    intro τ hτ
    have := m_turned' ok hτ.1
    rcases hs with ⟨e0, e1, e2⟩ | ⟨e0, e1, e2⟩
    · subst e0 e1 e2; exact this.2.1
    · subst e0 e1 e2; exact this.1
  unfold fX7_falls_L45 fX7_falls_L87 fX7_falls_L92
  simp only [w2, z2, w9, z9, if_true]
  rw [t1.1, Option.bind_some]
  obtain ⟨τ1, q1, q2, q3⟩ := m_try' (ex := false) ok h hk hi t1.2.1
  have q1' : fX7_tries (nI k) (nI d1) 0 σ = some ((mTry m k d1 false).1, τ1) := q1
  rw [q1', Option.bind_some]
  unfold mRoll2
  have f1 := try_facts (ex := false) ok hk hi t1.2.1
  cases c1 : (mTry m k d1 false).1 with
  | true =>
    simp only [if_true, klet_eq]
    have := mok_roll q2
    rw [show fX7_bit 1 = 1 from rfl, if_pos (show kbo 1 = true by decide)]
    exact ⟨_, rfl, this.1, f42_trans q3 this.2⟩
  | false =>
    rw [f1.2.2.2.1 c1] at q2
    simp only [Bool.false_eq_true, if_false, klet_eq]
    rw [t2 q2, Option.bind_some]
    obtain ⟨τ2, p1, p2, p3⟩ := m_try' (ex := false) ok q2 hk hi t1.2.2
    have p1' : fX7_tries (nI k) (nI d2) 0 τ1 = some ((mTry m k d2 false).1, τ2) := p1
    rw [p1', Option.bind_some]
    have f2 := try_facts (ex := false) ok hk hi t1.2.2
    cases c2 : (mTry m k d2 false).1 with
    | true =>
      simp only [if_true]
      have := mok_roll p2
      rw [show fX7_bit 1 = 1 from rfl, if_pos (show kbo 1 = true by decide)]
      exact ⟨_, rfl, this.1, f42_trans (f42_trans q3 p3) this.2⟩
    | false =>
      rw [f2.2.2.2.1 c2] at p2
      simp only [Bool.false_eq_true, if_false]
      rw [show fX7_bit 0 = 0 from rfl, if_pos (show kbo 0 = true by decide), su_same (add0 _)]
      exact ⟨τ2, rfl, p2, f42_trans q3 p3⟩
theorem m_fall (ok : OKm m) (h : MOK m σ) (hk : k < mN m) (hi : mC m k 6 = 1) : ∃ τ, fX7_falls (nI k) σ = some ((mFall m k).1, τ) ∧ MOK (mFall m k).2 τ ∧ F42 σ τ := by
  have hn := came_le ok
  unfold fX7_falls mFall
  simp only [w2, z2, w4, z4, if_true]
  obtain ⟨τ1, q1, q2, q3⟩ := m_try' (ex := true) ok h hk hi ok.2.2.1.2
  have q1' : fX7_tries (nI k) (σ 134 2) 1 σ = some ((mTry m k (mD m) true).1, τ1) := by
    rw [show σ 134 2 = nI (mD m) by rw [h.1]; exact ok.2.2.1.1]
    exact q1
  rw [q1', Option.bind_some]
  have f1 := try_facts (ex := true) ok hk hi ok.2.2.1.2
  cases c1 : (mTry m k (mD m) true).1 with
  | true =>
    simp only [if_true]
    exact ⟨τ1, rfl, q2, q3⟩
  | false =>
    rw [f1.2.2.2.1 c1] at q2
    simp only [Bool.false_eq_true, if_false]
    rw [m_c (show k < 30 by omega) (w := 0) (by decide) (W := 0) rfl, Option.bind_some, q2.1]
    by_cases hb : mC m k 0 = 1
    · rw [if_pos hb, if_pos hb]
      by_cases hp : krem (m 4) 2 = 0
      · rw [if_pos hp, if_pos hp]
        obtain ⟨τ2, p1, p2, p3⟩ := m_L45 ok q2 hk hi (.inl ⟨rfl, rfl, rfl⟩)
        exact ⟨τ2, p1, p2, f42_trans q3 p3⟩
      · rw [if_neg hp, if_neg hp]
        obtain ⟨τ2, p1, p2, p3⟩ := m_L45 ok q2 hk hi (.inr ⟨rfl, rfl, rfl⟩)
        exact ⟨τ2, p1, p2, f42_trans q3 p3⟩
    · rw [if_neg hb, if_neg hb]
      exact ⟨τ1, rfl, q2, q3⟩
end FM
