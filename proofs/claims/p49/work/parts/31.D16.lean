def BDM (m : Vc) (τ : Sto) : Prop := ∀ x y, inS x y → τ 142 (mk x y) = mBd m x y
def F42 (σ τ : Sto) : Prop := ∀ p, p ≠ 134 → p ≠ 142 → τ p = σ p
theorem f42_refl {σ : Sto} : F42 σ σ := fun _ _ _ => rfl
theorem f42_trans {σ τ ρ : Sto} (h : F42 σ τ) (h' : F42 τ ρ) : F42 σ ρ := fun p h1 h2 => by rw [h' p h1 h2, h p h1 h2]
theorem mk_f42 {σ τ : Sto} (h : F42 σ τ) (hk : MK σ) : MK τ := by
  unfold MK
  rw [h 140 (by decide) (by decide), h 141 (by decide) (by decide)]
  exact hk
theorem step_nz {a : Int32} {d : Nat} (hd : d < gDirs a) : ¬ (gSX a d = 0 ∧ gSY a d = 0) := by
  unfold gDirs at hd
  unfold gSX gSY
  cases hx : gHex a
  · rw [hx] at hd
    simp only [Bool.false_eq_true, if_false] at hd ⊢
    clear hx
    revert d
    decide
  · rw [hx] at hd
    simp only [if_true] at hd ⊢
    clear hx
    revert d
    decide
section MM
variable {σ : Sto} {m : Vc} {k : Nat}
theorem m_puts' {w : Nat} (hk : k < 30) (hw : w < 7) {W v : Int32} (hW : W = nI w) : ∃ τ, fX7_puts (nI k) W v σ = some τ ∧ τ 134 = mSet (σ 134) k w v ∧ ∀ p, p ≠ 134 → τ p = σ p := by
  rw [m_puts hk hw hW]
  exact ⟨_, rfl, su_v, fun p hp => su_k hp⟩
theorem m_lies (hk : k < 30) {x y : Int32} (hS : inS x y) : ∃ τ, fX7_lies (nI k) x y σ = some τ ∧ τ 134 = mPos (σ 134) k x y ∧ (∀ j, τ 142 j = if j = mk x y then nI k else σ 142 j) ∧ F42 σ τ := by
  unfold fX7_lies
  obtain ⟨τ1, e1, h1, f1⟩ := @m_puts' σ k 3 hk (by decide) 3 x rfl
  obtain ⟨τ2, e2, h2, f2⟩ := @m_puts' τ1 k 4 hk (by decide) 4 y rfl
  rw [e1, Option.bind_some, e2, Option.bind_some, if_pos (mcell_kin hS), klet_eq]
  refine ⟨_, rfl, ?_, fun j => ?_, fun p p1 p2 => ?_⟩
  · rw [su_k (by decide), h2, h1]
    rfl
  · rw [su_at, f2 142 (by decide), f1 142 (by decide)]
    rfl
  · rw [su_k p2, f2 p p1, f1 p p1]
theorem m_go (hk : k < 30) {a2 a3 : Int32} : ∃ τ, fX7_tries_L152 (nI k) a2 a3 σ = some (true, τ) ∧ τ 134 = mGo (σ 134) k ∧ ∀ p, p ≠ 134 → τ p = σ p := by
  unfold fX7_tries_L152
  rw [m_c hk (w := 5) (by decide) (W := 5) rfl, Option.bind_some]
  obtain ⟨τ1, e1, h1, f1⟩ := @m_puts' σ k 5 hk (by decide) 5 (mC (σ 134) k 5 + 1) rfl
  rw [e1, Option.bind_some]
  simp only [w7, z7, if_true, klet_eq]
  refine ⟨_, rfl, ?_, fun p hp => by rw [su_k hp, f1 p hp]⟩
  rw [su_v, h1]
  unfold mGo
  rw [mSet_lo (by decide)]
theorem m_tries (ok : OKm m) (hm : σ 134 = m) (hB : BDM m σ) (hK : MK σ) (hk : k < mN m) (hi : mC m k 6 = 1) {d : Nat} (hd : d < gDirs (m 0)) {ex : Bool} :
    ∃ τ, fX7_tries (nI k) (nI d) (kb ex) σ = some ((mTry m k d ex).1, τ) ∧ τ 134 = (mTry m k d ex).2 ∧ BDM (mTry m k d ex).2 τ ∧ F42 σ τ := by
  subst hm
  have hn := came_le ok
  have hk30 : k < 30 := by omega
  unfold fX7_tries
  rw [m_c hk30 (w := 3) (by decide) (W := 3) rfl, m_c hk30 (w := 4) (by decide) (W := 4) rfl, m_stepX hK hd, m_stepY hK hd, Option.bind_some, Option.bind_some, Option.bind_some, Option.bind_some, m_box, Option.bind_some]
  rw [show mC (σ 134) k 3 + gSX (σ 134 0) d = (mTo (σ 134) k d).1 from rfl, show mC (σ 134) k 4 + gSY (σ 134 0) d = (mTo (σ 134) k d).2 from rfl]
  have hnr0 := ok_near ok hk hi
  have hS0 := near_S ok.2.1 hnr0
  by_cases hb : gBox (σ 134 0) (σ 134 1) (mTo (σ 134) k d).1 (mTo (σ 134) k d).2 = true
  · have hS := near_S ok.2.1 (box_near hb)
    rw [if_pos hb, if_pos (mcell_kin hS), show (fX7_cell (mTo (σ 134) k d).1 (mTo (σ 134) k d).2).toNatClampNeg = mk (mTo (σ 134) k d).1 (mTo (σ 134) k d).2 from rfl, hB _ _ hS]
    have hgo : ∀ {v9 : Int32} {o : Int32} {a2 a3 : Int32}, ∃ τ1, (∀ p, p ≠ 134 → p ≠ 142 → τ1 p = σ p) ∧ τ1 134 = mPos (σ 134) k (mTo (σ 134) k d).1 (mTo (σ 134) k d).2 ∧ (∀ j, τ1 142 j = if j = mk (mTo (σ 134) k d).1 (mTo (σ 134) k d).2 then nI k else if j = mk (mC (σ 134) k 3) (mC (σ 134) k 4) then -1 else σ 142 j) ∧ fX7_tries_L104 (nI k) a2 a3 (mC (σ 134) k 3) (mC (σ 134) k 4) (mTo (σ 134) k d).1 (mTo (σ 134) k d).2 o v9 σ = (if v9 = 0 then fX7_tries_L152 (nI k) a2 a3 τ1 else (fX7_lies o (mC (σ 134) k 3) (mC (σ 134) k 4) τ1).bind fun r27 => if kin 8 220 = true then (if kin 8 220 = true then klet (su r27 134 (Int32.toNatClampNeg 8) ((r27 134 (Int32.toNatClampNeg 8)) + 1)) fun σ30 => fX7_tries_L152 (nI k) a2 a3 σ30 else none) else none) := by
      intro v9 o a2 a3
      obtain ⟨τ1, e1, h1, h2, h3⟩ := @m_lies (su σ 142 (mk (mC (σ 134) k 3) (mC (σ 134) k 4)) (-1)) k hk30 _ _ hS
      refine ⟨τ1, fun p p1 p2 => by rw [h3 p p1 p2, su_k p2], by rw [h1, su_k (by decide)], fun j => by rw [h2, su_at], ?_⟩
      unfold fX7_tries_L104
      rw [if_pos (mcell_kin hS0), klet_eq, show (fX7_cell (mC (σ 134) k 3) (mC (σ 134) k 4)).toNatClampNeg = mk (mC (σ 134) k 3) (mC (σ 134) k 4) from rfl, e1, Option.bind_some]
    rcases mBd_cases (σ 134) (mTo (σ 134) k d).1 (mTo (σ 134) k d).2 with ⟨hf, _⟩ | ⟨j, hj, ha, hbj⟩
    · rw [if_pos hf, try_go hb hf]
      unfold fX7_tries_L88 fX7_tries_L89
      rw [if_pos hf]
      obtain ⟨τ1, f1, h1, h2, e1⟩ := @hgo 0 (mBd (σ 134) (mTo (σ 134) k d).1 (mTo (σ 134) k d).2) (nI d) (kb ex)
      obtain ⟨τ2, e2, h3, f2⟩ := @m_go τ1 k hk30 (nI d) (kb ex)
      rw [e1, if_pos rfl, e2]
      refine ⟨τ2, rfl, by rw [h3, h1]; rfl, fun x y hxy => ?_, fun p p1 p2 => by rw [f2 p p1, f1 p p1 p2]⟩
      rw [f2 142 (by decide), h2, bd_move ok hk hi hb hf, hB x y hxy]
      have q1 : (mk x y = mk (mTo (σ 134) k d).1 (mTo (σ 134) k d).2) ↔ (x = (mTo (σ 134) k d).1 ∧ y = (mTo (σ 134) k d).2) := ⟨fun c => mk_inj hxy hS c, fun c => by rw [c.1, c.2]⟩
      have q2 : (mk x y = mk (mC (σ 134) k 3) (mC (σ 134) k 4)) ↔ (x = mC (σ 134) k 3 ∧ y = mC (σ 134) k 4) := ⟨fun c => mk_inj hxy hS0 c, fun c => by rw [c.1, c.2]⟩
      simp only [q1, q2]
    · have hne : ¬ mBd (σ 134) (mTo (σ 134) k d).1 (mTo (σ 134) k d).2 = -1 := by rw [hbj]; exact nI_ne1 (by omega)
      rw [if_neg hne]
      unfold fX7_tries_L88 fX7_tries_L89
      simp only [if_neg hne]
      by_cases hx : ex = true ∧ mC (σ 134) j 0 = 2
      · have e3 : mTry (σ 134) k d ex = (true, mExc (σ 134) k j (mTo (σ 134) k d).1 (mTo (σ 134) k d).2 (mC (σ 134) k 3) (mC (σ 134) k 4)) := by
          unfold mTry
          rw [if_pos hb, if_neg hne, hbj, nI_n (by omega), if_pos hx]
        have hkj : k ≠ j := by
          intro c
          subst c
          have h3 := ha.2.1
          have h4 := ha.2.2
          unfold mTo at h3 h4
          have s1 : gSX (σ 134 0) d = 0 := by simp only at h3; grind
          have s2 : gSY (σ 134 0) d = 0 := by simp only at h4; grind
          exact step_nz hd ⟨s1, s2⟩
        rw [hx.1, show kb true = 1 from rfl, if_neg (show ¬ (1 : Int32) = 0 by decide), hbj, m_c (show j < 30 by omega) (w := 0) (by decide) (W := 0) rfl, Option.bind_some, if_pos hx.2, if_neg (show ¬ (1 : Int32) = 0 by decide)]
        obtain ⟨τ1, f1, h1, h2, e1⟩ := @hgo 1 (nI j) (nI d) 1
        rw [e1, if_neg (show ¬ (1 : Int32) = 0 by decide)]
        obtain ⟨τ2, e2, h3, h4, f2⟩ := @m_lies τ1 j (by omega) _ _ hS0
        rw [e2, Option.bind_some]
        simp only [w8, z8, if_true, klet_eq]
        obtain ⟨τ3, e4, h5, f3⟩ := @m_go (su τ2 134 8 (τ2 134 8 + 1)) k hk30 (nI d) 1
        rw [e4]
        rw [hx.1] at e3
        rw [e3]
        refine ⟨τ3, rfl, ?_, fun x y hxy => ?_, fun p p1 p2 => by rw [f3 p p1, su_k p1, f2 p p1 p2, f1 p p1 p2]⟩
        · rw [h5, su_v, h3, h1]
          unfold mExc
          rw [mPos_lo (by decide), mPos_lo (by decide)]
        · rw [f3 142 (by decide), su_k (by decide), h4, h2, bd_exc ok hk hi hj ha hkj, hB x y hxy]
          have q1 : (mk x y = mk (mTo (σ 134) k d).1 (mTo (σ 134) k d).2) ↔ (x = (mTo (σ 134) k d).1 ∧ y = (mTo (σ 134) k d).2) := ⟨fun c => mk_inj hxy hS c, fun c => by rw [c.1, c.2]⟩
          have q2 : (mk x y = mk (mC (σ 134) k 3) (mC (σ 134) k 4)) ↔ (x = mC (σ 134) k 3 ∧ y = mC (σ 134) k 4) := ⟨fun c => mk_inj hxy hS0 c, fun c => by rw [c.1, c.2]⟩
          simp only [q1, q2]
          by_cases g1 : x = mC (σ 134) k 3 ∧ y = mC (σ 134) k 4
          · rw [if_pos g1, if_pos g1]
          · rw [if_neg g1, if_neg g1, if_neg g1]
      · have e3 : mTry (σ 134) k d ex = (false, σ 134) := by
          unfold mTry
          rw [if_pos hb, if_neg hne, hbj, nI_n (by omega), if_neg hx]
        rw [e3]
        cases hex : ex with
        | false =>
          rw [show kb false = 0 from rfl, if_pos rfl, if_pos trivial]
          exact ⟨σ, rfl, rfl, hB, f42_refl⟩
        | true =>
          rw [show kb true = 1 from rfl, if_neg (show ¬ (1 : Int32) = 0 by decide), hbj, m_c (show j < 30 by omega) (w := 0) (by decide) (W := 0) rfl, Option.bind_some, if_neg (fun c => hx ⟨hex, c⟩), if_pos trivial]
          exact ⟨σ, rfl, rfl, hB, f42_refl⟩
  · rw [if_neg hb, try_no hb]
    exact ⟨σ, rfl, rfl, hB, f42_refl⟩
end MM
