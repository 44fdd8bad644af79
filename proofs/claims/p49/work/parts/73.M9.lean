/-! the box as it is made; what the law asks first -/
theorem new_N0 : mN (mNew 60 3) = 0 := by decide
theorem new_bd (x y : Int32) : mBd (mNew 60 3) x y = -1 := mBd_no (fun k hk => absurd hk (by rw [new_N0]; omega))
theorem new_col (x y : Int32) : mCol (mNew 60 3) x y = 0 := by
  unfold mCol mColC
  split
  · rfl
  · rw [if_pos (new_bd _ _)]
theorem new_com : gCom (mNew 60 3) 0 9 1 = -1 := by
  rcases com_cases (m := mNew 60 3) 9 1 with ⟨h, -⟩ | ⟨i, h1, h2, -, h4, -⟩
  · exact h
  · exfalso
    have e : nCol (mNew 60 3) (nI i) = 0 := by
      unfold nCol
      refine sm_0 fun k _ => ?_
      rw [new_col, decide_eq_false (fun c => by have := (nI_inj (a := 0) (by omega) (by omega)).1 c; omega), Bool.and_false]
    rw [e] at h4
    exact absurd h4 (by decide)
theorem new_ed : nEd (mNew 60 3) = 0 := by
  unfold nEd
  refine sm_zero fun k _ => ?_
  unfold ed
  refine sm_0 fun d _ => ?_
  unfold edB
  rw [new_col]
  simp
theorem new_ord (b : Bool) : mOrd (mNew 60 3) b = [] := by
  unfold mOrd
  rw [new_N0]
  rfl
theorem new_tk : mTkN (mNew 60 3) = 0 := by
  have e1 : mP1 (mNew 60 3) = (0, mNew 60 3) := by unfold mP1; rw [new_ord]; rfl
  unfold mTkN mP2
  rw [e1]
  show 0 + (mPh mRise (mOrd (mNew 60 3) true) (mNew 60 3)).1 = 0
  rw [new_ord]
  rfl
theorem new_pic : nPic (mNew 60 3) = 37 := by decide +kernel
theorem new_inv {σ : Sto} (h : BX σ 25 (mNew 60 3)) (h3 : σ 0 3 = 0) (h4 : σ 0 4 = 0) : INV (mNew 60 3) [] σ :=
  ⟨⟨ok_new (.inr (.inr (.inr (.inl rfl)))) ⟨by decide, by decide⟩, h⟩, 0, ⟨by omega, Nat.zero_le _⟩, ⟨h4, h3⟩, fun j p hp => by cases hp⟩
theorem ang_law : ∀ a, a < 5 → fL_angle (nI a) = some (nI (angN a)) := by decide
theorem ang_lt : ∀ a, a < 5 → angN a < 200 := by decide
theorem dgs_lt {v : Nat} (h : v < 200) : ∀ c, c ∈ dgs v → c < 128 := by
  have : ∀ v, v < 200 → ∀ c, c ∈ dgs v → c < 128 := by decide +kernel
  exact this v h
theorem dgs_le (v : Nat) : (dgs v).length ≤ 3 := by
  unfold dgs
  split
  · exact Nat.le_of_ble_eq_true rfl
  · split <;> exact Nat.le_of_ble_eq_true rfl
theorem txt_lt {a r k : Nat} (ha : a < 5) (hr : r < 4) (hk : k < 100) : ∀ c, c ∈ txt a r k → c < 128 := by
  intro c hc
  unfold txt at hc
  have e0 : ∀ c, c ∈ tx0 → c < 128 := by decide
  have e1 : ∀ c, c ∈ tx1 → c < 128 := by decide
  have e2 : ∀ c, c ∈ tx2 → c < 128 := by decide
  rcases List.mem_append.mp hc with h | hc
  · exact e0 c h
  rcases List.mem_append.mp hc with h | hc
  · exact dgs_lt (ang_lt a ha) c h
  rcases List.mem_append.mp hc with h | hc
  · exact e1 c h
  rcases List.mem_append.mp hc with h | hc
  · exact dgs_lt (by omega) c h
  rcases List.mem_append.mp hc with h | hc
  · exact e2 c h
  rcases List.mem_append.mp hc with h | hc
  · exact dgs_lt (by omega) c h
  · have := List.mem_singleton.mp hc
    omega
theorem rg_bx5 {ps : List Vc} {σ τ : Sto} (h : RG ps σ) (hf : BX5 σ τ) : RG ps τ := rg_of h (fun p hp => hf p (by omega) (by omega))
