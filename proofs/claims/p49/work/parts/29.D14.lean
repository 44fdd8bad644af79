def mSet (m : Vc) (k w : Nat) (v : Int32) : Vc := vset m (10 + 7 * k + w) v
section MV
variable {m : Vc} {k j w u : Nat} {v : Int32}
theorem mC_set (hw : w < 7) (hu : u < 7) : mC (mSet m k w v) j u = if j = k ∧ u = w then v else mC m j u := by
  unfold mC mSet vset
  by_cases h : j = k ∧ u = w
  · rw [if_pos h, if_pos (by omega)]
  · rw [if_neg h, if_neg (by omega)]
theorem mSet_lo {i : Nat} (hi : i < 10) : mSet m k w v i = m i := by
  unfold mSet vset
  rw [if_neg (by omega)]
theorem mC_vset {i : Nat} (hi : i < 10) : mC (vset m i v) j u = mC m j u := by
  unfold mC vset
  rw [if_neg (by omega)]
theorem vset_lo {i i' : Nat} : vset m i v i' = if i' = i then v else m i' := rfl
def mPos (m : Vc) (k : Nat) (x y : Int32) : Vc := mSet (mSet m k 3 x) k 4 y
def mGo (m : Vc) (k : Nat) : Vc := vset (mSet m k 5 (mC m k 5 + 1)) 7 (m 7 + 1)
def mMove (m : Vc) (k : Nat) (x y : Int32) : Vc := mGo (mPos m k x y) k
def mExc (m : Vc) (k j : Nat) (x y x0 y0 : Int32) : Vc := mGo (vset (mPos (mPos m k x y) j x0 y0) 8 (m 8 + 1)) k
theorem mPos_C {x y : Int32} (hu : u < 7) : mC (mPos m k x y) j u = if j = k ∧ u = 3 then x else if j = k ∧ u = 4 then y else mC m j u := by
  unfold mPos
  rw [mC_set (by decide) hu, mC_set (by decide) hu]
  by_cases h : j = k ∧ u = 4
  · rw [if_pos h, if_neg (by omega), if_pos h]
  · rw [if_neg h, if_neg h]
theorem mGo_C (hu : u < 7) : mC (mGo m k) j u = if j = k ∧ u = 5 then mC m k 5 + 1 else mC m j u := by
  unfold mGo
  rw [mC_vset (by decide), mC_set (by decide) hu]
theorem mPos_lo {x y : Int32} {i : Nat} (hi : i < 10) : mPos m k x y i = m i := by
  unfold mPos
  rw [mSet_lo hi, mSet_lo hi]
theorem mGo_lo {i : Nat} (hi : i < 10) : mGo m k i = if i = 7 then m 7 + 1 else m i := by
  unfold mGo
  rw [vset_lo, mSet_lo hi]
theorem mMove_C {x y : Int32} (hu : u < 7) : mC (mMove m k x y) j u = if j = k then (if u = 3 then x else if u = 4 then y else if u = 5 then mC m k 5 + 1 else mC m k u) else mC m j u := by
  unfold mMove
  rw [mGo_C hu, mPos_C hu, mPos_C (by decide)]
  by_cases h : j = k
  · subst h
    by_cases h3 : u = 3
    · subst h3; simp
    · by_cases h4 : u = 4
      · subst h4; simp
      · by_cases h5 : u = 5
        · subst h5; simp
        · simp [h3, h4, h5]
  · simp [h]
theorem mMove_lo {x y : Int32} {i : Nat} (hi : i < 10) : mMove m k x y i = if i = 7 then m 7 + 1 else m i := by
  unfold mMove
  rw [mGo_lo hi, mPos_lo hi, mPos_lo (by decide)]
theorem mExc_C {x y x0 y0 : Int32} (hkj : k ≠ j) {i : Nat} (hu : u < 7) : mC (mExc m k j x y x0 y0) i u = if i = k then (if u = 3 then x else if u = 4 then y else if u = 5 then mC m k 5 + 1 else mC m k u) else if i = j then (if u = 3 then x0 else if u = 4 then y0 else mC m j u) else mC m i u := by
  unfold mExc
  simp only [mGo_C hu, mC_vset (show 8 < 10 by decide), mPos_C hu, mPos_C (show 5 < 7 by decide)]
  by_cases h : i = k
  · subst h
    by_cases h3 : u = 3
    · subst h3; simp [hkj]
    · by_cases h4 : u = 4
      · subst h4; simp [hkj]
      · by_cases h5 : u = 5
        · subst h5; simp
        · simp [h3, h4, h5]
  · by_cases h' : i = j
    · subst h'
      simp [h]
    · simp [h, h']
theorem mExc_lo {x y x0 y0 : Int32} {i : Nat} (hi : i < 10) : mExc m k j x y x0 y0 i = if i = 7 then m 7 + 1 else if i = 8 then m 8 + 1 else m i := by
  unfold mExc
  rw [mGo_lo hi, vset_lo, vset_lo, mPos_lo hi, mPos_lo hi]
  by_cases h : i = 7
  · rw [if_pos h, if_pos h, if_neg (by decide), mPos_lo (by decide), mPos_lo (by decide)]
  · rw [if_neg h, if_neg h]
end MV
section BD
variable {m m' : Vc}
theorem bd_same (hN : mN m' = mN m) {x y : Int32} (h : ∀ j, j < mN m → (mAt m' x y j ↔ mAt m x y j)) : mBd m' x y = mBd m x y := by
  unfold mBd
  rw [hN]
  have : ∀ n, n ≤ mN m → mBdL m' x y n = mBdL m x y n := by
    intro n
    induction n with
    | zero => intro _; rfl
    | succ n ih =>
      intro hn
      unfold mBdL
      rw [ih (by omega)]
      have h1 := h n (by omega)
      by_cases h2 : mAt m x y n
      · rw [if_pos h2, if_pos (h1.2 h2)]
      · rw [if_neg h2, if_neg (fun c => h2 (h1.1 c))]
  exact this _ (Nat.le_refl _)
/-- what a change of chips' places must keep -/
def Geo (m m' : Vc) : Prop := m' 0 = m 0 ∧ m' 1 = m 1 ∧ m' 2 = m 2 ∧ m' 3 = m 3 ∧ m' 5 = m 5 ∧ m' 6 = m 6
theorem geo_N (h : Geo m m') : mN m' = mN m := by unfold mN; rw [h.2.2.2.2.1]
theorem ok_geo (ok : OKm m) (h : Geo m m') (h1 : ∀ k, k < mN m → OKc m' k) (h2 : ∀ k j, k < mN m → j < mN m → mC m' k 6 = 1 → mC m' j 6 = 1 → mC m' k 3 = mC m' j 3 → mC m' k 4 = mC m' j 4 → k = j) : OKm m' := by
  obtain ⟨g0, g1, g2, g3, g5, g6⟩ := h
  have hN : mN m' = mN m := by unfold mN; rw [g5]
  have hD : mD m' = mD m := by unfold mD; rw [g2]
  have hV : mV m' = mV m := by unfold mV; rw [g6]
  obtain ⟨a, b, c, d, e, f, _, _⟩ := ok
  refine ⟨by rw [g0]; exact a, by rw [g1]; exact b, by rw [g2, hD, g0]; exact c, by rw [g3]; exact d, by rw [g5, hN]; exact e, by rw [g6, hV]; exact f, ?_, ?_⟩
  · rw [hN]; exact h1
  · rw [hN]; exact h2
variable {k : Nat} {x y : Int32}
theorem geo_move : Geo m (mMove m k x y) := by
  unfold Geo
  refine ⟨?_, ?_, ?_, ?_, ?_, ?_⟩ <;> rw [mMove_lo (by decide)] <;> rfl
theorem geo_exc {j : Nat} {x0 y0 : Int32} : Geo m (mExc m k j x y x0 y0) := by
  unfold Geo
  refine ⟨?_, ?_, ?_, ?_, ?_, ?_⟩ <;> rw [mExc_lo (by decide)] <;> rfl
theorem at_none (h : mBd m x y = -1) {j : Nat} (hj : j < mN m) (hn : mN m ≤ 30) : ¬ mAt m x y j := by
  rcases mBd_cases m x y with ⟨_, h2⟩ | ⟨i, h1, h2, h3⟩
  · exact h2 j hj
  · rw [h3] at h
    exact absurd h (nI_ne1 (by omega))
theorem ok_move (ok : OKm m) (hk : k < mN m) (hi : mC m k 6 = 1) (hb : gBox (m 0) (m 1) x y = true) (hf : mBd m x y = -1) : OKm (mMove m k x y) := by
  have hn := came_le ok
  refine ok_geo ok geo_move (fun j hj => ?_) (fun i j hi' hj h1 h2 h3 h4 => ?_)
  · have ho := ok_chip ok hj
    unfold OKc at ho ⊢
    rw [mMove_C (by decide), mMove_C (by decide), mMove_C (by decide), mMove_C (by decide), mMove_C (by decide), mMove_C (by decide), geo_move.1, geo_move.2.1]
    by_cases hjk : j = k
    · subst hjk
      simp only [if_true]
      exact ⟨ho.1, ho.2.1, ho.2.2.1, ho.2.2.2.1, fun _ => hb⟩
    · simp only [if_neg hjk]
      exact ho
  · rw [mMove_C (by decide)] at h1 h2 h3 h4
    rw [mMove_C (by decide)] at h3 h4
    by_cases hik : i = k
    · by_cases hjk : j = k
      · rw [hik, hjk]
      · rw [if_pos hik, if_neg hjk] at h3 h4
        rw [if_neg hjk] at h2
        exact absurd ⟨h2, h3.symm, h4.symm⟩ (at_none hf hj hn)
    · by_cases hjk : j = k
      · rw [if_neg hik, if_pos hjk] at h3 h4
        rw [if_neg hik] at h1
        exact absurd ⟨h1, h3, h4⟩ (at_none hf hi' hn)
      · rw [if_neg hik, if_neg hjk] at h3 h4
        rw [if_neg hik] at h1
        rw [if_neg hjk] at h2
        exact ok.2.2.2.2.2.2.2 i j hi' hj h1 h2 h3 h4
theorem bd_move (ok : OKm m) (hk : k < mN m) (hi : mC m k 6 = 1) (hb : gBox (m 0) (m 1) x y = true) (hf : mBd m x y = -1) (u v : Int32) :
    mBd (mMove m k x y) u v = if u = x ∧ v = y then nI k else if u = mC m k 3 ∧ v = mC m k 4 then -1 else mBd m u v := by
  have ok' := ok_move ok hk hi hb hf
  have hN := geo_N (@geo_move m k x y)
  have hn := came_le ok
  by_cases h1 : u = x ∧ v = y
  · rw [if_pos h1]
    refine mBd_of ok' (by rw [hN]; exact hk) ⟨?_, ?_, ?_⟩
    · rw [mMove_C (by decide), if_pos rfl]; exact hi
    · rw [mMove_C (by decide), if_pos rfl]; exact h1.1.symm
    · rw [mMove_C (by decide), if_pos rfl]; exact h1.2.symm
  · rw [if_neg h1]
    have hkA : ¬ mAt (mMove m k x y) u v k := by
      intro c
      have c3 := c.2.1
      have c4 := c.2.2
      rw [mMove_C (by decide), if_pos rfl] at c3 c4
      exact h1 ⟨c3.symm, c4.symm⟩
    have hjA : ∀ j, j ≠ k → (mAt (mMove m k x y) u v j ↔ mAt m u v j) := by
      intro j hj
      unfold mAt
      rw [mMove_C (by decide), mMove_C (by decide), mMove_C (by decide), if_neg hj, if_neg hj, if_neg hj]
    by_cases h2 : u = mC m k 3 ∧ v = mC m k 4
    · rw [if_pos h2]
      refine mBd_no (fun j hj => ?_)
      rw [hN] at hj
      by_cases hjk : j = k
      · subst hjk; exact hkA
      · rw [hjA j hjk]
        intro c
        exact hjk (ok_uniq ok hj hk c ⟨hi, h2.1.symm, h2.2.symm⟩)
    · rw [if_neg h2]
      refine bd_same hN (fun j hj => ?_)
      by_cases hjk : j = k
      · subst hjk
        constructor
        · exact fun c => absurd c hkA
        · exact fun c => absurd ⟨c.2.1.symm, c.2.2.symm⟩ h2
      · exact hjA j hjk
theorem ok_exc (ok : OKm m) (hk : k < mN m) (hi : mC m k 6 = 1) {j : Nat} (hj : j < mN m) (ha : mAt m x y j) (hkj : k ≠ j) : OKm (mExc m k j x y (mC m k 3) (mC m k 4)) := by
  refine ok_geo ok geo_exc (fun i hi' => ?_) (fun i i' hi1 hi2 h1 h2 h3 h4 => ?_)
  · have ho := ok_chip ok hi'
    have hok := ok_chip ok hk
    have hoj := ok_chip ok hj
    unfold OKc at ho hok hoj ⊢
    rw [mExc_C hkj (by decide), mExc_C hkj (by decide), mExc_C hkj (by decide), mExc_C hkj (by decide), mExc_C hkj (by decide), mExc_C hkj (by decide), geo_exc.1, geo_exc.2.1]
    by_cases hik : i = k
    · subst hik
      simp only [if_true]
      refine ⟨ho.1, ho.2.1, ho.2.2.1, ho.2.2.2.1, fun _ => ?_⟩
      have := hoj.2.2.2.2 ha.1
      rw [ha.2.1, ha.2.2] at this
      exact this
    · by_cases hij : i = j
      · subst hij
        simp only [if_neg hik, if_true]
        exact ⟨ho.1, ho.2.1, ho.2.2.1, ho.2.2.2.1, fun _ => hok.2.2.2.2 hi⟩
      · simp only [if_neg hik, if_neg hij]
        exact ho
  · have e : ∀ i, mC (mExc m k j x y (mC m k 3) (mC m k 4)) i 6 = mC m i 6 := by
      intro i
      rw [mExc_C hkj (by decide)]
      by_cases hik : i = k
      · subst hik; simp
      · by_cases hij : i = j
        · subst hij; simp [hik]
        · simp [hik, hij]
    have hu := ok.2.2.2.2.2.2.2
    rw [e] at h1 h2
    rw [mExc_C hkj (by decide), mExc_C hkj (by decide)] at h3 h4
    have g3 : ∀ i, (if i = k then (if (3 : Nat) = 3 then x else if (3 : Nat) = 4 then y else if (3 : Nat) = 5 then mC m k 5 + 1 else mC m k 3) else if i = j then (if (3 : Nat) = 3 then mC m k 3 else if (3 : Nat) = 4 then mC m k 4 else mC m j 3) else mC m i 3) = mC m (if i = k then j else if i = j then k else i) 3 := by
      intro i
      by_cases hik : i = k
      · simp [hik, ha.2.1]
      · by_cases hij : i = j
        · simp [hij, Ne.symm hkj]
        · simp [hik, hij]
    have g4 : ∀ i, (if i = k then (if (4 : Nat) = 3 then x else if (4 : Nat) = 4 then y else if (4 : Nat) = 5 then mC m k 5 + 1 else mC m k 4) else if i = j then (if (4 : Nat) = 3 then mC m k 3 else if (4 : Nat) = 4 then mC m k 4 else mC m j 4) else mC m i 4) = mC m (if i = k then j else if i = j then k else i) 4 := by
      intro i
      by_cases hik : i = k
      · simp [hik, ha.2.2]
      · by_cases hij : i = j
        · simp [hij, Ne.symm hkj]
        · simp [hik, hij]
    have g6 : ∀ i, mC m i 6 = 1 → mC m (if i = k then j else if i = j then k else i) 6 = 1 := by
      intro i h
      by_cases hik : i = k
      · simp [hik, ha.1]
      · by_cases hij : i = j
        · simp [hij, Ne.symm hkj, hi]
        · simp [hik, hij, h]
    have gN : ∀ i, i < mN m → (if i = k then j else if i = j then k else i) < mN m := by
      intro i h
      split
      · exact hj
      · split
        · exact hk
        · exact h
    rw [g3, g3] at h3
    rw [g4, g4] at h4
    have := hu _ _ (gN i hi1) (gN i' hi2) (g6 i h1) (g6 i' h2) h3 h4
    by_cases hik : i = k
    · by_cases hik' : i' = k
      · omega
      · by_cases hij' : i' = j
        · simp [hik, hij', Ne.symm hkj] at this <;> omega
        · simp [hik, hik', hij'] at this <;> omega
    · by_cases hij : i = j
      · by_cases hik' : i' = k
        · simp [hij, hik', Ne.symm hkj] at this <;> omega
        · by_cases hij' : i' = j
          · omega
          · simp [hij, hik', hij', Ne.symm hkj] at this <;> omega
      · by_cases hik' : i' = k
        · simp [hik, hij, hik'] at this <;> omega
        · by_cases hij' : i' = j
          · simp [hik, hij, hij', Ne.symm hkj] at this <;> omega
          · simp [hik, hij, hik', hij'] at this; exact this
theorem bd_exc (ok : OKm m) (hk : k < mN m) (hi : mC m k 6 = 1) {j : Nat} (hj : j < mN m) (ha : mAt m x y j) (hkj : k ≠ j) (u v : Int32) :
    mBd (mExc m k j x y (mC m k 3) (mC m k 4)) u v = if u = mC m k 3 ∧ v = mC m k 4 then nI j else if u = x ∧ v = y then nI k else mBd m u v := by
  have ok' := ok_exc ok hk hi hj ha hkj
  have hN := geo_N (@geo_exc m k x y j (mC m k 3) (mC m k 4))
  by_cases h1 : u = mC m k 3 ∧ v = mC m k 4
  · rw [if_pos h1]
    refine mBd_of ok' (by rw [hN]; exact hj) ⟨?_, ?_, ?_⟩
    · rw [mExc_C hkj (by decide), if_neg (Ne.symm hkj), if_pos rfl]; exact ha.1
    · rw [mExc_C hkj (by decide), if_neg (Ne.symm hkj), if_pos rfl]; exact h1.1.symm
    · rw [mExc_C hkj (by decide), if_neg (Ne.symm hkj), if_pos rfl]; exact h1.2.symm
  · rw [if_neg h1]
    by_cases h2 : u = x ∧ v = y
    · rw [if_pos h2]
      refine mBd_of ok' (by rw [hN]; exact hk) ⟨?_, ?_, ?_⟩
      · rw [mExc_C hkj (by decide), if_pos rfl]; exact hi
      · rw [mExc_C hkj (by decide), if_pos rfl]; exact h2.1.symm
      · rw [mExc_C hkj (by decide), if_pos rfl]; exact h2.2.symm
    · rw [if_neg h2]
      refine bd_same hN (fun i hi' => ?_)
      unfold mAt
      rw [mExc_C hkj (by decide), mExc_C hkj (by decide), mExc_C hkj (by decide)]
      by_cases hik : i = k
      · subst hik
        simp only [if_true]
        constructor
        · intro c; exact absurd ⟨c.2.1.symm, c.2.2.symm⟩ h2
        · intro c; exact absurd ⟨c.2.1.symm, c.2.2.symm⟩ h1
      · by_cases hij : i = j
        · subst hij
          simp only [if_neg hik, if_true]
          constructor
          · intro c; exact absurd ⟨c.2.1.symm, c.2.2.symm⟩ h1
          · intro c; exact absurd ⟨by rw [← c.2.1, ha.2.1], by rw [← c.2.2, ha.2.2]⟩ h2
        · simp only [if_neg hik, if_neg hij]
end BD
