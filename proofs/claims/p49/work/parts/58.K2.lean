/-! the law's small methods, and the drawing of numbers -/
/-- t numbers were drawn -/
def TD (t : Nat) (σ : Sto) : Prop := σ 133 1 = nI t
theorem and31 (x : Int32) : ∃ w : Nat, w < 2 ^ 31 ∧ x &&& 2147483647 = nI w := by
  have h : (x &&& 2147483647).toBitVec.toNat ≤ 2147483647 := by
    rw [Int32.toBitVec_and, BitVec.toNat_and]
    exact Nat.and_le_right
  have h2 : (x &&& 2147483647).toInt = ((x &&& 2147483647).toBitVec.toNat : Int) := by
    show (x &&& 2147483647).toBitVec.toInt = _
    rw [BitVec.toInt_eq_toNat_cond, if_pos (by omega)]
  have h0 : 0 ≤ x &&& 2147483647 := by
    rw [Int32.le_iff_toInt_le, h2]
    show (0 : Int) ≤ _
    omega
  refine ⟨(x &&& 2147483647).toNatClampNeg, ?_, (i32_nI h0).symm⟩
  unfold Int32.toNatClampNeg
  rw [h2]
  omega
section K2
variable {σ τ ρ : Sto} {m : Vc} {ps : List Vc} {sh : KSh}
theorem k_pick {t : Nat} (ht : t < 100000) : ∃ w : Nat, w < 2 ^ 31 ∧ fL_pick sh (nI t) = some (nI w) := by
  unfold fL_pick
  by_cases h : nI (scl sh) ≤ nI t
  · rw [if_pos h]
    obtain ⟨w, h1, h2⟩ := and31 (97 * nI t + 5)
    exact ⟨w, h1, by rw [h2]⟩
  · rw [if_neg h]
    have h3 : t < scl sh := by
      rcases Nat.lt_or_ge t (scl sh) with h4 | h4
      · exact h4
      · exact absurd ((dI_le (by omega) (by omega)).2 h4) h
    rw [if_pos (by
      unfold kin
      rw [nI_n (by omega)]
      have := @nI_lt0 t (by omega)
      simp only [Bool.and_eq_true, decide_eq_true_eq]
      exact ⟨by grind, h3⟩)]
    obtain ⟨w, h1, h2⟩ := and31 (scx sh (nI t).toNatClampNeg)
    exact ⟨w, h1, by rw [h2]⟩
theorem k_draw {t d : Nat} (h : TD t σ) (ht : t < 90000) (h0 : 0 < d) (hd : d < 1000000) {D : Int32} (hD : D = nI d) : ∃ w : Nat, w < d ∧ fX7_next sh D σ = some (nI w, su σ 133 1 (nI (t + 1))) ∧ TD (t + 1) (su σ 133 1 (nI (t + 1))) := by
  subst hD
  obtain ⟨w, h1, h2⟩ := k_pick (sh := sh) (t := t + 1) (by omega)
  refine ⟨w % d, Nat.mod_lt _ h0, ?_, su_eq⟩
  unfold fX7_next
  rw [klet_eq, h, nI_add1, su_eq, h2, Option.bind_some, if_neg (fun c => by have := (nI_inj (b := 0) (by omega) (by omega)).1 c; omega)]
  unfold krem
  rw [pk_rem h1 h0 (by omega)]
/-- what a draw writes -/
theorem cx_draw {v : Int32} (hp : ∀ p, p ≠ 133 → τ p = su σ 133 1 v p) : ∀ p, p ≠ 133 → τ p = σ p := fun p h => by rw [hp p h, su_k h]
theorem inv_draw {v : Int32} (h : INV m ps σ) : INV m ps (su σ 133 1 v) := ⟨⟨h.1.1, bx_frame h.1.2 (fun p a b => su_k (by omega))⟩, rg_of h.2 (fun p hp => su_k (by omega))⟩
theorem td_ax {t : Nat} (h : TD t σ) (hf : AX σ τ) : TD t τ := by unfold TD; rw [hf 133 (by omega)]; exact h
theorem td_cx {t : Nat} (h : TD t σ) (hf : CX σ τ) : TD t τ := td_ax h (ax_cx hf)
theorem k_isHex (h : NW m σ) : fL_isHex σ = some (gHex (m 0), σ) := by
  unfold fL_isHex
  rw [k_count_14 h, Option.bind_some, if_pos rfl]
  unfold gDirs
  cases gHex (m 0)
  · rw [if_neg Bool.false_ne_true]; rfl
  · rw [if_pos rfl]; rfl
theorem k_size (z : Int32) : fL_size z = some (fX7_abs z) := by
  unfold fL_size fX7_abs
  split <;> rfl
theorem abs_fin : ∀ R, R < 7 → ∀ i, i < 15 → fX7_isIn (nI i - 7) (-(nI R)) (nI R) = !decide (nI R < fX7_abs (nI i - 7)) := by decide
theorem abs_in {r x : Int32} (hr : rOK r) (h1 : -7 ≤ x) (h2 : x ≤ 7) : fX7_isIn x (-r) r = !decide (r < fX7_abs x) := by
  obtain ⟨R, r1, r6, rfl⟩ := isIn_1 (a := r) (hi := 6) (by decide) (isIn_iff.2 hr)
  exact co_enum (P := fun x => fX7_isIn x (-(nI R)) (nI R) = !decide (nI R < fX7_abs x)) (abs_fin R (by omega)) x h1 h2
theorem k_isNear (h : NW m σ) {x y : Int32} (hR : inR x y) : fL_isNear x y σ = some (gNear (m 0) (m 1) x y, σ) := by
  have hr := h.1.2.1
  unfold fL_isNear gNear
  rw [k_count_1 h, Option.bind_some, if_pos rfl, k_size, Option.bind_some, abs_in hr hR.1.1 hR.1.2, abs_in hr hR.2.1 hR.2.2]
  show (if m 1 < fX7_abs x then _ else _) = _
  by_cases h1 : m 1 < fX7_abs x
  · rw [if_pos h1, decide_eq_true h1]; rfl
  · rw [if_neg h1, decide_eq_false h1, k_size, Option.bind_some]
    show (if m 1 < fX7_abs y then _ else _) = _
    by_cases h2 : m 1 < fX7_abs y
    · rw [if_pos h2, decide_eq_true h2]; rfl
    · rw [if_neg h2, decide_eq_false h2, k_isHex h, Option.bind_some]
      cases hh : gHex (m 0) with
      | false => rw [if_neg Bool.false_ne_true]; rfl
      | true =>
        rw [if_pos rfl, k_size, Option.bind_some]
        show (if m 1 < fX7_abs (x + y) then _ else _) = _
        by_cases h3 : m 1 < fX7_abs (x + y)
        · rw [if_pos h3, decide_eq_true h3]; rfl
        · rw [if_neg h3, decide_eq_false h3]; rfl
theorem lt_dec {x : Int32} : decide (0 ≤ x) = !decide (x < 0) := by
  by_cases h : x < 0
  · rw [decide_eq_true h, decide_eq_false (by grind)]; rfl
  · rw [decide_eq_false h, decide_eq_true (by grind)]; rfl
theorem k_isBox (h : NW m σ) {x y : Int32} (hR : inR x y) : fL_isBox x y σ = some (gBox (m 0) (m 1) x y, σ) := by
  unfold fL_isBox gBox
  rw [k_isNear h hR, Option.bind_some]
  cases hn : gNear (m 0) (m 1) x y with
  | false => rw [if_neg Bool.false_ne_true]; rfl
  | true =>
    rw [if_pos rfl, k_count_0 h, Option.bind_some, if_pos rfl]
    unfold gBet fL_isBox_L46
    rw [lt_dec, lt_dec]
    dsimp only
    by_cases h1 : m 0 = 180
    · rw [if_pos h1, if_pos h1]
      by_cases h2 : y < 0
      · rw [if_pos h2, decide_eq_true h2]; rfl
      · rw [if_neg h2, decide_eq_false h2]; rfl
    · rw [if_neg h1, if_neg h1]
      have e46 : (if x < 0 then some (false, σ) else if y < 0 then some (false, σ) else some (true, σ)) = some (true && (!decide (x < 0) && !decide (y < 0)), σ) := by
        by_cases h2 : x < 0
        · rw [if_pos h2, decide_eq_true h2]; rfl
        · rw [if_neg h2, decide_eq_false h2]
          by_cases h3 : y < 0
          · rw [if_pos h3, decide_eq_true h3]; rfl
          · rw [if_neg h3, decide_eq_false h3]; rfl
      by_cases h2 : m 0 = 90
      · rw [if_pos h2, if_pos (Or.inl h2 : m 0 = 90 ∨ m 0 = 60)]; exact e46
      · rw [if_neg h2]
        by_cases h3 : m 0 = 60
        · rw [if_pos h3, if_pos (Or.inr h3 : m 0 = 90 ∨ m 0 = 60)]; exact e46
        · rw [if_neg h3, if_neg (fun c => c.elim h2 h3 : ¬ (m 0 = 90 ∨ m 0 = 60))]
          by_cases h4 : y < 0
          · rw [if_pos h4, decide_eq_true h4]; rfl
          · rw [if_neg h4, decide_eq_false h4]
            by_cases h5 : x < y
            · rw [if_pos h5, decide_eq_false (show ¬ y ≤ x by grind)]; rfl
            · rw [if_neg h5, decide_eq_true (show y ≤ x by grind)]; rfl
end K2
