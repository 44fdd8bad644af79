section SHR
theorem and255 (x : Int32) : 0 ≤ x &&& 255 ∧ x &&& 255 ≤ 255 := by
  have h : (x &&& 255).toBitVec.toNat ≤ 255 := by
    rw [Int32.toBitVec_and, BitVec.toNat_and]
    exact Nat.and_le_right
  have h2 : (x &&& 255).toInt = ((x &&& 255).toBitVec.toNat : Int) := by
    show (x &&& 255).toBitVec.toInt = _
    rw [BitVec.toInt_eq_toNat_cond, if_pos (by omega)]
  constructor
  · rw [Int32.le_iff_toInt_le, h2]
    show (0 : Int) ≤ _
    omega
  · rw [Int32.le_iff_toInt_le, h2]
    show _ ≤ (255 : Int)
    omega
theorem bv_shr (x : BitVec 32) (n : Nat) (hn : n ≤ 24) : (x >>> n) &&& 255#32 = (x.sshiftRight n) &&& 255#32 := by
  apply BitVec.eq_of_getLsbD_eq
  intro i hi
  rw [BitVec.getLsbD_and, BitVec.getLsbD_and, BitVec.getLsbD_ushiftRight, BitVec.getLsbD_sshiftRight]
  by_cases h8 : i < 8
  · rw [if_pos (by omega)]
    have : decide (32 ≤ i) = false := decide_eq_false (by omega)
    rw [this, Bool.not_false, Bool.true_and]
  · have h0 : (255#32).getLsbD i = false := by
      have : ∀ j, j < 32 → ¬ j < 8 → (255#32).getLsbD j = false := by decide
      exact this i hi h8
    rw [h0, Bool.and_false, Bool.and_false]
theorem shr24 (x : Int32) : kushr x 24 &&& 255 = (x >>> ((24 : Int32) &&& 31)) &&& 255 := by
  apply Int32.toBitVec_inj.1
  rw [Int32.toBitVec_and, Int32.toBitVec_and]
  exact bv_shr x.toBitVec 24 (by decide)
theorem shr16 (x : Int32) : kushr x 16 &&& 255 = (x >>> ((16 : Int32) &&& 31)) &&& 255 := by
  apply Int32.toBitVec_inj.1
  rw [Int32.toBitVec_and, Int32.toBitVec_and]
  exact bv_shr x.toBitVec 16 (by decide)
theorem shr8 (x : Int32) : kushr x 8 &&& 255 = (x >>> ((8 : Int32) &&& 31)) &&& 255 := by
  apply Int32.toBitVec_inj.1
  rw [Int32.toBitVec_and, Int32.toBitVec_and]
  exact bv_shr x.toBitVec 8 (by decide)
theorem shr0 (x : Int32) : x &&& 255 = (x >>> ((0 : Int32) &&& 31)) &&& 255 := by
  have : x >>> ((0 : Int32) &&& 31) = x := by
    apply Int32.toBitVec_inj.1
    show x.toBitVec.sshiftRight 0 = x.toBitVec
    exact BitVec.sshiftRight_zero
  rw [this]
end SHR
section TXT
variable {σ : Sto}
/-- the relation but for the text -/
theorem rel_txt {σ2 : Sto} (h : REL σ) (hT : RT σ2) (hp : ∀ p, KeepR p → p ≠ 5 → p ≠ 6 → p ≠ 149 → p ≠ 154 → σ2 p = σ p) (h3 : ∀ i, i = 6 ∨ i = 34 → σ2 133 i = σ 133 i) : REL σ2 := by
  obtain ⟨a, ⟨u, e, b⟩, c, d, f, g⟩ := h
  exact ⟨rn_of a (fun p h1 => hp p (by unfold KeepR; omega) (by omega) (by omega) (by omega) (by omega)), ⟨u, e, ru_of b (fun p h1 => hp p (by unfold KeepR; omega) (by omega) (by omega) (by omega) (by omega)) (h3 6 (.inl rfl))⟩, rs_of c (fun p h1 => hp p (by unfold KeepR; omega) (by omega) (by omega) (by omega) (by omega)), ra_of d (hp 4 (by unfold KeepR; omega) (by omega) (by omega) (by omega) (by omega)) (hp 138 (by unfold KeepR; omega) (by omega) (by omega) (by omega) (by omega)), hT, rw_of g (hp 23 (by unfold KeepR; omega) (by omega) (by omega) (by omega) (by omega)) (hp 24 (by unfold KeepR; omega) (by omega) (by omega) (by omega) (by omega)) (hp 153 (by unfold KeepR; omega) (by omega) (by omega) (by omega) (by omega)) (h3 34 (.inr rfl))⟩
theorem c_addT {L : Nat} (h1 : σ 5 1 = nI L) (hL : L < 600) {v : Int32} : ∃ τ, fX4_addByte 5 v σ = some τ ∧ τ 5 1 = nI (L + 1) ∧ τ 6 = vset (σ 6) L (v &&& 255) ∧ (∀ i, i ≠ 1 → τ 5 i = σ 5 i) ∧ ∀ p, p ≠ 5 → p ≠ 6 → τ p = σ p := by
  have h0 := @nI_lt0 L (by omega)
  unfold fX4_addByte
  rw [h1, if_neg (show ¬ nI L < 0 by grind), if_neg (show ¬ (600 : Int32) ≤ nI L by rw [show (600 : Int32) = nI 600 from rfl, dI_le (by omega) (by omega)]; omega), if_pos (kin_nI hL (by decide)), klet_eq, klet_eq, nI_n (by omega)]
  refine ⟨_, rfl, ?_, ?_, fun i hi => ?_, fun p p1 p2 => ?_⟩
  · rw [su_eq, su_k (by decide), h1, nI_add1]
  · rw [su_k (by decide), su_v]
  · rw [su_i hi, su_k (by decide)]
  · rw [su_k p1, su_k p2]
theorem m_addT {L : Nat} {a : Int32} {v : Int32} {fu : Nat} (h1 : σ 133 21 = nI L) (hL : L < 600) (hv : ¬ v < 0) : fX7_appendText_L29 a (fu + 1) v σ = fX7_appendText_L29 a fu (v + (-8)) (su (su σ 149 L ((a >>> (v &&& 31)) &&& 255)) 133 21 (nI (L + 1))) := by
  rw [fX7_appendText_L29.eq_2, if_neg hv, h1, if_pos (kin_nI hL (by decide)), klet_eq, klet_eq, su_k (by decide), h1, nI_n (by omega), nI_add1]
end TXT
theorem q_append (a : Int32) : CALL (fX6_appendText a) (fX7_appendText a) [2] := by
  intro σ h
  obtain ⟨L, hL, t1, t2, t3, t4, t5⟩ := h.2.2.2.2.1
  have e4 : nI L + 4 = nI (L + 4) := nI_addn L 4
  have hle : (600 : Int32) < nI (L + 4) ↔ 600 < L + 4 := dI_lt (a := 600) (by omega) (by omega)
  unfold fX6_appendText fX4_hasRoom
  rw [t1, e4]
  by_cases hr : 600 < L + 4
  · rw [if_pos (hle.2 hr), if_neg Bool.false_ne_true]
    refine ⟨2, 0, σ, rfl, fun σ1' he => ⟨0, th σ1' 1, ?_, by rw [th_7]; exact thr_1 (by decide), fun c => absurd c (by decide), rel_fx' (rel_54 h he) fx_th, th_p (by decide)⟩⟩
    unfold fX7_appendText
    rw [he 133 (by decide), t2, e4, if_pos (hle.2 hr), m_goes0, Option.bind_some, if_neg Bool.false_ne_true]
  · rw [if_neg (fun c => hr (hle.1 c)), if_pos rfl]
    obtain ⟨τ1, a1, a2, a3, a4, a5⟩ := c_addT t1 (show L < 600 by omega) (v := kushr a 24)
    obtain ⟨τ2, b1, b2, b3, b4, b5⟩ := c_addT a2 (show L + 1 < 600 by omega) (v := kushr a 16)
    obtain ⟨τ3, c1, c2, c3, c4, c5⟩ := c_addT b2 (show L + 2 < 600 by omega) (v := kushr a 8)
    obtain ⟨τ4, d1, d2, d3, d4, d5⟩ := c_addT c2 (show L + 3 < 600 by omega) (v := a)
    have tp : ∀ p, p ≠ 5 → p ≠ 6 → τ4 p = σ p := fun p p1 p2 => by rw [d5 p p1 p2, c5 p p1 p2, b5 p p1 p2, a5 p p1 p2]
    have ti : ∀ i, i ≠ 1 → τ4 5 i = σ 5 i := fun i hi => by rw [d4 i hi, c4 i hi, b4 i hi, a4 i hi]
    have t6 : τ4 6 = vset (vset (vset (vset (σ 6) L (kushr a 24 &&& 255)) (L + 1) (kushr a 16 &&& 255)) (L + 2) (kushr a 8 &&& 255)) (L + 3) (a &&& 255) := by rw [d3, c3, b3, a3]
    refine ⟨0, nI (L + 4), τ4, ?_, fun σ1' he => ?_⟩
    · rw [a1, Option.bind_some, b1, Option.bind_some, c1, Option.bind_some, d1, Option.bind_some, d2]
    · have k21 : σ1' 133 21 = nI L := by rw [he 133 (by decide), tp 133 (by decide) (by decide), t2]
      have r21 : th σ1' 0 133 21 = nI L := by rw [th_i (by decide), k21]
      generalize hR : su (su (su (su (su (su (su (su (th σ1' 0) 149 L ((a >>> ((24 : Int32) &&& 31)) &&& 255)) 133 21 (nI (L + 1))) 149 (L + 1) ((a >>> ((16 : Int32) &&& 31)) &&& 255)) 133 21 (nI (L + 2))) 149 (L + 2) ((a >>> ((8 : Int32) &&& 31)) &&& 255)) 133 21 (nI (L + 3))) 149 (L + 3) ((a >>> ((0 : Int32) &&& 31)) &&& 255)) 133 21 (nI (L + 4)) = ρ
      have rp : ∀ p, p ≠ 133 → p ≠ 149 → ρ p = σ1' p := fun p p1 p2 => by rw [← hR, su_k p1, su_k p2, su_k p1, su_k p2, su_k p1, su_k p2, su_k p1, su_k p2, th_p p1]
      have ri : ∀ i, i ≠ 21 → i ≠ 7 → ρ 133 i = σ 133 i := fun i i1 i2 => by rw [← hR, su_i i1, su_k (by decide), su_i i1, su_k (by decide), su_i i1, su_k (by decide), su_i i1, su_k (by decide), th_i i2, he 133 (by decide), tp 133 (by decide) (by decide)]
      have r7 : ρ 133 7 = 0 := by rw [← hR, su_i (by decide), su_k (by decide), su_i (by decide), su_k (by decide), su_i (by decide), su_k (by decide), su_i (by decide), su_k (by decide), th_7]
      have r21' : ρ 133 21 = nI (L + 4) := by rw [← hR, su_eq]
      have r149 : ρ 149 = vset (vset (vset (vset (σ 149) L (kushr a 24 &&& 255)) (L + 1) (kushr a 16 &&& 255)) (L + 2) (kushr a 8 &&& 255)) (L + 3) (a &&& 255) := by
        rw [← hR, su_k (by decide), su_v, su_k (by decide), su_v, su_k (by decide), su_v, su_k (by decide), su_v, th_p (by decide), he 149 (by decide), tp 149 (by decide) (by decide), shr24 a, shr16 a, shr8 a, ← shr0 a]
      have rs : ∀ p, p ≠ 133 → p ≠ 149 → p ≠ 5 → p ≠ 6 → p ≠ 154 → ρ p = σ p := fun p p1 p2 p3 p4 p5 => by rw [rp p p1 p2, he p p5, tp p p3 p4]
      refine ⟨nI (L + 4), ρ, ?_, .inl ⟨rfl, r7⟩, fun _ => rfl, rel_txt h ⟨L + 4, by omega, by rw [rp 5 (by decide) (by decide), he 5 (by decide), d2], r21', fun i hi => ?_, ?_, ?_⟩ (fun p q0 q1 q2 q3 q4 => rs p (by unfold KeepR at q0; omega) q3 q1 q2 q4) (fun i hi => ri i (by omega) (by omega)), by rw [rp 154 (by decide) (by decide)]⟩
      · unfold fX7_appendText
        have kf : kFU = 3999995 + 1 + 1 + 1 + 1 + 1 := rfl
        rw [k21, e4, if_neg (fun c => hr (hle.1 c)), m_goes1, Option.bind_some, if_pos rfl]
        show fX7_appendText_L29 a kFU 24 (th σ1' 0) = _
        rw [kf, m_addT r21 (by omega) (by decide), show (24 : Int32) + (-8) = 16 by decide, m_addT (L := L + 1) su_eq (by omega) (by decide), show (16 : Int32) + (-8) = 8 by decide, m_addT (L := L + 2) su_eq (by omega) (by decide), show (8 : Int32) + (-8) = 0 by decide, m_addT (L := L + 3) su_eq (by omega) (by decide), show (0 : Int32) + (-8) = -8 by decide, hR, fX7_appendText_L29.eq_2, if_pos (by decide), r21']
      · rw [rp 6 (by decide) (by decide), he 6 (by decide), t6, r149]
        have g : ∀ (A C : Nat → Int32) (k : Nat) (v : Int32), (A i = C i ∧ 0 ≤ A i ∧ A i ≤ 255) ∨ i = k → 0 ≤ v ∧ v ≤ 255 → vset A k v i = vset C k v i ∧ 0 ≤ vset A k v i ∧ vset A k v i ≤ 255 := by
          intro A C k v h1 h2
          by_cases hk : i = k
          · subst hk; rw [vset_eq, vset_eq]; exact ⟨rfl, h2⟩
          · rw [vset_ne hk, vset_ne hk]
            rcases h1 with h1 | h1
            · exact h1
            · exact absurd h1 hk
        by_cases i3 : i = L + 3
        · exact g _ _ _ _ (.inr i3) (and255 _)
        · refine g _ _ _ _ (.inl ?_) (and255 _)
          by_cases i2 : i = L + 2
          · exact g _ _ _ _ (.inr i2) (and255 _)
          · refine g _ _ _ _ (.inl ?_) (and255 _)
            by_cases i1 : i = L + 1
            · exact g _ _ _ _ (.inr i1) (and255 _)
            · refine g _ _ _ _ (.inl ?_) (and255 _)
              by_cases i0 : i = L
              · exact g _ _ _ _ (.inr i0) (and255 _)
              · exact g _ _ _ _ (.inl (t3 i (by omega))) (and255 _)
      · rw [rp 5 (by decide) (by decide), he 5 (by decide), ti 2 (by decide), ri 28 (by decide) (by decide), t4]
      · rw [rp 5 (by decide) (by decide), he 5 (by decide), ti 3 (by decide), ri 29 (by decide) (by decide), t5]
theorem q_truncate (a : Int32) : CALL (fX6_truncateText a) (fX7_truncateText a) [1] := by
  intro σ h
  obtain ⟨L, hL, t1, t2, t3, t4, t5⟩ := h.2.2.2.2.1
  unfold fX6_truncateText
  rw [t1, isIn_kb, Option.bind_some]
  cases hi : fX7_isIn a 0 (nI L) with
  | false =>
    refine ⟨1, 0, σ, by rw [if_neg Bool.false_ne_true, if_neg (by decide)], fun σ1' he => ⟨0, th σ1' 1, ?_, by rw [th_7]; exact thr_1 (by decide), fun c => absurd c (by decide), rel_fx' (rel_54 h he) fx_th, th_p (by decide)⟩⟩
    unfold fX7_truncateText
    rw [he 133 (by decide), t2, hi, m_gF, Option.bind_some, if_neg Bool.false_ne_true]
  | true =>
    obtain ⟨k, k1, ek⟩ := isIn_lo (hi := L) (by omega) hi
    subst ek
    refine ⟨0, nI k, su σ 5 1 (nI k), by rw [if_pos rfl, if_pos rfl, klet_eq], fun σ1' he => ?_⟩
    have rp : ∀ p, p ≠ 133 → p ≠ 5 → p ≠ 154 → su (th σ1' 0) 133 21 (nI k) p = σ p := fun p p1 p2 p3 => by rw [su_k p1, th_p p1, he p p3, su_k p2]
    have r5 : ∀ i, su (th σ1' 0) 133 21 (nI k) 5 i = if i = 1 then nI k else σ 5 i := fun i => by rw [su_k (by decide), th_p (by decide), he 5 (by decide), su_at]
    have r3 : ∀ i, i ≠ 21 → i ≠ 7 → su (th σ1' 0) 133 21 (nI k) 133 i = σ 133 i := fun i i1 i2 => by rw [su_i i1, th_i i2, he 133 (by decide), su_k (by decide)]
    refine ⟨nI k, su (th σ1' 0) 133 21 (nI k), ?_, .inl ⟨rfl, by rw [su_i (by decide), th_7]⟩, fun _ => rfl, rel_txt h ⟨k, by omega, by rw [r5, if_pos rfl], su_eq, fun i hi => ?_, by rw [r5, if_neg (by decide), r3 28 (by decide) (by decide), t4], by rw [r5, if_neg (by decide), r3 29 (by decide) (by decide), t5]⟩ (fun p q0 q1 q2 q3 q4 => rp p (by unfold KeepR at q0; omega) q1 q4) (fun i hi => r3 i (by omega) (by omega)), by rw [su_k (by decide), th_p (by decide)]⟩
    · unfold fX7_truncateText
      rw [he 133 (by decide), su_k (by decide), t2, hi, m_gT, Option.bind_some, if_pos rfl, klet_eq, su_eq]
    · rw [rp 6 (by decide) (by decide) (by decide), rp 149 (by decide) (by decide) (by decide)]
      exact t3 i (by omega)
