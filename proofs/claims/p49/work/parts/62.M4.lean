/-! sums over the picture, row by row, and counted twice -/
def rowS (G : Int32 → Int32 → Int32) (x : Int32) (R n : Nat) : Int32 := sm (fun j => G x (nI j - nI R)) n
def gridS (G : Int32 → Int32 → Int32) (R n : Nat) : Int32 := sm (fun i => rowS G (nI i - nI R) R (2 * R + 1)) n
def gidx (R : Nat) : List Nat := (List.range (2 * R + 1)).flatMap (fun i => (List.range (2 * R + 1)).map (fun j => mk (nI i - nI R) (nI j - nI R)))
def gin (R : Nat) (k : Nat) : Bool := (decide (-(nI R) ≤ mx k) && decide (mx k ≤ nI R)) && (decide (-(nI R) ≤ my k) && decide (my k ≤ nI R))
set_option maxRecDepth 100000 in
theorem gidx_perm : ∀ R, R < 7 → (gidx R).isPerm ((List.range 169).filter (gin R)) = true := by decide +kernel
theorem gco_fin : ∀ R, R < 7 → ∀ i, i < 2 * R + 1 → -6 ≤ nI i - nI R ∧ nI i - nI R ≤ 6 := by decide
theorem lsum_flat {f : Nat → Int32} {g : Nat → List Nat} (l : List Nat) : lsum f (l.flatMap g) = lsum (fun i => lsum f (g i)) l := by
  induction l with
  | nil => rfl
  | cons a l ih =>
    rw [List.flatMap_cons, lsum_app, ih]
    rfl
theorem grid_all {G : Int32 → Int32 → Int32} {R : Nat} (hR : R < 7) (h0 : ∀ x y, ¬ ((-(nI R) ≤ x ∧ x ≤ nI R) ∧ -(nI R) ≤ y ∧ y ≤ nI R) → G x y = 0) : gridS G R (2 * R + 1) = sm (fun k => G (mx k) (my k)) 169 := by
  have e1 : gridS G R (2 * R + 1) = lsum (fun k => G (mx k) (my k)) (gidx R) := by
    unfold gridS gidx
    rw [sm_lsum, lsum_flat]
    refine lsum_congr fun i hi => ?_
    have hi := List.mem_range.mp hi
    unfold rowS
    rw [sm_lsum, lsum_map]
    refine lsum_congr fun j hj => ?_
    have hj := List.mem_range.mp hj
    have hS : inS (nI i - nI R) (nI j - nI R) := ⟨gco_fin R hR i hi, gco_fin R hR j hj⟩
    rw [mx_mk hS, my_mk hS]
  rw [e1, lsum_perm _ (List.isPerm_iff.1 (gidx_perm R hR)), sm_lsum]
  symm
  refine lsum_filter fun k _ hk => h0 _ _ fun c => ?_
  unfold gin at hk
  rw [decide_eq_true c.1.1, decide_eq_true c.1.2, decide_eq_true c.2.1, decide_eq_true c.2.2] at hk
  cases hk
theorem sm_add (f g : Nat → Int32) (n : Nat) : sm (fun k => f k + g k) n = sm f n + sm g n := by
  induction n with
  | zero => rfl
  | succ n ih =>
    show sm (fun k => f k + g k) n + (f n + g n) = (sm f n + f n) + (sm g n + g n)
    rw [ih]
    grind
theorem sm_swap (F : Nat → Nat → Int32) (a b : Nat) : sm (fun k => sm (fun j => F k j) b) a = sm (fun j => sm (fun k => F k j) a) b := by
  induction a with
  | zero =>
    show (0 : Int32) = _
    exact (sm_zero fun _ _ => rfl).symm
  | succ a ih =>
    show sm (fun k => sm (fun j => F k j) b) a + sm (fun j => F a j) b = sm (fun j => sm (fun k => F k j) a + F a j) b
    rw [ih, sm_add]
theorem sm_one {n k0 : Nat} (h : k0 < n) : sm (fun k => kb (decide (k = k0))) n = 1 := by
  induction n with
  | zero => omega
  | succ n ih =>
    show sm _ n + kb (decide (n = k0)) = 1
    by_cases e : n = k0
    · rw [decide_eq_true e, sm_zero (fun k hk => by rw [decide_eq_false (by omega)]; rfl)]
      rfl
    · rw [decide_eq_false e, ih (by omega)]
      rfl
section M4
variable {m : Vc}
theorem mxy_eq {k : Nat} (hk : k < 169) {u v : Int32} (hS : inS u v) : (mx k = u ∧ my k = v) ↔ k = mk u v := by
  constructor
  · rintro ⟨h1, h2⟩
    have h3 : mk (mx k) (my k) = k := mxy_mk hk
    rw [← h3, h1, h2]
  · rintro rfl
    exact ⟨mx_mk hS, my_mk hS⟩
/-- each seen cell has just one source -/
theorem img_sum (ok : OKm m) : sm (fun k => aImg m (mx k) (my k)) 169 = nSeen m := by
  have e1 : sm (fun k => aImg m (mx k) (my k)) 169 = sm (fun k => sm (fun j => kb (gBox (m 0) (m 1) (mx k) (my k) && isImg m (mx k) (my k) (mx j) (my j))) 169) 169 := by
    refine sm_congr fun k hk => ?_
    unfold aImg nImg
    cases hb : gBox (m 0) (m 1) (mx k) (my k) with
    | true => rw [if_pos rfl]; exact sm_congr fun j _ => rfl
    | false =>
      rw [if_neg Bool.false_ne_true]
      exact (sm_zero fun _ _ => rfl).symm
  rw [e1, sm_swap]
  unfold nSeen
  refine sm_congr fun j hj => ?_
  unfold isSeen isImg
  cases hs : mSee m (mx j) (my j) with
  | none =>
    refine sm_zero fun k _ => ?_
    rw [Bool.and_false]
    rfl
  | some s =>
    have hbox := see_box' ok hs
    have hS := near_S ok.2.1 (box_near hbox)
    refine (sm_congr (g := fun k => kb (decide (k = mk s.2.1 s.2.2))) fun k hk => ?_).trans (sm_one (mk_lt hS))
    dsimp only
    by_cases e : k = mk s.2.1 s.2.2
    · obtain ⟨e1, e2⟩ := (mxy_eq hk hS).2 e
      rw [decide_eq_true e, e1, e2, hbox, decide_eq_true (show s.2 = (s.2.1, s.2.2) from rfl)]
      rfl
    · rw [decide_eq_false e, decide_eq_false (fun c => e ((mxy_eq hk hS).1 (by rw [c]; exact ⟨rfl, rfl⟩))), Bool.and_false]
/-- each chip in the box has just one cell -/
theorem chp_sum (ok : OKm m) : sm (fun k => aChp m (mx k) (my k)) 169 = nIns m := by
  have hN := came_le ok
  have e1 : sm (fun k => aChp m (mx k) (my k)) 169 = sm (fun k => sm (fun i => kb (dB (mAt m (mx k) (my k) i))) (mN m)) 169 := by
    refine sm_congr fun k hk => ?_
    unfold aChp
    rcases mBd_cases m (mx k) (my k) with ⟨h1, h2⟩ | ⟨i, hi, ha, h1⟩
    · rw [decide_eq_true h1, Bool.not_true, Bool.and_false]
      exact (sm_zero fun i hi => by rw [dB_f (h2 i hi)]; rfl).symm
    · have hb : gBox (m 0) (m 1) (mx k) (my k) = true := by
        have := (ok_chip ok hi).2.2.2.2 ha.1
        rw [ha.2.1, ha.2.2] at this
        exact this
      rw [hb, decide_eq_false (by rw [h1]; exact nI_ne1 (by omega))]
      refine Eq.trans (show _ = (1 : Int32) from rfl) ((sm_congr (g := fun j => kb (decide (j = i))) fun j hj => ?_).trans (sm_one hi)).symm
      by_cases e : j = i
      · subst e; rw [decide_eq_true rfl, dB_t ha]
      · rw [decide_eq_false e, dB_f (fun c => e (ok_uniq ok hj hi c ha))]
  rw [e1, sm_swap]
  unfold nIns
  refine sm_congr fun i hi => ?_
  by_cases h6 : mC m i 6 = 1
  · have hS := near_S ok.2.1 (ok_near ok hi h6)
    rw [decide_eq_true h6]
    refine (sm_congr (g := fun k => kb (decide (k = mk (mC m i 3) (mC m i 4)))) fun k hk => ?_).trans (sm_one (mk_lt hS))
    by_cases e : k = mk (mC m i 3) (mC m i 4)
    · obtain ⟨e1, e2⟩ := (mxy_eq hk hS).2 e
      rw [decide_eq_true e, dB_t ⟨h6, e1.symm, e2.symm⟩]
    · rw [decide_eq_false e, dB_f (fun c => e ((mxy_eq hk hS).1 ⟨c.2.1.symm, c.2.2.symm⟩))]
  · rw [decide_eq_false h6]
    exact sm_zero fun k _ => by rw [dB_f (fun c => h6 c.1)]; rfl
end M4
