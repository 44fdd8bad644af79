def sm (f : Nat → Int32) : Nat → Int32
  | 0 => 0
  | n + 1 => sm f n + f n
def lsum (f : Nat → Int32) (l : List Nat) : Int32 := l.foldr (fun k s => f k + s) 0
theorem lsum_app (f : Nat → Int32) (l l' : List Nat) : lsum f (l ++ l') = lsum f l + lsum f l' := by
  induction l with
  | nil => unfold lsum; simp
  | cons a l ih =>
    have : lsum f (a :: l ++ l') = f a + lsum f (l ++ l') := rfl
    rw [this, ih]
    have : lsum f (a :: l) = f a + lsum f l := rfl
    rw [this]
    grind
theorem sm_lsum (f : Nat → Int32) (n : Nat) : sm f n = lsum f (List.range n) := by
  induction n with
  | zero => rfl
  | succ n ih =>
    rw [List.range_succ, lsum_app, ← ih]
    have h1 : lsum f [n] = f n + 0 := rfl
    have h2 : sm f (n + 1) = sm f n + f n := rfl
    rw [h1, h2]
    grind
theorem lsum_perm (f : Nat → Int32) {l l' : List Nat} (h : l.Perm l') : lsum f l = lsum f l' := by
  induction h with
  | nil => rfl
  | @cons a l1 l2 _ ih =>
    have h1 : lsum f (a :: l1) = f a + lsum f l1 := rfl
    have h2 : lsum f (a :: l2) = f a + lsum f l2 := rfl
    rw [h1, h2, ih]
  | swap a b l =>
    have h1 : lsum f (b :: a :: l) = f b + (f a + lsum f l) := rfl
    have h2 : lsum f (a :: b :: l) = f a + (f b + lsum f l) := rfl
    rw [h1, h2]
    grind
  | trans _ _ h1 h2 => rw [h1, h2]
theorem lsum_congr {f g : Nat → Int32} {l : List Nat} (h : ∀ k, k ∈ l → f k = g k) : lsum f l = lsum g l := by
  induction l with
  | nil => rfl
  | cons a l ih =>
    have h1 : lsum f (a :: l) = f a + lsum f l := rfl
    have h2 : lsum g (a :: l) = g a + lsum g l := rfl
    rw [h1, h2, h a (List.mem_cons_self), ih (fun k hk => h k (List.mem_cons_of_mem _ hk))]
theorem lsum_filter {f : Nat → Int32} {b : Nat → Bool} {l : List Nat} (h : ∀ k, k ∈ l → b k = false → f k = 0) : lsum f l = lsum f (l.filter b) := by
  induction l with
  | nil => rfl
  | cons a l ih =>
    have h1 : lsum f (a :: l) = f a + lsum f l := rfl
    have ih := ih (fun k hk => h k (List.mem_cons_of_mem _ hk))
    cases hb : b a with
    | true =>
      rw [List.filter_cons_of_pos hb]
      have h2 : lsum f (a :: l.filter b) = f a + lsum f (l.filter b) := rfl
      rw [h1, h2, ih]
    | false =>
      rw [List.filter_cons_of_neg (by simp [hb]), h1, h a List.mem_cons_self hb, ih]
      grind
theorem lsum_map {f : Nat → Int32} {g : Nat → Nat} {l : List Nat} : lsum f (l.map g) = lsum (fun k => f (g k)) l := by
  induction l with
  | nil => rfl
  | cons a l ih =>
    have h1 : lsum f ((a :: l).map g) = f (g a) + lsum f (l.map g) := rfl
    have h2 : lsum (fun k => f (g k)) (a :: l) = f (g a) + lsum (fun k => f (g k)) l := rfl
    rw [h1, h2, ih]
theorem sm_congr {f g : Nat → Int32} {n : Nat} (h : ∀ k, k < n → f k = g k) : sm f n = sm g n := by
  rw [sm_lsum, sm_lsum]
  exact lsum_congr (fun k hk => h k (List.mem_range.1 hk))
def bS (x y : Int32) : Bool := (decide (-6 ≤ x) && decide (x ≤ 6)) && (decide (-6 ≤ y) && decide (y ≤ 6))
theorem bS_iff {x y : Int32} : bS x y = true ↔ inS x y := by
  unfold bS inS
  simp only [Bool.and_eq_true, decide_eq_true_eq]
set_option maxRecDepth 100000 in
theorem grid_perm : (((List.range 225).filter (fun c => bS (cx c) (cy c))).map (fun c => mk (cx c) (cy c))).Perm (List.range 169) := by
  rw [← List.isPerm_iff]
  decide +kernel
theorem sm_grid {G : Int32 → Int32 → Int32} (h : ∀ x y, ¬ inS x y → G x y = 0) : sm (fun c => G (cx c) (cy c)) 225 = sm (fun k => G (mx k) (my k)) 169 := by
  rw [sm_lsum, sm_lsum, ← lsum_perm _ grid_perm, lsum_map, lsum_filter (b := fun c => bS (cx c) (cy c))]
  · refine lsum_congr (fun c hc => ?_)
    have := (List.mem_filter.1 hc).2
    have hS := bS_iff.1 this
    rw [mx_mk hS, my_mk hS]
  · intro c _ hb
    apply h
    intro hS
    rw [bS_iff.2 hS] at hb
    cases hb
theorem sm_kb {b : Nat → Bool} (n : Nat) (hn : n < 2147483648) : ∃ j, j ≤ n ∧ sm (fun k => kb (b k)) n = nI j := by
  induction n with
  | zero => exact ⟨0, Nat.le_refl _, rfl⟩
  | succ n ih =>
    obtain ⟨j, h1, h2⟩ := ih (by omega)
    have h3 : sm (fun k => kb (b k)) (n + 1) = sm (fun k => kb (b k)) n + kb (b n) := rfl
    cases hb : b n with
    | true => exact ⟨j + 1, by omega, by rw [h3, h2, hb, ← nI_add1]; rfl⟩
    | false => exact ⟨j, by omega, by rw [h3, h2, hb]; show nI j + 0 = nI j; grind⟩
section PIC
variable {σ : Sto} {q0 b : Nat} {m : Vc}
theorem cov_fin : ∀ v, v < 4 → ∀ j, j < 2 → ((nI v &&& (1 <<< (nI j &&& 31))) = 0) = (v.testBit j = false) := by decide
theorem c_isCovered (ok : OKm m) (h : BX σ b m) {j : Nat} (hj : j < 2) : fX5_isCovered b (nI j) σ = (mV m).testBit j := by
  unfold fX5_isCovered
  rw [h.2.1.2.2.2.1, ok.2.2.2.2.2.1.1]
  simp only [cov_fin _ ok.2.2.2.2.2.1.2 _ hj]
  cases (mV m).testBit j <;> simp
theorem c_canReflect (ok : OKm m) (h : BX σ b m) {j : Nat} (hj : j < 2) : fX5_canReflect b (nI j) σ = gCan (m 0) (mV m) j := by
  unfold fX5_canReflect gCan
  have hm := @many_le (m 0)
  rw [c_many h.1, c_isCovered ok h hj]
  simp only [dI_le (show gMany (m 0) < 2147483648 by omega) (show j < 2147483648 by omega)]
  by_cases h1 : gMany (m 0) ≤ j
  · have : ¬ j < gMany (m 0) := by omega
    simp [h1, this]
  · have : j < gMany (m 0) := by omega
    cases (mV m).testBit j <;> simp [h1, this]
theorem flip_fin : ∀ j, j < 2 → (1 : Int32) - nI j = nI (1 - j) := by decide
theorem c_follow (ok : OKm m) (h : BX σ b m) {A2 A3 : Int32} (n : Nat) : ∀ (u fu mir : Nat) (p : Int32 × Int32), u + n = 7 → n < fu → mir < 2 → gNear (m 0) (m 1) p.1 p.2 = true →
    fX3_follow_L9 q0 b A2 A3 fu (fX1_cellAt p.1 p.2) (nI mir) (nI u) σ = (match gFol (m 0) (mV m) n u mir p with | none => some σ | some s => fX3_find q0 A2 (fX1_cellAt s.2.1 s.2.2) (nI s.1) σ) := by
  induction n with
  | zero =>
    intro u fu mir p hu hf hm hp
    match fu, hf with
    | fu + 1, _ =>
      unfold fX3_follow_L9
      rw [if_pos (show (6 : Int32) < nI u from (dI_lt (a := 6) (by omega) (by omega)).2 (by omega))]
      rfl
  | succ n ih =>
    intro u fu mir p hu hf hm hp
    match fu, hf with
    | fu + 1, hf =>
      unfold fX3_follow_L9
      have hR := near_R ok.2.1 hp
      have hn' := near_mir (m := mir) ok.1 ok.2.1 hp
      rw [if_neg (show ¬ (6 : Int32) < nI u from fun c => by have := (dI_lt (a := 6) (by omega) (by omega)).1 c; omega), c_canReflect ok h hm, c_mir h.1 hm hR, c_isInBox h.1 (near_R ok.2.1 hn'), Option.bind_some]
      unfold gFol
      cases hc : gCan (m 0) (mV m) mir with
      | false => simp
      | true =>
        simp only [if_true]
        have hb : gBox (m 0) (m 1) (gMir (m 0) mir (p.1, p.2)).1 (gMir (m 0) mir (p.1, p.2)).2 = gBet (m 0) (gMir (m 0) mir p).1 (gMir (m 0) mir p).2 := by
          unfold gBox
          rw [hn']; rfl
        rw [hb]
        cases hbb : gBet (m 0) (gMir (m 0) mir p).1 (gMir (m 0) mir p).2 with
        | true =>
          simp only [if_true]
          cases fX3_find q0 A2 (fX1_cellAt (gMir (m 0) mir p).1 (gMir (m 0) mir p).2) (nI u) σ <;> rfl
        | false =>
          simp only [Bool.false_eq_true, if_false]
          rw [flip_fin mir hm, nI_add1]
          exact ih (u + 1) fu (1 - mir) _ (by omega) (by omega) (by omega) hn'
def setP (τ : Sto) (q0 c : Nat) (v w : Int32) : Sto := su (su τ (q0 + 1) c v) (q0 + 2) c w
theorem setP_setP {τ : Sto} {c : Nat} {v w v' w' : Int32} : setP (setP τ q0 c v w) q0 c v' w' = setP τ q0 c v' w' := by
  funext i j
  unfold setP su
  by_cases h1 : i = q0 + 2
  · have : ¬ i = q0 + 1 := by omega
    simp only [h1, if_true]
    by_cases hj : j = c
    · simp [hj]
    · simp [hj]
  · simp only [if_neg h1]
    by_cases h2 : i = q0 + 1
    · by_cases hj : j = c <;> simp [h2, hj]
    · simp [h2]
theorem setP_1 {τ : Sto} {c j : Nat} {v w : Int32} : setP τ q0 c v w (q0 + 1) j = if j = c then v else τ (q0 + 1) j := by
  unfold setP
  rw [su_k (by omega), su_at]
theorem setP_2 {τ : Sto} {c j : Nat} {v w : Int32} : setP τ q0 c v w (q0 + 2) j = if j = c then w else τ (q0 + 2) j := by
  unfold setP
  rw [su_at, su_k (by omega)]
theorem setP_k {τ : Sto} {c p : Nat} {v w : Int32} (h1 : p ≠ q0 + 1) (h2 : p ≠ q0 + 2) : setP τ q0 c v w p = τ p := by
  unfold setP
  rw [su_k h2, su_k h1]
theorem ci_e {x y : Int32} : (fX1_cellAt x y).toNatClampNeg = ci x y := rfl
theorem find_set {x y src : Int32} {u : Nat} (hR : inR x y) (h : σ (q0 + 2) (ci x y) = -1) : fX3_find q0 (fX1_cellAt x y) src (nI u) σ = some (setP σ q0 (ci x y) src (nI u)) := by
  unfold fX3_find fX3_find_L27
  simp only [cell_is hR, cell_kin hR, if_true, klet_eq, ci_e]
  rw [if_pos h]
  rfl
theorem find_cmp {x y src : Int32} {u w : Nat} (hR : inR x y) (h : σ (q0 + 2) (ci x y) = nI w) (hw : w < 100) (hu : u < 100) : fX3_find q0 (fX1_cellAt x y) src (nI u) σ = some (if u < w then setP σ q0 (ci x y) src (nI u) else σ) := by
  unfold fX3_find fX3_find_L27
  simp only [cell_is hR, cell_kin hR, if_true, klet_eq, ci_e]
  rw [if_neg (by rw [h]; exact nI_ne1 (by omega)), h]
  simp only [dI_le (show w < 2147483648 by omega) (show u < 2147483648 by omega)]
  by_cases hh : u < w
  · rw [if_neg (by omega), if_pos hh]; rfl
  · rw [if_pos (by omega), if_neg hh]
def mSrc (m : Vc) (x y : Int32) : Int32 := match mSee m x y with | none => -1 | some s => fX1_cellAt s.2.1 s.2.2
theorem fol_far (a : Int32) (v : Nat) (n : Nat) : ∀ (u mm : Nat) (p : Int32 × Int32) s, gFol a v n u mm p = some s → s.1 ≤ u + n := by
  induction n with
  | zero => intro u m p s h; cases h
  | succ n ih =>
    intro u m p s h
    unfold gFol at h
    split at h
    · split at h
      · cases h; simp
      · have := ih _ _ _ _ h; omega
    · cases h
theorem c_trace (ok : OKm m) (h : BX σ b m) (hq : q0 + 4 < b ∨ b + 8 < q0) {x y : Int32} (hn : gNear (m 0) (m 1) x y = true) : fX3_trace q0 b (fX1_cellAt x y) σ = some (setP σ q0 (ci x y) (mSrc m x y) (mRef m x y)) := by
  have hR := near_R ok.2.1 hn
  have hbx : ∀ v w, BX (setP σ q0 (ci x y) v w) b m := fun v w => bx_frame h (fun p h1 h2 => setP_k (by omega) (by omega))
  have e1 : ∀ v w, su (su σ (q0 + 1) (ci x y) v) (q0 + 2) (ci x y) w = setP σ q0 (ci x y) v w := fun _ _ => rfl
  have e2 : ∀ (τ : Sto) v w, su (su τ (q0 + 1) (ci x y) v) (q0 + 2) (ci x y) w = setP τ q0 (ci x y) v w := fun _ _ _ => rfl
  unfold fX3_trace mSrc mRef
  simp only [cell_is hR, cell_kin hR, if_true, klet_eq, ci_e, e2, c_isInBox (hbx _ _).1 hR, Option.bind_some]
  rw [see_of hn]
  unfold gSee
  have hgb : gBox (m 0) (m 1) x y = gBet (m 0) x y := by unfold gBox; rw [hn]; rfl
  rw [hgb]
  cases hb : gBet (m 0) x y with
  | true =>
    simp only [if_true, setP_setP]
    rfl
  | false =>
    simp only [Bool.false_eq_true, if_false]
    have f1 := c_follow (q0 := q0) (A2 := fX1_cellAt x y) (A3 := 0) ok (hbx (-1) (-1)) 6 1 kFU 0 (x, y) rfl (by unfold kFU; omega) (by omega) hn
    have f1' : fX3_follow q0 b (fX1_cellAt x y) 0 (setP σ q0 (ci x y) (-1) (-1)) = _ := f1
    rw [f1']
    have hr1 : setP σ q0 (ci x y) (-1) (-1) (q0 + 2) (ci x y) = -1 := by rw [setP_2, if_pos rfl]
    cases ho : gFol (m 0) (mV m) 6 1 0 (x, y) with
    | none =>
      simp only [Option.bind_some]
      have f2 := c_follow (q0 := q0) (A2 := fX1_cellAt x y) (A3 := 1) ok (hbx (-1) (-1)) 6 1 kFU 1 (x, y) rfl (by unfold kFU; omega) (by omega) hn
      have f2' : fX3_follow q0 b (fX1_cellAt x y) 1 (setP σ q0 (ci x y) (-1) (-1)) = _ := f2
      rw [f2']
      cases ho2 : gFol (m 0) (mV m) 6 1 1 (x, y) with
      | none => rfl
      | some t =>
        simp only [gBest, find_set hR hr1, setP_setP, Option.bind_some]
    | some s =>
      have hs := fol_far _ _ _ _ _ _ _ ho
      simp only [find_set hR hr1, setP_setP, Option.bind_some]
      have f2 := c_follow (q0 := q0) (A2 := fX1_cellAt x y) (A3 := 1) ok (hbx (fX1_cellAt s.2.1 s.2.2) (nI s.1)) 6 1 kFU 1 (x, y) rfl (by unfold kFU; omega) (by omega) hn
      have f2' : fX3_follow q0 b (fX1_cellAt x y) 1 (setP σ q0 (ci x y) (fX1_cellAt s.2.1 s.2.2) (nI s.1)) = _ := f2
      rw [f2']
      cases ho2 : gFol (m 0) (mV m) 6 1 1 (x, y) with
      | none => simp only [gBest, Option.bind_some]
      | some t =>
        have ht := fol_far _ _ _ _ _ _ _ ho2
        have hr2 : setP σ q0 (ci x y) (fX1_cellAt s.2.1 s.2.2) (nI s.1) (q0 + 2) (ci x y) = nI s.1 := by rw [setP_2, if_pos rfl]
        simp only [gBest, find_cmp hR hr2 (show s.1 < 100 by omega) (show t.1 < 100 by omega), Option.bind_some]
        split
        · rw [setP_setP]
        · rfl
end PIC
