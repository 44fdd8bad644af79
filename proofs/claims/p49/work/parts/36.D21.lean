def nsum (f : Nat → Nat) : Nat → Nat
  | 0 => 0
  | n + 1 => nsum f n + f n
theorem nsum_le {f g : Nat → Nat} {n : Nat} (h : ∀ k, k < n → f k ≤ g k) : nsum f n ≤ nsum g n := by
  induction n with
  | zero => exact Nat.le_refl _
  | succ n ih =>
    have h1 := ih (fun k hk => h k (by omega))
    have h2 := h n (by omega)
    show nsum f n + f n ≤ nsum g n + g n
    omega
theorem nsum_lt {f g : Nat → Nat} {n k0 : Nat} (h : ∀ k, k < n → f k ≤ g k) (hk : k0 < n) (h0 : f k0 + 1 ≤ g k0) : nsum f n + 1 ≤ nsum g n := by
  induction n with
  | zero => omega
  | succ n ih =>
    show nsum f n + f n + 1 ≤ nsum g n + g n
    by_cases e : k0 = n
    · subst e
      have := nsum_le (f := f) (g := g) (n := k0) (fun k hk => h k (by omega))
      omega
    · have h1 := ih (fun k hk => h k (by omega)) (by omega)
      have h2 := h n (by omega)
      omega
theorem nsum_bound {f : Nat → Nat} {n c : Nat} (h : ∀ k, k < n → f k ≤ c) : nsum f n ≤ n * c := by
  induction n with
  | zero => exact Nat.zero_le _
  | succ n ih =>
    show nsum f n + f n ≤ (n + 1) * c
    have h1 := ih (fun k hk => h k (by omega))
    have h2 := h n (by omega)
    rw [Nat.succ_mul]
    omega
def phi (m : Vc) (k : Nat) : Nat := if mC m k 6 = 1 then (if mC m k 0 = 2 then 24 - dE m k else dE m k) else 0
def Phi (m : Vc) : Nat := nsum (phi m) (mN m)
theorem phi_le {m : Vc} (ok : OKm m) {k : Nat} (hk : k < mN m) : phi m k ≤ 24 := by
  unfold phi
  split
  · next hi =>
    have := (dE_ok ok hk hi).2
    split <;> omega
  · omega
theorem Phi_le {m : Vc} (ok : OKm m) : Phi m ≤ 720 := by
  have h := nsum_bound (f := phi m) (n := mN m) (fun k hk => phi_le ok hk)
  have hn := came_le ok
  unfold Phi
  have : mN m * 24 ≤ 30 * 24 := Nat.mul_le_mul_right _ hn
  omega
theorem dep_lin (a : Int32) (d : Nat) (x y u v : Int32) : gDep a d (x + u) (y + v) = gDep a d x y + gDep a d u v := by
  unfold gDep
  split <;> grind
theorem up_fin : (∀ D, D < 8 → 1 ≤ gDep 180 D (gSX 180 D) (gSY 180 D) ∧ 1 ≤ gDep 180 D (gSX 180 ((D + 1) % 8)) (gSY 180 ((D + 1) % 8)) ∧ 1 ≤ gDep 180 D (gSX 180 ((D + 8 - 1) % 8)) (gSY 180 ((D + 8 - 1) % 8)) ∧ gDep 180 D (gSX 180 ((D + 8 / 2) % 8)) (gSY 180 ((D + 8 / 2) % 8)) ≤ -1) ∧
    ∀ D, D < 6 → 1 ≤ gDep 60 D (gSX 60 D) (gSY 60 D) ∧ 1 ≤ gDep 60 D (gSX 60 ((D + 1) % 6)) (gSY 60 ((D + 1) % 6)) ∧ 1 ≤ gDep 60 D (gSX 60 ((D + 6 - 1) % 6)) (gSY 60 ((D + 6 - 1) % 6)) ∧ gDep 60 D (gSX 60 ((D + 6 / 2) % 6)) (gSY 60 ((D + 6 / 2) % 6)) ≤ -1 := by decide +kernel
theorem g_hex {a a' : Int32} (h : gHex a = gHex a') : (∀ d, gSX a d = gSX a' d ∧ gSY a d = gSY a' d) ∧ (∀ d x y, gDep a d x y = gDep a' d x y) ∧ gDirs a = gDirs a' := by
  have e1 : ∀ d, gSX a d = gSX a' d ∧ gSY a d = gSY a' d := fun d => by unfold gSX gSY; rw [h]; exact ⟨rfl, rfl⟩
  refine ⟨e1, fun d x y => ?_, by unfold gDirs; rw [h]⟩
  unfold gDep
  rw [h, (e1 d).1, (e1 d).2]
theorem up_all {a : Int32} {D : Nat} (hD : D < gDirs a) : 1 ≤ gDep a D (gSX a D) (gSY a D) ∧ 1 ≤ gDep a D (gSX a ((D + 1) % gDirs a)) (gSY a ((D + 1) % gDirs a)) ∧ 1 ≤ gDep a D (gSX a ((D + gDirs a - 1) % gDirs a)) (gSY a ((D + gDirs a - 1) % gDirs a)) ∧ gDep a D (gSX a ((D + gDirs a / 2) % gDirs a)) (gSY a ((D + gDirs a / 2) % gDirs a)) ≤ -1 := by
  cases hx : gHex a with
  | false =>
    have h8 : gDirs a = 8 := by unfold gDirs; rw [hx]; rfl
    obtain ⟨e1, e2, _⟩ := @g_hex a 180 (by rw [hx]; rfl)
    simp only [e1, e2, h8]
    exact up_fin.1 D (by omega)
  | true =>
    have h8 : gDirs a = 6 := by unfold gDirs; rw [hx]; rfl
    obtain ⟨e1, e2, _⟩ := @g_hex a 60 (by rw [hx]; rfl)
    simp only [e1, e2, h8]
    exact up_fin.2 D (by omega)
section PH
variable {m : Vc} {k : Nat}
def deN (m : Vc) (x y : Int32) : Nat := (gDep (m 0) (mD m) x y + 12).toNatClampNeg
theorem deN_ok (ok : OKm m) {x y : Int32} (hn : gNear (m 0) (m 1) x y = true) : gDep (m 0) (mD m) x y + 12 = nI (deN m x y) ∧ deN m x y ≤ 24 := by
  have h := dep_rng ok.1 ok.2.1 hn ok.2.2.1.2
  have h1 : nI (deN m x y) = gDep (m 0) (mD m) x y + 12 := i32_nI h.1
  refine ⟨h1.symm, ?_⟩
  have h2 : nI (deN m x y) ≤ nI 24 := by rw [h1]; exact h.2
  refine (dI_le ?_ (by decide)).1 h2
  unfold deN Int32.toNatClampNeg
  have := Int32.toInt_lt (gDep (m 0) (mD m) x y + 12)
  omega
theorem de_cmp (ok : OKm m) {x y u v : Int32} (h1 : gNear (m 0) (m 1) x y = true) (h2 : gNear (m 0) (m 1) (x + u) (y + v) = true) : (1 ≤ gDep (m 0) (mD m) u v → deN m x y + 1 ≤ deN m (x + u) (y + v)) ∧ (gDep (m 0) (mD m) u v ≤ -1 → deN m (x + u) (y + v) + 1 ≤ deN m x y) := by
  have a1 := deN_ok ok h1
  have a2 := deN_ok ok h2
  have e24 : nI 24 = 24 := rfl
  have b1 : nI (deN m x y) ≤ 24 := by rw [← e24]; exact (dI_le (by omega) (by omega)).2 a1.2
  have b2 : nI (deN m (x + u) (y + v)) ≤ 24 := by rw [← e24]; exact (dI_le (by omega) (by omega)).2 a2.2
  have c1 := @nI_lt0 (deN m x y) (by omega)
  have c2 := @nI_lt0 (deN m (x + u) (y + v)) (by omega)
  have e : nI (deN m (x + u) (y + v)) = nI (deN m x y) + gDep (m 0) (mD m) u v := by
    rw [← a1.1, ← a2.1, dep_lin]; grind
  constructor
  · intro h
    have : nI (deN m x y) < nI (deN m (x + u) (y + v)) := by grind
    exact (dI_lt (by omega) (by omega)).1 this
  · intro h
    have : nI (deN m (x + u) (y + v)) < nI (deN m x y) := by grind
    exact (dI_lt (by omega) (by omega)).1 this
theorem dE_de (m : Vc) (k : Nat) : dE m k = deN m (mC m k 3) (mC m k 4) := rfl
theorem deN_geo {m' : Vc} (h : Geo m m') (x y : Int32) : deN m' x y = deN m x y := by
  unfold deN mD
  rw [h.1, h.2.2.1]
theorem Phi_geo {m' : Vc} (hG : Geo m m') {k0 : Nat} (hk : k0 < mN m) (h : ∀ k, k < mN m → phi m k ≤ phi m' k) (h0 : phi m k0 + 1 ≤ phi m' k0) : Phi m + 1 ≤ Phi m' := by
  unfold Phi
  rw [geo_N hG]
  exact nsum_lt h hk h0
theorem Phi_same {m' : Vc} (hG : Geo m m') (h : ∀ k, k < mN m → phi m' k = phi m k) : Phi m' = Phi m := by
  unfold Phi
  rw [geo_N hG]
  exact Nat.le_antisymm (nsum_le (fun k hk => Nat.le_of_eq (h k hk))) (nsum_le (fun k hk => Nat.le_of_eq (h k hk).symm))
theorem Phi_vset {i : Nat} {v : Int32} (h : i = 4 ∨ 7 ≤ i) (hi : i < 10) : Phi (vset m i v) = Phi m := by
  refine Phi_same (geo_vset h) (fun k _ => ?_)
  unfold phi
  rw [dE_de, dE_de, deN_geo (geo_vset h), mC_vset hi, mC_vset hi, mC_vset hi, mC_vset hi]
/-- a direction that suits a chip -/
def Suit (m : Vc) (k d : Nat) : Prop := if mC m k 0 = 2 then gDep (m 0) (mD m) (gSX (m 0) d) (gSY (m 0) d) ≤ -1 else 1 ≤ gDep (m 0) (mD m) (gSX (m 0) d) (gSY (m 0) d)
theorem phi_move (ok : OKm m) (hk : k < mN m) (hi : mC m k 6 = 1) {d : Nat} (hs : Suit m k d) (hb : gBox (m 0) (m 1) (mTo m k d).1 (mTo m k d).2 = true) : Phi m + 1 ≤ Phi (mMove m k (mTo m k d).1 (mTo m k d).2) := by
  have hn0 := ok_near ok hk hi
  have hn1 := box_near hb
  have hc := de_cmp ok hn0 (u := gSX (m 0) d) (v := gSY (m 0) d) hn1
  have hk1 : phi m k + 1 ≤ phi (mMove m k (mTo m k d).1 (mTo m k d).2) k := by
    unfold phi
    rw [dE_de, dE_de, deN_geo geo_move, same_move k 6 (by omega), same_move k 0 (by omega), mMove_C (by decide), mMove_C (by decide), if_pos rfl, if_pos rfl]
    rw [if_pos hi, if_pos hi, if_pos rfl, if_neg (show ¬ (4 : Nat) = 3 by decide), if_pos rfl]
    unfold Suit at hs
    have r0 := (deN_ok ok hn0).2
    have r1 := (deN_ok ok hn1).2
    by_cases h2 : mC m k 0 = 2
    · rw [if_pos h2] at hs
      rw [if_pos h2, if_pos h2]
      have h3 : deN m (mTo m k d).1 (mTo m k d).2 + 1 ≤ deN m (mC m k 3) (mC m k 4) := hc.2 hs
      omega
    · rw [if_neg h2] at hs
      rw [if_neg h2, if_neg h2]
      exact hc.1 hs
  refine Phi_geo geo_move hk (fun j _ => ?_) hk1
  by_cases hjk : j = k
  · subst hjk; omega
  · refine Nat.le_of_eq ?_
    unfold phi
    rw [dE_de, dE_de, deN_geo geo_move, same_move j 6 (by omega), same_move j 0 (by omega), mMove_C (by decide), mMove_C (by decide), if_neg hjk, if_neg hjk]
theorem phi_exc (ok : OKm m) (hk : k < mN m) (hi : mC m k 6 = 1) {d : Nat} (hd : d < gDirs (m 0)) (hkind : ¬ mC m k 0 = 2) (hs : 1 ≤ gDep (m 0) (mD m) (gSX (m 0) d) (gSY (m 0) d)) {j : Nat} (hj : j < mN m) (ha : mAt m (mTo m k d).1 (mTo m k d).2 j) (hjk : mC m j 0 = 2) (hb : gBox (m 0) (m 1) (mTo m k d).1 (mTo m k d).2 = true) :
    Phi m + 1 ≤ Phi (mExc m k j (mTo m k d).1 (mTo m k d).2 (mC m k 3) (mC m k 4)) := by
  have hkj := no_self hd ha
  have hn0 := ok_near ok hk hi
  have hn1 := box_near hb
  have hc := (de_cmp ok hn0 (u := gSX (m 0) d) (v := gSY (m 0) d) hn1).1 hs
  have hc' : deN m (mC m k 3) (mC m k 4) + 1 ≤ deN m (mTo m k d).1 (mTo m k d).2 := hc
  have r1 := (deN_ok ok hn1).2
  have hS := @same_exc m k j (mTo m k d).1 (mTo m k d).2 (mC m k 3) (mC m k 4) hkj
  have hk1 : phi m k + 1 ≤ phi (mExc m k j (mTo m k d).1 (mTo m k d).2 (mC m k 3) (mC m k 4)) k := by
    unfold phi
    rw [dE_de, dE_de, deN_geo geo_exc, hS k 6 (by omega), hS k 0 (by omega), mExc_C hkj (by decide), mExc_C hkj (by decide), if_pos rfl, if_pos rfl]
    rw [if_pos hi, if_pos hi, if_pos rfl, if_neg (show ¬ (4 : Nat) = 3 by decide), if_pos rfl, if_neg hkind, if_neg hkind]
    exact hc'
  have hj1 : phi m j ≤ phi (mExc m k j (mTo m k d).1 (mTo m k d).2 (mC m k 3) (mC m k 4)) j := by
    unfold phi
    rw [dE_de, dE_de, deN_geo geo_exc, hS j 6 (by omega), hS j 0 (by omega), mExc_C hkj (by decide), mExc_C hkj (by decide), if_neg (Ne.symm hkj), if_neg (Ne.symm hkj), if_pos rfl, if_pos rfl]
    rw [if_pos ha.1, if_pos ha.1, if_pos hjk, if_pos hjk, if_pos rfl, if_neg (show ¬ (4 : Nat) = 3 by decide), if_pos rfl, ha.2.1, ha.2.2]
    omega
  refine Phi_geo geo_exc hk (fun i _ => ?_) hk1
  by_cases hik : i = k
  · subst hik; omega
  · by_cases hij : i = j
    · subst hij; exact hj1
    · refine Nat.le_of_eq ?_
      unfold phi
      rw [dE_de, dE_de, deN_geo geo_exc, hS i 6 (by omega), hS i 0 (by omega), mExc_C hkj (by decide), mExc_C hkj (by decide), if_neg hik, if_neg hik, if_neg hij, if_neg hij]
def PHI (m : Vc) (r : Bool × Vc) : Prop := r.1 = true → Phi m + 1 ≤ Phi r.2
theorem phi_try (ok : OKm m) (hk : k < mN m) (hi : mC m k 6 = 1) {d : Nat} (hd : d < gDirs (m 0)) {ex : Bool} (hex : ex = true → ¬ mC m k 0 = 2) (hs : Suit m k d) : PHI m (mTry m k d ex) := by
  have hn := came_le ok
  unfold PHI mTry
  by_cases hb : gBox (m 0) (m 1) (mTo m k d).1 (mTo m k d).2 = true
  · rw [if_pos hb]
    rcases mBd_cases m (mTo m k d).1 (mTo m k d).2 with ⟨hf, _⟩ | ⟨j, hj, ha, hbj⟩
    · rw [if_pos hf]
      exact fun _ => phi_move ok hk hi hs hb
    · have hne : ¬ mBd m (mTo m k d).1 (mTo m k d).2 = -1 := by rw [hbj]; exact nI_ne1 (by omega)
      rw [if_neg hne, hbj, nI_n (by omega)]
      by_cases hx : ex = true ∧ mC m j 0 = 2
      · rw [if_pos hx]
        have hkk := hex hx.1
        unfold Suit at hs
        rw [if_neg hkk] at hs
        exact fun _ => phi_exc ok hk hi hd hkk hs hj ha hx.2 hb
      · rw [if_neg hx]
        exact Bool.noConfusion
  · rw [if_neg hb]
    exact Bool.noConfusion
theorem phi_roll2 (ok : OKm m) (hk : k < mN m) (hi : mC m k 6 = 1) {d1 d2 : Nat} (h1 : d1 < gDirs (m 0)) (h2 : d2 < gDirs (m 0)) (s1 : Suit m k d1) (s2 : Suit m k d2) : PHI m (mRoll2 m k d1 d2) := by
  have p1 := phi_try (ex := false) ok hk hi h1 Bool.noConfusion s1
  have p2 := phi_try (ex := false) ok hk hi h2 Bool.noConfusion s2
  unfold PHI mRoll2
  by_cases c1 : (mTry m k d1 false).1 = true
  · rw [if_pos c1]
    intro _
    rw [Phi_vset (.inr (by decide)) (by decide)]
    exact p1 c1
  · rw [if_neg c1]
    by_cases c2 : (mTry m k d2 false).1 = true
    · rw [if_pos c2]
      intro _
      rw [Phi_vset (.inr (by decide)) (by decide)]
      exact p2 c2
    · rw [if_neg c2]
      exact Bool.noConfusion
theorem phi_fall (ok : OKm m) (hk : k < mN m) (hi : mC m k 6 = 1) (hkind : ¬ mC m k 0 = 2) : PHI m (mFall m k) := by
  have hu := up_all ok.2.2.1.2
  have s0 : Suit m k (mD m) := by unfold Suit; rw [if_neg hkind]; exact hu.1
  have sN : Suit m k (dN m) := by unfold Suit; rw [if_neg hkind]; exact hu.2.1
  have sP : Suit m k (dP m) := by unfold Suit; rw [if_neg hkind]; exact hu.2.2.1
  have p1 := phi_try (ex := true) ok hk hi ok.2.2.1.2 (fun _ => hkind) s0
  unfold PHI mFall
  by_cases c1 : (mTry m k (mD m) true).1 = true
  · rw [if_pos c1]
    exact fun _ => p1 c1
  · rw [if_neg c1]
    split
    · split
      · exact phi_roll2 ok hk hi dN_lt dP_lt sN sP
      · exact phi_roll2 ok hk hi dP_lt dN_lt sP sN
    · exact Bool.noConfusion
theorem phi_rise (ok : OKm m) (hk : k < mN m) (hi : mC m k 6 = 1) (hkind : mC m k 0 = 2) : PHI m (mRise m k) := by
  have hu := up_all ok.2.2.1.2
  refine phi_try ok hk hi dU_lt Bool.noConfusion ?_
  unfold Suit
  rw [if_pos hkind]
  exact hu.2.2.2
theorem phi_ph {f : Vc → Nat → Bool × Vc} {P : Int32 → Prop} (hf : ∀ m k, OKm m → k < mN m → mC m k 6 = 1 → TFX m (f m k)) (hp : ∀ m k, OKm m → k < mN m → mC m k 6 = 1 → P (mC m k 0) → PHI m (f m k)) (l : List Nat) : ∀ m, OKm m → Inb m l → (∀ k, k ∈ l → P (mC m k 0)) → Phi m + (mPh f l m).1 ≤ Phi (mPh f l m).2 := by
  induction l with
  | nil => intro m _ _ _; exact Nat.le_refl _
  | cons k t ih =>
    intro m ok hI hP
    have hk := hI k List.mem_cons_self
    obtain ⟨a1, a2, a3, a4, _⟩ := hf m k ok hk.1 hk.2
    have h1 := ih (f m k).2 a1 (inb_same (inb_tl hI) a2 a3) (fun j hj => by rw [a3 j 0 (by omega)]; exact hP j (List.mem_cons_of_mem _ hj))
    have h2 := hp m k ok hk.1 hk.2 (hP k List.mem_cons_self)
    show Phi m + ((mPh f t (f m k).2).1 + (if (f m k).1 = true then 1 else 0)) ≤ Phi (mPh f t (f m k).2).2
    cases hc : (f m k).1 with
    | true => rw [if_pos rfl]; have := h2 hc; omega
    | false => rw [if_neg Bool.false_ne_true]; have := a4 hc; rw [this] at h1 ⊢; omega
theorem ord_kind2 {m : Vc} : ∀ k, k ∈ mOrd m true → mC m k 0 = 2 := by
  intro k hk
  have := (ordL_mem m true _ k hk).2
  unfold sel at this
  rw [if_pos rfl, Bool.and_eq_true, decide_eq_true_eq, decide_eq_true_eq] at this
  exact this.2
theorem phi_tk (ok : OKm m) : Phi m + mTkN m ≤ Phi (mTkV m) := by
  have h1 := phi_ph (P := fun v => ¬ v = 2) (fun _ _ o a b => fall_facts o a b) (fun _ _ o a b c => phi_fall o a b c) (mOrd m false) m ok (ord_inb m false) ord_kind
  have h2 := phi_ph (P := fun v => v = 2) (fun _ _ o a b => rise_facts o a b) (fun _ _ o a b c => phi_rise o a b c) (mOrd (mP1 m).2 true) (mP1 m).2 (p1_facts ok).1 (ord_inb _ true) ord_kind2
  have h1' : Phi m + (mP1 m).1 ≤ Phi (mP1 m).2 := h1
  have h2' : Phi (mP1 m).2 + (mP2 m).1 ≤ Phi (mP2 m).2 := h2
  unfold mTkN mTkV
  rw [Phi_vset (.inl rfl) (by decide)]
  omega
end PH
noncomputable def mRest : Nat → Vc → Nat × Vc
  | 0, m => (0, m)
  | f + 1, m => haveI := Classical.propDecidable (mTkN m = 0); if mTkN m = 0 then (0, m) else ((mRest f (mTkV m)).1 + 1, (mRest f (mTkV m)).2)
theorem rest_stop {f : Nat} {m : Vc} (h : mTkN m = 0) : mRest (f + 1) m = (0, m) := by rw [mRest.eq_2, if_pos h]
theorem rest_go {f : Nat} {m : Vc} (h : ¬ mTkN m = 0) : mRest (f + 1) m = ((mRest f (mTkV m)).1 + 1, (mRest f (mTkV m)).2) := by rw [mRest.eq_2, if_neg h]
theorem rest_le (f : Nat) : ∀ m, (mRest f m).1 ≤ f := by
  induction f with
  | zero => intro m; exact Nat.le_refl _
  | succ f ih =>
    intro m
    by_cases h : mTkN m = 0
    · rw [rest_stop h]; exact Nat.zero_le _
    · rw [rest_go h]
      have := ih (mTkV m)
      show (mRest f (mTkV m)).1 + 1 ≤ f + 1
      omega
theorem rest_facts (f : Nat) : ∀ m, OKm m → OKm (mRest f m).2 ∧ HI m (mRest f m).2 ∧ Geo m (mRest f m).2 ∧ Same m (mRest f m).2 := by
  induction f with
  | zero => intro m ok; exact ⟨ok, hi_refl, geo_refl, same_refl⟩
  | succ f ih =>
    intro m ok
    by_cases h : mTkN m = 0
    · rw [rest_stop h]; exact ⟨ok, hi_refl, geo_refl, same_refl⟩
    · rw [rest_go h]
      obtain ⟨a, b, c, d⟩ := ih (mTkV m) (tk_ok ok)
      have p1 := p1_facts ok
      have p2 := p2_facts ok
      exact ⟨a, hi_trans (hi_tk ok) b, geo_trans (geo_trans p1.2.1 (geo_trans p2.2.1 (geo_vset (.inl rfl)))) c, same_trans (same_trans p1.2.2.1 (same_trans p2.2.2.1 (same_vset (by decide)))) d⟩
noncomputable def mSet' (m : Vc) : Nat × Vc := mRest 721 m
section ST
variable {σ : Sto} {m : Vc}
theorem c_settle_L (f : Nat) : ∀ (v fu : Nat) (m : Vc) (τ : Sto), 721 ≤ Phi m + f → v + f ≤ 1000 → f < fu → BX τ 34 m → OKm m →
    ∃ ρ, fX6_settleTrial_L2 fu (nI v) τ = some (nI (v + (mRest f m).1), ρ) ∧ BX ρ 34 (mRest f m).2 ∧ FQ 34 21 τ ρ := by
  induction f with
  | zero =>
    intro v fu m τ hP hv hf hB ok
    have := Phi_le ok
    omega
  | succ f ih =>
    intro v fu m τ hP hv hf hB ok
    match fu, hf with
    | fu + 1, hf =>
      obtain ⟨τ1, e1, a1, a2⟩ := c_tick ok (q0 := 21) (b := 34) (.inl (by decide)) hB
      have hle := tkN_le ok
      rw [fX6_settleTrial_L2.eq_2, if_neg (show ¬ (100000 : Int32) ≤ nI v from fun c => by have := (dI_le (a := 100000) (by omega) (by omega)).1 c; omega), e1, Option.bind_some]
      by_cases h : mTkN m = 0
      · rw [if_pos (show nI (mTkN m) ≤ (0 : Int32) by rw [h]; decide), rest_stop h]
        unfold mTk at a1
        rw [if_pos h] at a1
        exact ⟨τ1, rfl, a1, a2⟩
      · have hp := phi_tk ok
        rw [if_neg (show ¬ nI (mTkN m) ≤ (0 : Int32) by rw [show (0 : Int32) = nI 0 from rfl, dI_le (by omega) (by omega)]; omega), rest_go h, nI_add1]
        unfold mTk at a1
        rw [if_neg h] at a1
        obtain ⟨ρ, e2, b1, b2⟩ := ih (v + 1) fu (mTkV m) τ1 (by omega) (by omega) (by omega) a1 (tk_ok ok)
        refine ⟨ρ, ?_, b1, fq_trans a2 b2⟩
        rw [e2, show v + 1 + (mRest f (mTkV m)).1 = v + ((mRest f (mTkV m)).1 + 1) by omega]
theorem c_settle (ok : OKm m) (h : BX σ 34 m) : ∃ ρ, fX6_settleTrial σ = some (nI (mSet' m).1, ρ) ∧ BX ρ 34 (mSet' m).2 ∧ FQ 34 21 σ ρ := by
  obtain ⟨ρ, e, a, b⟩ := c_settle_L 721 0 kFU m σ (by omega) (by omega) (by unfold kFU; omega) h ok
  refine ⟨ρ, ?_, a, b⟩
  rw [Nat.zero_add] at e
  exact e
theorem m_settle_L (f : Nat) : ∀ (v fu : Nat) (m : Vc) (τ : Sto), 721 ≤ Phi m + f → f < fu → τ 134 = m → MK τ → OKm m →
    ∃ ρ, fX7_settlesAll_L2 fu (nI v) τ = some (nI (v + (mRest f m).1), ρ) ∧ ρ 134 = (mRest f m).2 ∧ MK ρ ∧ FT8 τ ρ := by
  induction f with
  | zero =>
    intro v fu m τ hP hf hm hK ok
    have := Phi_le ok
    omega
  | succ f ih =>
    intro v fu m τ hP hf hm hK ok
    match fu, hf with
    | fu + 1, hf =>
      obtain ⟨τ1, e1, a1, a2⟩ := m_movesNow ok hm hK
      have hle := tkN_le ok
      rw [fX7_settlesAll_L2.eq_2, e1, Option.bind_some]
      by_cases h : mTkN m = 0
      · rw [if_pos (show nI (mTkN m) ≤ (0 : Int32) by rw [h]; decide), rest_stop h]
        exact ⟨τ1, rfl, a1, ft8_mk a2 hK, a2⟩
      · have hp := phi_tk ok
        rw [if_neg (show ¬ nI (mTkN m) ≤ (0 : Int32) by rw [show (0 : Int32) = nI 0 from rfl, dI_le (by omega) (by omega)]; omega), rest_go h, nI_add1]
        obtain ⟨τ2, e2, b1, b2, b3⟩ := m_ticksOnce ok a1 (ft8_mk a2 hK)
        rw [e2, Option.bind_some]
        obtain ⟨ρ, e3, c1, c2, c3⟩ := ih (v + 1) fu (mTkV m) τ2 (by omega) (by omega) b1 b2 (tk_ok ok)
        refine ⟨ρ, ?_, c1, c2, ft8_trans a2 (ft8_trans (ft8_ft b3) c3)⟩
        rw [e3, show v + 1 + (mRest f (mTkV m)).1 = v + ((mRest f (mTkV m)).1 + 1) by omega]
theorem m_settle (ok : OKm m) (hm : σ 134 = m) (hK : MK σ) : ∃ ρ, fX7_settlesAll σ = some (nI (mSet' m).1, ρ) ∧ ρ 134 = (mSet' m).2 ∧ MK ρ ∧ FT8 σ ρ := by
  obtain ⟨ρ, e, a, b, c⟩ := m_settle_L 721 0 kFU m σ (by omega) (by unfold kFU; omega) hm hK ok
  refine ⟨ρ, ?_, a, b, c⟩
  rw [Nat.zero_add] at e
  exact e
end ST
