/-! a new box -/
def mNew (a r : Int32) : Vc := fun i => if i = 0 then a else if i = 1 then r else if i = 3 then 90 else 0
theorem ok_new {a r : Int32} (ha : gAng a) (hr : rOK r) : OKm (mNew a r) := by
  have hN : mN (mNew a r) = 0 := rfl
  have hd := @dirs_le a
  refine ⟨ha, hr, ⟨rfl, ?_⟩, ⟨by show (1 : Int32) ≤ 90; decide, by show (90 : Int32) ≤ 100; decide⟩, ⟨rfl, by rw [hN]; omega⟩, ⟨rfl, by show (0 : Nat) < 4; decide⟩, fun k hk => ?_, fun k j hk => ?_⟩
  · show 0 < gDirs a
    omega
  · rw [hN] at hk; omega
  · rw [hN] at hk; omega
theorem zr_new {a r : Int32} : Zr (mNew a r) := fun i hi => by
  unfold mNew
  rw [if_neg (by omega), if_neg (by omega), if_neg (by omega)]
def zd0 (a1 a2 : Int32) : Int32 := if (if 0 ≤ a1 then a1 else 0 - a1) < (if 0 ≤ a2 then a2 else 0 - a2) then (if 0 ≤ a2 then a2 else 0 - a2) else (if 0 ≤ a1 then a1 else 0 - a1)
def zd1 (a1 a2 : Int32) : Int32 := if zd0 a1 a2 < (if 0 ≤ (a1 + a2) then (a1 + a2) else 0 - (a1 + a2)) then (if 0 ≤ (a1 + a2) then (a1 + a2) else 0 - (a1 + a2)) else zd0 a1 a2
theorem zone_fin : ∀ i, i < 15 → ∀ j, j < 15 → ∀ r, r < 7 → decide (zd0 (nI i - 7) (nI j - 7) ≤ nI r) = gNear 90 (nI r) (nI i - 7) (nI j - 7) ∧ decide (zd1 (nI i - 7) (nI j - 7) ≤ nI r) = gNear 60 (nI r) (nI i - 7) (nI j - 7) := by decide +kernel
theorem zone_all {x y : Int32} (h : inR x y) {r : Nat} (hr : r < 7) : decide (zd0 x y ≤ nI r) = gNear 90 (nI r) x y ∧ decide (zd1 x y ≤ nI r) = gNear 60 (nI r) x y :=
  co_enum (P := fun u => decide (zd0 u y ≤ nI r) = gNear 90 (nI r) u y ∧ decide (zd1 u y ≤ nI r) = gNear 60 (nI r) u y)
    (fun i hi => co_enum (P := fun v => decide (zd0 (nI i - 7) v ≤ nI r) = gNear 90 (nI r) (nI i - 7) v ∧ decide (zd1 (nI i - 7) v ≤ nI r) = gNear 60 (nI r) (nI i - 7) v) (fun j hj => zone_fin i hi j hj r hr) y h.2.1 h.2.2) x h.1.1 h.1.2
theorem near_hex {a a' r x y : Int32} (h : gHex a = gHex a') : gNear a r x y = gNear a' r x y := by unfold gNear; rw [h]
section NEW
variable {σ : Sto} {q b : Nat} {a r : Int32}
theorem c_between (ha : gAng a) (h0 : σ q 0 = a) {x y : Int32} : fX1_isBetweenMirrors q x y σ = gBet a x y := by
  unfold fX1_isBetweenMirrors fX1_isBetweenMirrors_L50 gBet
  rw [h0]
  have e1 : ∀ z : Int32, decide (0 ≤ z) = !decide (z < 0) := fun z => by
    by_cases h : z < 0
    · rw [decide_eq_true h, decide_eq_false (by grind)]; rfl
    · rw [decide_eq_false h, decide_eq_true (by grind)]; rfl
  have e2 : decide (y ≤ x) = !decide (x < y) := by
    by_cases h : x < y
    · rw [decide_eq_true h, decide_eq_false (by grind)]; rfl
    · rw [decide_eq_false h, decide_eq_true (by grind)]; rfl
  rw [e1, e1, e2]
  rcases ha with h | h | h | h | h <;> subst h <;> by_cases c1 : x < 0 <;> by_cases c2 : y < 0 <;> by_cases c3 : x < y <;> simp [c1, c2, c3]
theorem c_zone (ha : gAng a) (hr : rOK r) (h0 : σ q 0 = a) (h1 : σ q 1 = r) (h2 : σ q 2 = kb (gHex a)) {x y : Int32} (h : inR x y) : fX1_zoneAt q x y σ = gZone a r x y := by
  have er : nI r.toNatClampNeg = r := i32_nI (by have := hr.1; grind)
  have hr7 : r.toNatClampNeg < 7 := i32_n (by have := hr.1; grind) (by have := hr.2; show r < 7; grind) (by decide)
  obtain ⟨z0, z1⟩ := zone_all h hr7
  rw [er] at z0 z1
  have fin : ∀ d : Int32, decide (d ≤ r) = gNear a r x y → fX1_zoneAt_L30 q x y d σ = gZone a r x y := by
    intro d hd
    unfold fX1_zoneAt_L30 gZone
    rw [h1, c_between ha h0]
    by_cases c : d ≤ r
    · rw [decide_eq_true c] at hd
      rw [if_pos c, ← hd, if_pos rfl]
    · rw [decide_eq_false c] at hd
      rw [if_neg c, ← hd, if_neg Bool.false_ne_true]
  unfold fX1_zoneAt
  rw [h2]
  cases hx : gHex a with
  | false =>
    rw [if_pos (show kb false = 0 from rfl)]
    exact fin (zd0 x y) (by rw [z0]; exact near_hex (by rw [hx]; rfl))
  | true =>
    rw [if_neg (show ¬ kb true = 0 by decide)]
    exact fin (zd1 x y) (by rw [z1]; exact near_hex (by rw [hx]; rfl))
theorem c_become_L {A1 A2 : Int32} (ha : gAng a) (hr : rOK r) (n : Nat) : ∀ (i fu : Nat) (τ : Sto), i + n = 225 → n < fu → τ q 0 = a → τ q 1 = r → τ q 2 = kb (gHex a) → (∀ j, j < i → τ (q + 1) j = gZone a r (cx j) (cy j)) → ∃ ρ, fX1_become_L39 q A1 A2 fu (nI i) τ = some ρ ∧ (∀ j, j < 225 → ρ (q + 1) j = gZone a r (cx j) (cy j)) ∧ ∀ p, p ≠ q + 1 → ρ p = τ p := by
  induction n with
  | zero =>
    intro i fu τ hi hf h0 h1 h2 hz
    match fu, hf with
    | fu + 1, _ =>
      have : i = 225 := by omega
      subst this
      rw [fX1_become_L39.eq_2, if_pos (by decide)]
      exact ⟨τ, rfl, hz, fun _ _ => rfl⟩
  | succ n ih =>
    intro i fu τ hi hf h0 h1 h2 hz
    match fu, hf with
    | fu + 1, hf =>
      have e : fX1_zoneAt q (fX1_xOf (nI i)) (fX1_yOf (nI i)) τ = gZone a r (cx i) (cy i) := c_zone ha hr h0 h1 h2 (cxy_in (by omega))
      rw [fX1_become_L39.eq_2, if_neg (le225 (by omega)), if_pos (kn225 (by omega)), klet_eq, nI_n (by omega), e, nI_add1]
      obtain ⟨ρ, e1, g1, g2⟩ := ih (i + 1) fu (su τ (q + 1) i (gZone a r (cx i) (cy i))) (by omega) (by omega) (by rw [su_k (by omega)]; exact h0) (by rw [su_k (by omega)]; exact h1) (by rw [su_k (by omega)]; exact h2) (fun j hj => by
        by_cases hji : j = i
        · subst hji; exact su_eq
        · rw [su_i hji]; exact hz j (by omega))
      exact ⟨ρ, e1, g1, fun p hp => by rw [g2 p hp, su_k hp]⟩
theorem c_become (ha : gAng a) (hr : rOK r) : ∃ τ, fX1_become q a r σ = some τ ∧ LX τ q a r ∧ ∀ p, p ≠ q → p ≠ q + 1 → τ p = σ p := by
  unfold fX1_become
  have key : ∀ k : Bool, k = gHex a → ∃ τ, fX1_become_L39 q a r kFU 0 (su (su (su σ q 0 a) q 1 r) q 2 (kb k)) = some τ ∧ LX τ q a r ∧ ∀ p, p ≠ q → p ≠ q + 1 → τ p = σ p := by
    intro k hk
    subst hk
    obtain ⟨τ, e, g1, g2⟩ := c_become_L (A1 := a) (A2 := r) ha hr 225 0 kFU (su (su (su σ q 0 a) q 1 r) q 2 (kb (gHex a))) (by omega) (by unfold kFU; omega) (by rw [su_i (by decide), su_i (by decide), su_eq]) (by rw [su_i (by decide), su_eq]) su_eq (fun j hj => absurd hj (by omega))
    refine ⟨τ, e, ⟨⟨?_, ?_, ?_⟩, g1⟩, fun p p1 p2 => by rw [g2 p p2, su_k p1, su_k p1, su_k p1]⟩
    · rw [g2 q (by omega), su_i (by decide), su_i (by decide), su_eq]
    · rw [g2 q (by omega), su_i (by decide), su_eq]
    · rw [g2 q (by omega), su_eq]
  rw [klet_eq, klet_eq, su_i (show 0 ≠ 1 by decide), su_eq]
  rcases ha with h | h | h | h | h <;> subst h
  · rw [if_neg (by decide), if_neg (by decide), klet_eq]; exact key false rfl
  · rw [if_neg (by decide), if_neg (by decide), klet_eq]; exact key false rfl
  · rw [if_neg (by decide), if_neg (by decide), klet_eq]; exact key false rfl
  · rw [if_pos rfl, klet_eq]; exact key true rfl
  · rw [if_neg (by decide), if_pos rfl, klet_eq]; exact key true rfl
theorem c_begin (ha : gAng a) (hr : rOK r) : ∃ τ, fX5_begin b a r σ = some τ ∧ BX τ b (mNew a r) ∧ FB b σ τ := by
  obtain ⟨τ, e1, g1, g2⟩ := @c_become σ (b + 1) a r ha hr
  unfold fX5_begin
  rw [e1, Option.bind_some, klet_eq, klet_eq, klet_eq, klet_eq, klet_eq, klet_eq, klet_eq, klet_eq]
  generalize hT : su (su (su (su (su (su (su (su τ b 1 0) b 2 90) b 3 0) b 4 0) b 5 0) b 6 0) b 7 0) b 8 0 = τ8
  have t : ∀ i, 1 ≤ i → i ≤ 8 → τ8 b i = if i = 2 then 90 else 0 := by
    intro i h1 h8
    rw [← hT]
    have : i = 1 ∨ i = 2 ∨ i = 3 ∨ i = 4 ∨ i = 5 ∨ i = 6 ∨ i = 7 ∨ i = 8 := by omega
    rcases this with h | h | h | h | h | h | h | h <;> subst h <;> simp [su_at]
  have tp : ∀ p, p ≠ b → τ8 p = τ p := fun p hp => by rw [← hT, su_k hp, su_k hp, su_k hp, su_k hp, su_k hp, su_k hp, su_k hp, su_k hp]
  obtain ⟨ρ, e2, k1, k2⟩ := @j_fill (b + 8) 225 (by decide) (-1) τ8
  rw [e2, Option.bind_some]
  refine ⟨ρ, rfl, ⟨⟨?_, fun c hc => ?_⟩, ?_, fun k hk => absurd hk (Nat.not_lt_zero k), fun c hc => ?_⟩, fun p hp => ?_⟩
  · rw [k2 (b + 1) (by omega), tp (b + 1) (by omega)]; exact g1.1
  · rw [k2 (b + 1 + 1) (by omega), tp (b + 1 + 1) (by omega)]; exact g1.2 c hc
  · rw [k2 b (by omega), t 1 (by decide) (by decide), t 2 (by decide) (by decide), t 3 (by decide) (by decide), t 4 (by decide) (by decide), t 5 (by decide) (by decide), t 6 (by decide) (by decide), t 7 (by decide) (by decide), t 8 (by decide) (by decide)]
    exact ⟨rfl, rfl, rfl, rfl, rfl, rfl, rfl, rfl⟩
  · rw [k1 c hc]; rfl
  · rw [k2 p (by omega), tp p (by omega), g2 p (by omega) (by omega)]
end NEW
/-! the grammar: what stands at p, or the error's code and place -/
abbrev PR (α : Type) : Type := α ⊕ (Int32 × Nat)
def pb {α β : Type} (r : PR α) (f : α → PR β) : PR β := match r with | .inl a => f a | .inr e => .inr e
theorem pb_l {α β : Type} {a : α} {f : α → PR β} : pb (.inl a) f = f a := rfl
theorem pb_r {α β : Type} {e : Int32 × Nat} {f : α → PR β} : pb (.inr e : PR α) f = .inr e := rfl
theorem pb_inl {α β : Type} {r : PR α} {f : α → PR β} {b : β} (h : pb r f = .inl b) : ∃ a, r = .inl a ∧ f a = .inl b := by
  rcases r with a | e
  · exact ⟨a, rfl, h⟩
  · exact absurd h (by rw [pb_r]; intro c; cases c)
noncomputable def gWd (B : Nat → Int32) (L t p : Nat) : PR Nat := if dB (WDt B L t p) = true then .inl (tkE B L p) else .inr (1, tkS B L p)
def gTk (B : Nat → Int32) (L : Nat) (t : Int32) (p : Nat) : PR Nat := if tkT B L p = t then .inl (tkE B L p) else .inr (1, tkS B L p)
def gNu (B : Nat → Int32) (L : Nat) (lo hi : Int32) (p : Nat) : PR (Int32 × Nat) := if tkT B L p = 2 then (if fX7_isIn (tkV B L p) lo hi = true then .inl (tkV B L p, tkE B L p) else .inr (2, tkS B L p)) else .inr (1, tkS B L p)
def gQ (B : Nat → Int32) (L p : Nat) : Nat := if tkT B L p = 3 then tkE B L p else p
def gPl (B : Nat → Int32) (L p : Nat) : PR (Int32 × Nat) := if tkT B L (gQ B L p) = 2 then (if tkV B L (gQ B L p) ≤ 6 then .inl (if tkT B L p = 3 then -(tkV B L (gQ B L p)) else tkV B L (gQ B L p), tkE B L (gQ B L p)) else .inr (2, tkS B L (gQ B L p))) else .inr (1, tkS B L (gQ B L p))
noncomputable def gKd (B : Nat → Int32) (L p : Nat) : Int32 := if dB (WDt B L 2 p) = true then 0 else if dB (WDt B L 3 p) = true then 1 else if dB (WDt B L 4 p) = true then 2 else if dB (WDt B L 5 p) = true then 3 else -1
noncomputable def gCh (B : Nat → Int32) (L : Nat) (kd : Int32) (m : Vc) (p : Nat) : PR (Vc × Nat) :=
  if mN m = 30 then .inr (4, tkS B L p) else
  pb (gNu B L 1 9 (tkE B L p)) fun r1 => pb (gNu B L 1 9 r1.2) fun r2 => pb (gPl B L r2.2) fun r3 => pb (gPl B L r3.2) fun r4 =>
  if gBox (m 0) (m 1) r3.1 r4.1 = true then (if mBd m r3.1 r4.1 = -1 then .inl (mAdd m kd r1.1 r2.1 r3.1 r4.1, r4.2) else .inr (3, tkS B L (gQ B L r3.2))) else .inr (3, tkS B L (gQ B L r3.2))
noncomputable def gSt (B : Nat → Int32) (L : Nat) (m : Vc) (p : Nat) : PR (Vc × Nat) :=
  if gKd B L p = -1 then
    if dB (WDt B L 6 p) = true then pb (gNu B L 0 (nI (gDirs (m 0)) - 1) (tkE B L p)) fun r => .inl (vset m 2 r.1, r.2)
    else if dB (WDt B L 7 p) = true then pb (gNu B L 1 100 (tkE B L p)) fun r => .inl (vset m 3 r.1, r.2)
    else if dB (WDt B L 8 p) = true then pb (gNu B L 0 (nI (gMany (m 0)) - 1) (tkE B L p)) fun r => if (mV m).testBit r.1.toNatClampNeg = true then .inr (3, tkS B L (tkE B L p)) else .inl (mCov m r.1.toNatClampNeg, r.2)
    else .inr (1, tkS B L p)
  else gCh B L (gKd B L p) m p
noncomputable def gSS (B : Nat → Int32) (L : Nat) (m : Vc) (p : Nat) : PR (Vc × Nat) := pb (gSt B L m p) fun r => pb (gTk B L 4 r.2) fun q => .inl (r.1, q)
noncomputable def gLp (B : Nat → Int32) (L : Nat) : Nat → Vc → Nat → PR Vc
  | 0, _, _ => .inr (1, 0)
  | n + 1, m, p => if tkT B L p = 0 then .inl m else pb (gSS B L m p) fun r => gLp B L n r.1 r.2
noncomputable def gAll (B : Nat → Int32) (L : Nat) : PR Vc :=
  pb (gWd B L 0 0) fun p1 => if tkT B L p1 = 2 then (if fX7_isAngle (tkV B L p1) = true then
    pb (gWd B L 1 (tkE B L p1)) fun p2 => pb (gNu B L 1 6 p2) fun r => pb (gTk B L 4 r.2) fun p3 => gLp B L (L + 1) (mNew (tkV B L p1) r.1) p3
    else .inr (2, tkS B L p1)) else .inr (1, tkS B L p1)
section GF
variable {B : Nat → Int32} {L p q : Nat} {m m' : Vc} {v lo hi : Int32}
theorem gNu_f (e : gNu B L lo hi p = .inl (v, q)) : tkT B L p = 2 ∧ fX7_isIn v lo hi = true ∧ v = tkV B L p ∧ q = tkE B L p := by
  unfold gNu at e
  by_cases h1 : tkT B L p = 2
  · rw [if_pos h1] at e
    by_cases h2 : fX7_isIn (tkV B L p) lo hi = true
    · rw [if_pos h2] at e
      cases e
      exact ⟨h1, h2, rfl, rfl⟩
    · rw [if_neg h2] at e; cases e
  · rw [if_neg h1] at e; cases e
theorem gTk_f {t : Int32} (e : gTk B L t p = .inl q) : tkT B L p = t ∧ q = tkE B L p := by
  unfold gTk at e
  by_cases h1 : tkT B L p = t
  · rw [if_pos h1] at e; cases e; exact ⟨h1, rfl⟩
  · rw [if_neg h1] at e; cases e
theorem gWd_f {t : Nat} (e : gWd B L t p = .inl q) : WDt B L t p ∧ q = tkE B L p := by
  unfold gWd at e
  by_cases h1 : WDt B L t p
  · rw [dB_t h1, if_pos rfl] at e; cases e; exact ⟨h1, rfl⟩
  · rw [dB_f h1, if_neg Bool.false_ne_true] at e; cases e
theorem gQ_le (hp : p ≤ L) : p ≤ gQ B L p ∧ gQ B L p ≤ L := by
  have := @tkE_le B L p hp
  have := @tkS_le B L p hp
  unfold gQ
  split <;> omega
theorem gPl_f (e : gPl B L p = .inl (v, q)) : tkT B L (gQ B L p) = 2 ∧ tkV B L (gQ B L p) ≤ 6 ∧ v = (if tkT B L p = 3 then -(tkV B L (gQ B L p)) else tkV B L (gQ B L p)) ∧ q = tkE B L (gQ B L p) := by
  unfold gPl at e
  by_cases h1 : tkT B L (gQ B L p) = 2
  · rw [if_pos h1] at e
    by_cases h2 : tkV B L (gQ B L p) ≤ 6
    · rw [if_pos h2] at e
      cases e
      exact ⟨h1, h2, rfl, rfl⟩
    · rw [if_neg h2] at e; cases e
  · rw [if_neg h1] at e; cases e
theorem tkE_p (hp : p ≤ L) : p ≤ tkE B L p ∧ tkE B L p ≤ L := by
  have := @tkE_le B L p hp
  have := @tkS_le B L p hp
  omega
theorem ok_down (ok : OKm m) {d : Nat} (hd : d < gDirs (m 0)) : OKm (vset m 2 (nI d)) := by
  have hl := @dirs_le (m 0)
  refine okm_mk ok (vset_ne (by decide)) (vset_ne (by decide)) (vset_ne (by decide)) (fun j u => mC_vset (by decide)) ?_ ?_ ?_
  · have : mD (vset m 2 (nI d)) = d := by
      show ((vset m 2 (nI d)) 2).toNatClampNeg = d
      rw [vset_eq, nI_n (by omega)]
    rw [this, vset_eq]
    exact ⟨rfl, hd⟩
  · rw [vset_ne (by decide)]; exact ok.2.2.2.1
  · have : mV (vset m 2 (nI d)) = mV m := by unfold mV; rw [vset_ne (by decide)]
    rw [this, vset_ne (by decide)]
    exact ok.2.2.2.2.2.1
theorem gKd_r : gKd B L p = -1 ∨ (0 ≤ gKd B L p ∧ gKd B L p ≤ 3) := by
  unfold gKd
  by_cases h1 : dB (WDt B L 2 p) = true
  · rw [if_pos h1]; exact .inr (by decide)
  · rw [if_neg h1]
    by_cases h2 : dB (WDt B L 3 p) = true
    · rw [if_pos h2]; exact .inr (by decide)
    · rw [if_neg h2]
      by_cases h3 : dB (WDt B L 4 p) = true
      · rw [if_pos h3]; exact .inr (by decide)
      · rw [if_neg h3]
        by_cases h4 : dB (WDt B L 5 p) = true
        · rw [if_pos h4]; exact .inr (by decide)
        · rw [if_neg h4]; exact .inl rfl
theorem gCh_ok {kd : Int32} (hk : 0 ≤ kd ∧ kd ≤ 3) (ok : OKm m) (hz : Zr m) (hp : p ≤ L) (e : gCh B L kd m p = .inl (m', q)) : OKm m' ∧ Zr m' ∧ p ≤ q ∧ q ≤ L := by
  have hn := came_le ok
  unfold gCh at e
  by_cases h30 : mN m = 30
  · rw [if_pos h30] at e; cases e
  · rw [if_neg h30] at e
    obtain ⟨⟨v1, p1⟩, e1, e⟩ := pb_inl e
    obtain ⟨⟨v2, p2⟩, e2, e⟩ := pb_inl e
    obtain ⟨⟨v3, p3⟩, e3, e⟩ := pb_inl e
    obtain ⟨⟨v4, p4⟩, e4, e⟩ := pb_inl e
    obtain ⟨_, b1, _, c1⟩ := gNu_f e1
    obtain ⟨_, b2, _, c2⟩ := gNu_f e2
    obtain ⟨_, _, _, c3⟩ := gPl_f e3
    obtain ⟨_, _, _, c4⟩ := gPl_f e4
    have l0 := @tkE_p B L p hp
    have l1 := @tkE_p B L (tkE B L p) l0.2
    rw [← c1] at l1
    have l2 := @tkE_p B L p1 l1.2
    have c2' : p2 = tkE B L p1 := c2
    rw [← c2'] at l2
    have g3 := @gQ_le B L p2 l2.2
    have l3 := @tkE_p B L (gQ B L p2) g3.2
    have c3' : p3 = tkE B L (gQ B L p2) := c3
    rw [← c3'] at l3
    have g4 := @gQ_le B L p3 l3.2
    have l4 := @tkE_p B L (gQ B L p3) g4.2
    have c4' : p4 = tkE B L (gQ B L p3) := c4
    rw [← c4'] at l4
    by_cases hb : gBox (m 0) (m 1) v3 v4 = true
    · by_cases hf : mBd m v3 v4 = -1
      · have e' : (if gBox (m 0) (m 1) v3 v4 = true then (if mBd m v3 v4 = -1 then (.inl (mAdd m kd v1 v2 v3 v4, p4) : PR (Vc × Nat)) else .inr (3, tkS B L (gQ B L p3))) else .inr (3, tkS B L (gQ B L p3))) = .inl (m', q) := e
        rw [if_pos hb, if_pos hf] at e'
        cases e'
        exact ⟨ok_add ok (by omega) hk (isIn_iff.1 b1) (isIn_iff.1 b2) hb hf, zr_hi hz (hi_add (by omega)), by omega, by omega⟩
      · have e' : (if gBox (m 0) (m 1) v3 v4 = true then (if mBd m v3 v4 = -1 then (.inl (mAdd m kd v1 v2 v3 v4, p4) : PR (Vc × Nat)) else .inr (3, tkS B L (gQ B L p3))) else .inr (3, tkS B L (gQ B L p3))) = .inl (m', q) := e
        rw [if_pos hb, if_neg hf] at e'
        cases e'
    · have e' : (if gBox (m 0) (m 1) v3 v4 = true then (if mBd m v3 v4 = -1 then (.inl (mAdd m kd v1 v2 v3 v4, p4) : PR (Vc × Nat)) else .inr (3, tkS B L (gQ B L p3))) else .inr (3, tkS B L (gQ B L p3))) = .inl (m', q) := e
      rw [if_neg hb] at e'
      cases e'
theorem gSt_ok (ok : OKm m) (hz : Zr m) (hp : p ≤ L) (e : gSt B L m p = .inl (m', q)) : OKm m' ∧ Zr m' ∧ p ≤ q ∧ q ≤ L := by
  have l0 := @tkE_p B L p hp
  have l1 := @tkE_p B L (tkE B L p) l0.2
  unfold gSt at e
  by_cases hk : gKd B L p = -1
  · rw [if_pos hk] at e
    by_cases h6 : dB (WDt B L 6 p) = true
    · rw [if_pos h6] at e
      obtain ⟨⟨v, r⟩, e1, e⟩ := pb_inl e
      cases e
      obtain ⟨_, b1, _, c1⟩ := gNu_f e1
      have hd := @dirs_le (m 0)
      rcases idx_cases (n := gDirs (m 0)) (by omega) v with ⟨k, k1, k2, _⟩ | ⟨_, k2⟩
      · subst k2
        subst c1
        exact ⟨ok_down ok k1, zr_vset hz (by decide), by omega, l1.2⟩
      · exact absurd (b1.symm.trans k2) (by decide)
    · rw [if_neg h6] at e
      by_cases h7 : dB (WDt B L 7 p) = true
      · rw [if_pos h7] at e
        obtain ⟨⟨v, r⟩, e1, e⟩ := pb_inl e
        cases e
        obtain ⟨_, b1, _, c1⟩ := gNu_f e1
        subst c1
        exact ⟨ok_keep ok (isIn_iff.1 b1), zr_vset hz (by decide), by omega, l1.2⟩
      · rw [if_neg h7] at e
        by_cases h8 : dB (WDt B L 8 p) = true
        · rw [if_pos h8] at e
          obtain ⟨⟨v, r⟩, e1, e⟩ := pb_inl e
          obtain ⟨_, b1, _, c1⟩ := gNu_f e1
          have hg := @many_le (m 0)
          subst c1
          by_cases ht : (mV m).testBit v.toNatClampNeg = true
          · have e' : (if (mV m).testBit v.toNatClampNeg = true then (.inr (3, tkS B L (tkE B L p)) : PR (Vc × Nat)) else .inl (mCov m v.toNatClampNeg, tkE B L (tkE B L p))) = .inl (m', q) := e
            rw [if_pos ht] at e'
            cases e'
          · have e' : (if (mV m).testBit v.toNatClampNeg = true then (.inr (3, tkS B L (tkE B L p)) : PR (Vc × Nat)) else .inl (mCov m v.toNatClampNeg, tkE B L (tkE B L p))) = .inl (m', q) := e
            rw [if_neg ht] at e'
            cases e'
            rcases idx_cases (n := gMany (m 0)) (by omega) v with ⟨k, k1, k2, _⟩ | ⟨_, k2⟩
            · subst k2
              rw [nI_n (by omega)]
              exact ⟨ok_cov ok (by omega), zr_vset hz (by decide), by omega, l1.2⟩
            · exact absurd (b1.symm.trans k2) (by decide)
        · rw [if_neg h8] at e; cases e
  · rw [if_neg hk] at e
    rcases @gKd_r B L p with h | h
    · exact absurd h hk
    · exact gCh_ok h ok hz hp e
theorem gSS_ok (hB : BY B L) (ok : OKm m) (hz : Zr m) (hp : p ≤ L) (e : gSS B L m p = .inl (m', q)) : OKm m' ∧ Zr m' ∧ p < q ∧ q ≤ L := by
  unfold gSS at e
  obtain ⟨⟨m1, q1⟩, e1, e⟩ := pb_inl e
  obtain ⟨q2, e2, e⟩ := pb_inl e
  cases e
  obtain ⟨a, b, c, d⟩ := gSt_ok ok hz hp e1
  obtain ⟨t4, c2⟩ := gTk_f e2
  have d' : q1 ≤ L := d
  have h1 := @tkE_le B L q1 d'
  have h2 := @tkS_le B L q1 d'
  have h3 : ¬ tkS B L q1 = L := fun x => absurd (t4.symm.trans ((tkT_0 d' hB).2 x)) (by decide)
  have c2' : q = tkE B L q1 := c2
  exact ⟨a, b, by omega, by omega⟩
end GF
