def Zr (m : Vc) : Prop := ∀ i, 220 ≤ i → m i = 0
def pv (σ : Sto) (j : Nat) : Vc := fun i => if i < 220 then σ 136 (220 * j + i) else 0
def sv (σ : Sto) (s : Nat) : Vc := fun i => if i < 220 then σ 137 (220 * s + i) else 0
def RN (σ : Sto) : Prop := OKm (σ 134) ∧ Zr (σ 134) ∧ BX σ 25 (σ 134) ∧ MK σ
def rng (u e j : Nat) : Nat := 43 + 9 * ((e + 8 - u + j) % 8)
def RUx (u e : Nat) (σ : Sto) : Prop := (u ≤ 8 ∧ e < 8) ∧ (σ 133 6 = nI u ∧ σ 0 4 = nI u ∧ σ 0 3 = nI e) ∧ ∀ j, j < u → OKm (pv σ j) ∧ BX σ (rng u e j) (pv σ j)
def RU (σ : Sto) : Prop := ∃ u e : Nat, RUx u e σ
def RS (σ : Sto) : Prop := ∀ s, s < 2 → (σ 3 s = 0 ∨ σ 3 s = 1) ∧ σ 139 s = σ 3 s ∧ (σ 3 s = 1 → OKm (sv σ s) ∧ BX σ (115 + 9 * s) (sv σ s))
def RA (σ : Sto) : Prop := ∀ i, i < 6 → σ 4 i = σ 138 i
def RT (σ : Sto) : Prop := ∃ L : Nat, L ≤ 600 ∧ σ 5 1 = nI L ∧ σ 133 21 = nI L ∧ (∀ i, i < L → σ 6 i = σ 149 i ∧ 0 ≤ σ 6 i ∧ σ 6 i ≤ 255) ∧ σ 5 2 = σ 133 28 ∧ σ 5 3 = σ 133 29
def RW (σ : Sto) : Prop := ∃ L : Nat, L ≤ 200 ∧ σ 23 1 = nI L ∧ σ 133 34 = nI L ∧ ∀ i, i < L → σ 24 i = σ 153 i
def REL (σ : Sto) : Prop := RN σ ∧ RU σ ∧ RS σ ∧ RA σ ∧ RT σ ∧ RW σ
def KeepR (p : Nat) : Prop := p = 0 ∨ (3 ≤ p ∧ p ≤ 6) ∨ (23 ≤ p ∧ p ≤ 33) ∨ (43 ≤ p ∧ p ≤ 132) ∨ p = 134 ∨ (136 ≤ p ∧ p ≤ 141) ∨ p = 149 ∨ p = 153 ∨ p = 154
def K33 (i : Nat) : Prop := i = 6 ∨ i = 21 ∨ i = 28 ∨ i = 29 ∨ i = 34
def FX (σ τ : Sto) : Prop := (∀ p, KeepR p → τ p = σ p) ∧ ∀ i, K33 i → τ 133 i = σ 133 i
theorem fx_refl {σ : Sto} : FX σ σ := ⟨fun _ _ => rfl, fun _ _ => rfl⟩
theorem fx_trans {σ τ ρ : Sto} (h : FX σ τ) (h' : FX τ ρ) : FX σ ρ := ⟨fun p hp => by rw [h'.1 p hp, h.1 p hp], fun i hi => by rw [h'.2 i hi, h.2 i hi]⟩
section REL1
variable {σ τ : Sto}
theorem mk_of (h : MK σ) (h0 : τ 140 = σ 140) (h1 : τ 141 = σ 141) : MK τ := by unfold MK; rw [h0, h1]; exact h
theorem pv_of (h : τ 136 = σ 136) (j : Nat) : pv τ j = pv σ j := by unfold pv; rw [h]
theorem sv_of (h : τ 137 = σ 137) (j : Nat) : sv τ j = sv σ j := by unfold sv; rw [h]
theorem rng_lt {u e j : Nat} : 43 ≤ rng u e j ∧ rng u e j ≤ 106 := by unfold rng; omega
/-- the relation looks at these places alone (the arrays written of text 24, 153 not among the first) -/
theorem rn_of (h : RN σ) (hp : ∀ p, (25 ≤ p ∧ p ≤ 33) ∨ p = 134 ∨ p = 140 ∨ p = 141 → τ p = σ p) : RN τ := by
  obtain ⟨a, b, c, d⟩ := h
  have e : τ 134 = σ 134 := hp 134 (by omega)
  refine ⟨by rw [e]; exact a, by rw [e]; exact b, by rw [e]; exact bx_frame c (fun p h1 h2 => hp p (by omega)), mk_of d (hp 140 (by omega)) (hp 141 (by omega))⟩
theorem ru_of {u e : Nat} (h : RUx u e σ) (hp : ∀ p, p = 0 ∨ (43 ≤ p ∧ p ≤ 114) ∨ p = 136 → τ p = σ p) (h6 : τ 133 6 = σ 133 6) : RUx u e τ := by
  obtain ⟨a, b, c⟩ := h
  refine ⟨a, by rw [h6, hp 0 (by omega)]; exact b, fun j hj => ?_⟩
  have hr := @rng_lt u e j
  rw [pv_of (hp 136 (by omega))]
  exact ⟨(c j hj).1, bx_frame (c j hj).2 (fun p h1 h2 => hp p (by omega))⟩
theorem rs_of (h : RS σ) (hp : ∀ p, p = 3 ∨ (115 ≤ p ∧ p ≤ 132) ∨ p = 137 ∨ p = 139 → τ p = σ p) : RS τ := by
  intro s hs
  have := h s hs
  rw [hp 3 (by omega), hp 139 (by omega), sv_of (hp 137 (by omega))]
  exact ⟨this.1, this.2.1, fun c => ⟨(this.2.2 c).1, bx_frame (this.2.2 c).2 (fun p h1 h2 => hp p (by omega))⟩⟩
theorem ra_of (h : RA σ) (h4 : τ 4 = σ 4) (h8 : τ 138 = σ 138) : RA τ := by unfold RA; rw [h4, h8]; exact h
theorem rt_of (h : RT σ) (h5 : τ 5 = σ 5) (h6 : τ 6 = σ 6) (h9 : τ 149 = σ 149) (h21 : τ 133 21 = σ 133 21) (h28 : τ 133 28 = σ 133 28) (h29 : τ 133 29 = σ 133 29) : RT τ := by
  unfold RT; rw [h5, h6, h9, h21, h28, h29]; exact h
theorem rw_of (h : RW σ) (h3 : τ 23 = σ 23) (h4 : τ 24 = σ 24) (h5 : τ 153 = σ 153) (h34 : τ 133 34 = σ 133 34) : RW τ := by
  unfold RW; rw [h3, h4, h5, h34]; exact h
theorem rel_fx (h : REL σ) (hf : ∀ p, KeepR p → p ≠ 154 → τ p = σ p) (h3 : ∀ i, K33 i → τ 133 i = σ 133 i) : REL τ := by
  obtain ⟨a, ⟨u, e, b⟩, c, d, f, g⟩ := h
  have K : ∀ p, KeepR p → p ≠ 154 → τ p = σ p := hf
  refine ⟨rn_of a (fun p hp => K p (by unfold KeepR; omega) (by omega)), ⟨u, e, ru_of b (fun p hp => K p (by unfold KeepR; omega) (by omega)) (h3 6 (by unfold K33; omega))⟩, rs_of c (fun p hp => K p (by unfold KeepR; omega) (by omega)), ra_of d (K 4 (by unfold KeepR; omega) (by omega)) (K 138 (by unfold KeepR; omega) (by omega)), rt_of f (K 5 (by unfold KeepR; omega) (by omega)) (K 6 (by unfold KeepR; omega) (by omega)) (K 149 (by unfold KeepR; omega) (by omega)) (h3 21 (by unfold K33; omega)) (h3 28 (by unfold K33; omega)) (h3 29 (by unfold K33; omega)), rw_of g (K 23 (by unfold KeepR; omega) (by omega)) (K 24 (by unfold KeepR; omega) (by omega)) (K 153 (by unfold KeepR; omega) (by omega)) (h3 34 (by unfold K33; omega))⟩
theorem rel_fx' (h : REL σ) (hf : FX σ τ) : REL τ := rel_fx h (fun p a _ => hf.1 p a) hf.2
end REL1
/-- but for the law's out -/
def E54 (σ τ : Sto) : Prop := ∀ p, p ≠ 154 → τ p = σ p
theorem rel_54 {σ τ : Sto} (h : REL σ) (he : E54 σ τ) : REL τ := rel_fx h (fun p _ hp => he p hp) (fun i _ => by rw [he 133 (by decide)])
theorem bx_54 {σ τ : Sto} {b : Nat} {m : Vc} (h : BX σ b m) (he : E54 σ τ) (hb : b + 8 < 154) : BX τ b m := bx_frame h (fun p h1 h2 => he p (by omega))
def THR (xs : List Nat) (tag : Nat) (t : Int32) : Prop := (tag = 0 ∧ t = 0) ∨ (tag ≠ 0 ∧ ∃ i, xs[i]? = some tag ∧ t = nI (i + 1))
def CALL (cl : Sto → Option KP) (md : Sto → Option (Int32 × Sto)) (xs : List Nat) : Prop :=
  ∀ σ, REL σ → ∃ tag v σ1, cl σ = some (tag, v, σ1) ∧ ∀ σ1', E54 σ1 σ1' → ∃ w σ2, md σ1' = some (w, σ2) ∧ THR xs tag (σ2 133 7) ∧ (tag = 0 → v = w) ∧ REL σ2 ∧ σ2 154 = σ1' 154
section GO
variable {σ : Sto}
theorem isIn_kb {a lo hi : Int32} : fX6_needRange a lo hi σ = some (if fX7_isIn a lo hi = true then 0 else 1) := by
  unfold fX6_needRange fX6_needRange_L10 fX7_isIn
  by_cases h1 : a < lo
  · rw [if_pos h1, if_pos h1, if_neg Bool.false_ne_true]
  · rw [if_neg h1, if_neg h1]
    by_cases h2 : a ≤ hi
    · rw [if_pos h2, if_neg (show ¬ hi < a by grind), if_pos rfl]
    · rw [if_neg h2, if_pos (show hi < a by grind), if_neg Bool.false_ne_true]
def th (σ : Sto) (v : Int32) : Sto := su σ 133 7 v
theorem th_7 {v : Int32} : th σ v 133 7 = v := su_eq
theorem th_p {v : Int32} {p : Nat} (h : p ≠ 133) : th σ v p = σ p := su_k h
theorem th_i {v : Int32} {i : Nat} (h : i ≠ 7) : th σ v 133 i = σ 133 i := su_i h
theorem fx_th {v : Int32} : FX σ (th σ v) := ⟨fun p hp => th_p (by unfold KeepR at hp; omega), fun i hi => th_i (by unfold K33 at hi; omega)⟩
theorem m_goes (b : Bool) : fX7_goes (kb b) σ = some (b, th σ (if b = true then 0 else 1)) := by
  cases b
  · unfold fX7_goes
    rw [if_pos (show kb false = 0 from rfl), klet_eq, if_pos (by decide)]
    rfl
  · unfold fX7_goes
    rw [if_neg (show ¬ kb true = 0 by decide), klet_eq, if_pos (by decide)]
    rfl
theorem m_goes1 : fX7_goes 1 σ = some (true, th σ 0) := m_goes true
theorem m_goes0 : fX7_goes 0 σ = some (false, th σ 1) := m_goes false
theorem m_both (a b : Bool) : fX7_goesBoth (kb a) (kb b) σ = (a && b, th σ (if a = true then (if b = true then 0 else 2) else 1)) := by
  cases a
  · unfold fX7_goesBoth
    rw [if_pos (show kb false = 0 from rfl), klet_eq, if_neg (show ¬ su σ 133 7 1 133 7 = 0 by rw [su_eq]; decide)]
    rfl
  · cases b
    · unfold fX7_goesBoth
      rw [if_neg (show ¬ kb true = 0 by decide), if_pos (show kb false = 0 from rfl), klet_eq, if_neg (show ¬ su σ 133 7 2 133 7 = 0 by rw [su_eq]; decide)]
      rfl
    · unfold fX7_goesBoth
      rw [if_neg (show ¬ kb true = 0 by decide), if_neg (show ¬ kb true = 0 by decide), klet_eq, if_pos (show su σ 133 7 0 133 7 = 0 from su_eq)]
      rfl
/-- frames of the pieces, as frames of the relation -/
theorem fx_c {τ : Sto} (h : ∀ p, KeepR p ∨ p = 133 → τ p = σ p) : FX σ τ := ⟨fun p hp => h p (.inl hp), fun i _ => by rw [h 133 (.inr rfl)]⟩
theorem fx_fr3 {τ : Sto} (h : FR P3 σ τ) : FX σ τ := ⟨fun p hp => h.1 p (by unfold P3; unfold KeepR at hp; omega), fun i hi => h.2 i (by unfold K33 at hi; omega) (by unfold K33 at hi; omega)⟩
theorem fx_fr5 {τ : Sto} (h : FR P5 σ τ) : FX σ τ := ⟨fun p hp => h.1 p (by unfold P5; unfold KeepR at hp; omega), fun i hi => h.2 i (by unfold K33 at hi; omega) (by unfold K33 at hi; omega)⟩
theorem fx_ms {τ : Sto} (h : MS σ τ) : FX σ τ := ⟨fun p hp => h.1 p (by unfold KeepR at hp; omega), fun i hi => h.2 i (by unfold K33 at hi; omega) (by unfold K33 at hi; omega)⟩
theorem fx_51 {τ : Sto} (h : ∀ p, F51 p → τ p = σ p) : FX σ τ := fx_c (fun p hp => h p (by unfold F51; unfold KeepR at hp; omega))
theorem fx_14 {τ : Sto} {q : Nat} (hq : q = 7 ∨ q = 14) (h : ∀ p, F14 q p → τ p = σ p) : FX σ τ := fx_c (fun p hp => h p (by unfold F14; unfold KeepR at hp; omega))
theorem fx_56 {τ : Sto} (h : ∀ p, F56 7 p → τ p = σ p) : FX σ τ := fx_c (fun p hp => h p (by unfold F56; unfold KeepR at hp; omega))
theorem fx_fq {τ : Sto} (h : FQ 34 21 σ τ) : FX σ τ := fx_c (fun p hp => h p (by unfold KeepR at hp; omega) (by unfold KeepR at hp; omega) (by unfold KeepR at hp; omega))
theorem fx_34 {τ : Sto} (h : ∀ p, (p < 34 ∨ 34 + 8 < p) → τ p = σ p) : FX σ τ := fx_c (fun p hp => h p (by unfold KeepR at hp; omega))
end GO
section ACT
variable {σ : Sto}
def mn8 (u : Nat) : Nat := if u = 8 then 8 else u + 1
/-- what the class's act leaves: now is m', the old one is in the ring -/
def CA (u e : Nat) (σ τ : Sto) (m' : Vc) : Prop :=
  BX τ 25 m' ∧ BX τ (43 + 9 * e) (σ 134) ∧ (τ 0 3 = nI ((e + 1) % 8) ∧ τ 0 4 = nI (mn8 u)) ∧ (τ 4 0 = σ 4 0 + 1 ∧ ∀ i, i ≠ 0 → τ 4 i = σ 4 i) ∧
  ∀ p, p ≠ 0 → p ≠ 4 → KeepR p ∨ p = 133 → (p < 25 ∨ 33 < p) → (p < 43 + 9 * e ∨ 43 + 9 * e + 8 < p) → τ p = σ p
def MA (u : Nat) (σ τ : Sto) (m' : Vc) : Prop :=
  τ 134 = m' ∧ τ 133 6 = nI (mn8 u) ∧ (τ 138 0 = σ 138 0 + 1 ∧ ∀ i, i ≠ 0 → τ 138 i = σ 138 i) ∧
  (∀ j, j < mn8 u → pv τ j = if j + 1 = mn8 u then σ 134 else if u = 8 then pv σ (j + 1) else pv σ j) ∧
  (∀ p, KeepR p → p ≠ 134 → p ≠ 136 → p ≠ 138 → τ p = σ p) ∧ ∀ i, K33 i → i ≠ 6 → τ 133 i = σ 133 i
theorem act_rel {u e : Nat} {σ1 σ1' σ2 : Sto} {m' : Vc} (h : REL σ) (hu : RUx u e σ) (hC : CA u e σ σ1 m') (he : E54 σ1 σ1') (hM : MA u σ1' σ2 m') (ok : OKm m') (hz : Zr m') : REL σ2 := by
  obtain ⟨⟨a1, a2, a3, a4⟩, _, c, d, f, g⟩ := h
  obtain ⟨⟨u8, e8⟩, ⟨b6, b4, b3⟩, bj⟩ := hu
  obtain ⟨C1, C2, ⟨C3, C4⟩, ⟨C5, C6⟩, C7⟩ := hC
  obtain ⟨M1, M2, ⟨M3, M4⟩, M5, M6, M7⟩ := hM
  -- places that neither act touches
  have hK : ∀ p, KeepR p → p ≠ 0 → p ≠ 4 → p ≠ 134 → p ≠ 136 → p ≠ 138 → p ≠ 154 → (p < 25 ∨ 33 < p) → (p < 43 + 9 * e ∨ 43 + 9 * e + 8 < p) → σ2 p = σ p := fun p k1 k2 k3 k4 k5 k6 k7 k8 k9 => by
    rw [M6 p k1 k4 k5 k6, he p k7, C7 p k2 k3 (.inl k1) k8 k9]
  have hKc : ∀ p, KeepR p → p ≠ 134 → p ≠ 136 → p ≠ 138 → p ≠ 154 → σ2 p = σ1 p := fun p k1 k4 k5 k6 k7 => by rw [M6 p k1 k4 k5 k6, he p k7]
  have h33 : ∀ i, K33 i → i ≠ 6 → σ2 133 i = σ 133 i := fun i k1 k2 => by
    rw [M7 i k1 k2, he 133 (by decide), C7 133 (by decide) (by decide) (.inr rfl) (by omega) (by omega)]
  have e134 : σ1' 134 = σ 134 := by rw [he 134 (by decide), C7 134 (by decide) (by decide) (.inl (by unfold KeepR; omega)) (by omega) (by omega)]
  have e136 : σ1' 136 = σ 136 := by rw [he 136 (by decide), C7 136 (by decide) (by decide) (.inl (by unfold KeepR; omega)) (by omega) (by omega)]
  have e138 : σ1' 138 = σ 138 := by rw [he 138 (by decide), C7 138 (by decide) (by decide) (.inl (by unfold KeepR; omega)) (by omega) (by omega)]
  have hmn : mn8 u ≤ 8 := by unfold mn8; split <;> omega
  refine ⟨⟨by rw [M1]; exact ok, by rw [M1]; exact hz, ?_, ?_⟩, ⟨mn8 u, (e + 1) % 8, ⟨hmn, Nat.mod_lt _ (by decide)⟩, ⟨M2, ?_, ?_⟩, fun j hj => ?_⟩, ?_, ?_, ?_, ?_⟩
  · rw [M1]
    exact bx_frame C1 (fun p h1 h2 => hKc p (by unfold KeepR; omega) (by omega) (by omega) (by omega) (by omega))
  · exact mk_of a4 (hK 140 (by unfold KeepR; omega) (by omega) (by omega) (by omega) (by omega) (by omega) (by omega) (by omega) (by omega)) (hK 141 (by unfold KeepR; omega) (by omega) (by omega) (by omega) (by omega) (by omega) (by omega) (by omega) (by omega))
  · rw [hKc 0 (by unfold KeepR; omega) (by omega) (by omega) (by omega) (by omega), C4]
  · rw [hKc 0 (by unfold KeepR; omega) (by omega) (by omega) (by omega) (by omega), C3]
  · rw [M5 j hj]
    by_cases hl : j + 1 = mn8 u
    · rw [if_pos hl, e134]
      have : rng (mn8 u) ((e + 1) % 8) j = 43 + 9 * e := by
        unfold rng mn8 at *
        split at hl <;> split <;> omega
      rw [this]
      exact ⟨a1, bx_frame C2 (fun p h1 h2 => hKc p (by unfold KeepR; omega) (by omega) (by omega) (by omega) (by omega))⟩
    · rw [if_neg hl]
      have hfr : ∀ b, 43 ≤ b → b ≤ 106 → (b + 8 < 43 + 9 * e ∨ 43 + 9 * e + 8 < b) → ∀ p, b ≤ p → p ≤ b + 8 → σ2 p = σ p := fun b b1 b2 b3 p h1 h2 => hK p (by unfold KeepR; omega) (by omega) (by omega) (by omega) (by omega) (by omega) (by omega) (by omega) (by omega)
      by_cases h8 : u = 8
      · rw [if_pos h8, pv_of e136]
        have hj7 : j < 7 := by unfold mn8 at hl hj; rw [if_pos h8] at hl hj; omega
        have e1 : rng (mn8 u) ((e + 1) % 8) j = rng u e (j + 1) := by
          unfold rng mn8
          rw [if_pos h8]
          omega
        have hne : rng u e (j + 1) + 8 < 43 + 9 * e ∨ 43 + 9 * e + 8 < rng u e (j + 1) := by
          unfold rng
          omega
        have hr := @rng_lt u e (j + 1)
        rw [e1]
        exact ⟨(bj (j + 1) (by omega)).1, bx_frame (bj (j + 1) (by omega)).2 (hfr _ hr.1 hr.2 hne)⟩
      · rw [if_neg h8, pv_of e136]
        have hju : j < u := by unfold mn8 at hl hj; rw [if_neg h8] at hl hj; omega
        have e1 : rng (mn8 u) ((e + 1) % 8) j = rng u e j := by
          unfold rng mn8
          rw [if_neg h8]
          omega
        have hne : rng u e j + 8 < 43 + 9 * e ∨ 43 + 9 * e + 8 < rng u e j := by
          unfold rng
          omega
        have hr := @rng_lt u e j
        rw [e1]
        exact ⟨(bj j hju).1, bx_frame (bj j hju).2 (hfr _ hr.1 hr.2 hne)⟩
  · exact rs_of c (fun p hp => hK p (by unfold KeepR; omega) (by omega) (by omega) (by omega) (by omega) (by omega) (by omega) (by omega) (by omega))
  · intro i hi
    rw [hKc 4 (by unfold KeepR; omega) (by omega) (by omega) (by omega) (by omega)]
    by_cases h0 : i = 0
    · subst h0
      rw [C5, M3, e138, d 0 hi]
    · rw [C6 i h0, M4 i h0, e138, d i hi]
  · exact rt_of f (hK 5 (by unfold KeepR; omega) (by omega) (by omega) (by omega) (by omega) (by omega) (by omega) (by omega) (by omega)) (hK 6 (by unfold KeepR; omega) (by omega) (by omega) (by omega) (by omega) (by omega) (by omega) (by omega) (by omega)) (hK 149 (by unfold KeepR; omega) (by omega) (by omega) (by omega) (by omega) (by omega) (by omega) (by omega) (by omega)) (h33 21 (by unfold K33; omega) (by omega)) (h33 28 (by unfold K33; omega) (by omega)) (h33 29 (by unfold K33; omega) (by omega))
  · exact rw_of g (hK 23 (by unfold KeepR; omega) (by omega) (by omega) (by omega) (by omega) (by omega) (by omega) (by omega) (by omega)) (hK 24 (by unfold KeepR; omega) (by omega) (by omega) (by omega) (by omega) (by omega) (by omega) (by omega) (by omega)) (hK 153 (by unfold KeepR; omega) (by omega) (by omega) (by omega) (by omega) (by omega) (by omega) (by omega) (by omega)) (h33 34 (by unfold K33; omega) (by omega))
theorem and7 : ∀ n, n < 16 → nI n &&& 7 = nI (n % 8) := by decide
theorem c_keep {u e : Nat} (hN : RN σ) (hu : RUx u e σ) : ∃ τ, fX6_keepForUndo σ = some τ ∧ CA u e σ τ (σ 134) ∧ (∀ p, p ≠ 0 → p ≠ 4 → (p < 43 + 9 * e ∨ 43 + 9 * e + 8 < p) → τ p = σ p) := by
  obtain ⟨⟨u8, e8⟩, ⟨b6, b4, b3⟩, bj⟩ := hu
  unfold fX6_keepForUndo
  rw [if_pos (by decide), if_pos (by decide), klet_eq]
  have z : Int32.toNatClampNeg 0 = 0 := z0
  rw [z]
  have e03 : su σ 4 0 (σ 4 0 + 1) 0 3 = nI e := by rw [su_k (by decide), b3]
  rw [e03, and7 e (by omega), Nat.mod_eq_of_lt e8, if_pos (kin_nI e8 (by decide)), nI_n (by omega)]
  have hb25 : BX (su σ 4 0 (σ 4 0 + 1)) 25 (σ 134) := bx_frame hN.2.2.1 (fun p h1 h2 => su_k (by omega))
  obtain ⟨τ, e1, g1, g2⟩ := c_copy (b0 := 43 + 9 * e) (b1 := 25) (by omega) hN.1 hb25
  rw [e1, Option.bind_some, klet_eq, klet_eq]
  have f03 : τ 0 3 = nI e := by rw [g2 0 (by omega), e03]
  have f04 : τ 0 4 = nI u := by rw [g2 0 (by omega), su_k (by decide), b4]
  rw [f03, nI_add1, and7 (e + 1) (by omega), su_i (show 4 ≠ 3 by decide), f04, nI_add1]
  have e8' : (if (8 : Int32) < nI (u + 1) then (8 : Int32) else nI (u + 1)) = nI (mn8 u) := by
    unfold mn8
    by_cases h : u = 8
    · subst h; decide
    · rw [if_neg h, if_neg (fun c => by have := (dI_lt (a := 8) (by omega) (by omega)).1 c; omega)]
  rw [e8']
  have fr : ∀ p, p ≠ 0 → p ≠ 4 → (p < 43 + 9 * e ∨ 43 + 9 * e + 8 < p) → su (su τ 0 3 (nI ((e + 1) % 8))) 0 4 (nI (mn8 u)) p = σ p := fun p p0 p4 pr => by
    rw [su_k p0, su_k p0, g2 p pr, su_k p4]
  refine ⟨_, rfl, ⟨bx_frame hN.2.2.1 (fun p h1 h2 => fr p (by omega) (by omega) (by omega)), bx_frame g1 (fun p h1 h2 => by rw [su_k (by omega), su_k (by omega)]), ⟨?_, su_eq⟩, ⟨?_, fun i hi => ?_⟩, fun p p0 p4 _ _ pr => fr p p0 p4 pr⟩, fr⟩
  · rw [su_i (by decide), su_eq]
  · rw [su_k (by decide), su_k (by decide), g2 4 (by omega), su_eq]
  · rw [su_k (by decide), su_k (by decide), g2 4 (by omega), su_i hi]
theorem m220 (u : Nat) : 220 * nI u = nI (220 * u) := by unfold nI; rw [Int32.ofNat_mul]; rfl
theorem m_begins_55 {u : Nat} (hu : u < 8) (h6 : σ 133 6 = nI u) (hz : Zr (σ 134)) : ∃ τ, fX7_begins_L55 σ = some τ ∧ τ 133 6 = nI (u + 1) ∧ pv τ u = σ 134 ∧ (∀ j, j < u → pv τ j = pv σ j) ∧ (τ 138 0 = σ 138 0 + 1 ∧ ∀ i, i ≠ 0 → τ 138 i = σ 138 i) ∧ (∀ p, p ≠ 133 → p ≠ 136 → p ≠ 138 → τ p = σ p) ∧ ∀ i, i ≠ 6 → τ 133 i = σ 133 i := by
  unfold fX7_begins_L55
  rw [h6, m220]
  obtain ⟨τ, e, g1, g2, g3⟩ := @m_copies σ 134 220 0 136 1760 (220 * u) 0 (nI (220 * u)) rfl rfl (by decide) (by omega) (by decide) (by decide) (by decide)
  rw [e, Option.bind_some, klet_eq, if_pos (by decide), if_pos (by decide), klet_eq, show Int32.toNatClampNeg 0 = 0 from z0]
  refine ⟨_, rfl, ?_, ?_, fun j hj => ?_, ⟨?_, fun i hi => ?_⟩, fun p p1 p2 p3 => ?_, fun i hi => ?_⟩
  · rw [su_k (by decide), su_eq, g3 133 (by decide), h6, nI_add1]
  · funext i
    unfold pv
    rw [su_k (by decide), su_k (by decide)]
    by_cases hi : i < 220
    · rw [if_pos hi, g1 i hi, Nat.zero_add]
    · rw [if_neg hi, hz i (by omega)]
  · funext i
    unfold pv
    rw [su_k (by decide), su_k (by decide)]
    by_cases hi : i < 220
    · rw [if_pos hi, if_pos hi, g2 _ (by omega)]
    · rw [if_neg hi, if_neg hi]
  · rw [su_eq, su_k (by decide), g3 138 (by decide)]
  · rw [su_i hi, su_k (by decide), g3 138 (by decide)]
  · rw [su_k p3, su_k p1, g3 p p2]
  · rw [su_k (by decide), su_i hi, g3 133 (by decide)]
theorem m_shift_L (h6 : σ 133 6 = nI 7) (n : Nat) : ∀ (i fu : Nat) (τ : Sto), i + n = 1540 → n < fu → τ 133 = σ 133 → (∀ j, j < i → τ 136 j = σ 136 (j + 220)) → (∀ j, i ≤ j → τ 136 j = σ 136 j) → (∀ p, p ≠ 136 → τ p = σ p) →
    ∃ ρ, fX7_begins_L21 fu (nI i) τ = fX7_begins_L55 ρ ∧ (∀ j, j < 1540 → ρ 136 j = σ 136 (j + 220)) ∧ ∀ p, p ≠ 136 → ρ p = σ p := by
  induction n with
  | zero =>
    intro i fu τ hi hf h3 h1 h2 hp
    match fu, hf with
    | fu + 1, _ =>
      have : i = 1540 := by omega
      subst this
      rw [fX7_begins_L21.eq_2, h3, h6, m220, if_pos (by decide)]
      exact ⟨τ, rfl, h1, hp⟩
  | succ n ih =>
    intro i fu τ hi hf h3 h1 h2 hp
    match fu, hf with
    | fu + 1, hf =>
      rw [fX7_begins_L21.eq_2, h3, h6, m220, if_neg (show ¬ nI (220 * 7) ≤ nI i by rw [dI_le (by omega) (by omega)]; omega), show nI i + 220 = nI (i + 220) from nI_addn i 220, if_pos (kin_nI (by omega) (by decide)), if_pos (kin_nI (by omega) (by decide)), klet_eq, nI_n (by omega), nI_n (by omega), nI_add1]
      refine ih (i + 1) fu _ (by omega) (by omega) (by rw [su_k (by decide)]; exact h3) (fun j hj => ?_) (fun j hj => ?_) (fun p hp' => by rw [su_k hp']; exact hp p hp')
      · by_cases hji : j = i
        · subst hji
          rw [su_eq, h2 (j + 220) (by omega)]
        · rw [su_i hji]; exact h1 j (by omega)
      · rw [su_i (by omega)]; exact h2 j (by omega)
theorem m_begins {u : Nat} (hu : u ≤ 8) (h6 : σ 133 6 = nI u) (hz : Zr (σ 134)) : ∃ τ, fX7_begins σ = some τ ∧ MA u σ τ (σ 134) ∧ (∀ p, p ≠ 133 → p ≠ 136 → p ≠ 138 → τ p = σ p) ∧ ∀ i, i ≠ 6 → τ 133 i = σ 133 i := by
  unfold fX7_begins
  by_cases h8 : u = 8
  · subst h8
    have e7 : nI 8 - 1 = nI 7 := by decide
    rw [h6, if_pos (by decide), klet_eq, e7]
    obtain ⟨ρ, e, g1, g2⟩ := m_shift_L (σ := su σ 133 6 (nI 7)) su_eq 1540 0 kFU _ (by omega) (by unfold kFU; omega) rfl (fun j hj => absurd hj (by omega)) (fun _ _ => rfl) (fun _ _ => rfl)
    have e' : fX7_begins_L21 kFU 0 (su σ 133 6 (nI 7)) = fX7_begins_L55 ρ := e
    rw [e']
    have hz' : Zr (ρ 134) := by rw [g2 134 (by decide), su_k (by decide)]; exact hz
    obtain ⟨τ, f1, f2, f3, f4, f5, f6, f7⟩ := m_begins_55 (σ := ρ) (u := 7) (by omega) (by rw [g2 133 (by decide), su_eq]) hz'
    have fr : ∀ p, p ≠ 133 → p ≠ 136 → p ≠ 138 → τ p = σ p := fun p p1 p2 p3 => by rw [f6 p p1 p2 p3, g2 p p2, su_k p1]
    have fi : ∀ i, i ≠ 6 → τ 133 i = σ 133 i := fun i hi => by rw [f7 i hi, g2 133 (by decide), su_i hi]
    refine ⟨τ, f1, ⟨fr 134 (by decide) (by decide) (by decide), f2, ⟨by rw [f5.1, g2 138 (by decide), su_k (by decide)], fun i hi => by rw [f5.2 i hi, g2 138 (by decide), su_k (by decide)]⟩, fun j hj => ?_, fun p k1 k2 k3 k4 => fr p (by unfold KeepR at k1; omega) k3 k4, fun i _ hi => fi i hi⟩, fr, fi⟩
    have hj8 : j < 8 := hj
    by_cases hl : j + 1 = mn8 8
    · have : j = 7 := by unfold mn8 at hl; rw [if_pos rfl] at hl; omega
      subst this
      rw [if_pos hl, f3, g2 134 (by decide), su_k (by decide)]
    · have hj7 : j < 7 := by unfold mn8 at hl; rw [if_pos rfl] at hl; omega
      rw [if_neg hl, if_pos rfl, f4 j hj7]
      funext i
      unfold pv
      by_cases hi : i < 220
      · rw [if_pos hi, if_pos hi, g1 _ (by omega), su_k (by decide)]
        rw [show 220 * j + i + 220 = 220 * (j + 1) + i by omega]
      · rw [if_neg hi, if_neg hi]
  · rw [h6, if_neg (show ¬ nI u = (8 : Int32) from fun c => h8 ((nI_inj (b := 8) (by omega) (by omega)).1 c))]
    obtain ⟨τ, f1, f2, f3, f4, f5, f6, f7⟩ := m_begins_55 (u := u) (by omega) h6 hz
    have hm : mn8 u = u + 1 := by unfold mn8; rw [if_neg h8]
    refine ⟨τ, f1, ⟨f6 134 (by decide) (by decide) (by decide), by rw [hm]; exact f2, f5, fun j hj => ?_, fun p k1 k2 k3 k4 => f6 p (by unfold KeepR at k1; omega) k3 k4, fun i _ hi => f7 i hi⟩, f6, f7⟩
    rw [hm] at hj ⊢
    by_cases hl : j + 1 = u + 1
    · have : j = u := by omega
      subst this
      rw [if_pos rfl, f3]
    · rw [if_neg hl, if_neg h8, f4 j (by omega)]
theorem c_refused {r : Nat} (h1 : 1 ≤ r) (h5 : r ≤ 5) : fX6_refused (nI r) σ = some (-(nI r), su σ 4 r (σ 4 r + 1)) := by
  unfold fX6_refused
  rw [if_neg (show ¬ nI r < 1 from fun c => by have := (dI_lt (b := 1) (by omega) (by omega)).1 c; omega), if_neg (show ¬ (5 : Int32) < nI r from fun c => by have := (dI_lt (a := 5) (by omega) (by omega)).1 c; omega), if_pos (kin_nI (by omega) (by decide)), if_pos (kin_nI (by omega) (by decide)), klet_eq, nI_n (by omega)]
theorem m_refuses {r : Nat} (h5 : r ≤ 5) : fX7_refuses (nI r) σ = some (-(nI r), su σ 138 r (σ 138 r + 1)) := by
  unfold fX7_refuses
  rw [if_pos (kin_nI (by omega) (by decide)), if_pos (kin_nI (by omega) (by decide)), klet_eq, nI_n (by omega)]
/-- a refused act on both sides -/
theorem ref_rel {r : Nat} {σ1 σ1' σ2 σ3 : Sto} (h : REL σ) (h1 : FX σ σ1) (he : E54 (su σ1 4 r (σ1 4 r + 1)) σ1') (h2 : FX σ1' σ2) (h3 : σ3 = su σ2 138 r (σ2 138 r + 1)) : REL σ3 ∧ σ3 154 = σ1' 154 := by
  subst h3
  have hr := rel_fx' h h1
  have h4 : σ1 4 = σ 4 := h1.1 4 (by unfold KeepR; omega)
  have e138 : σ1' 138 = σ 138 := by rw [he 138 (by decide), su_k (by decide), h1.1 138 (by unfold KeepR; omega)]
  have h138 : σ2 138 = σ 138 := by rw [h2.1 138 (by unfold KeepR; omega), e138]
  have hK : ∀ p, KeepR p → p ≠ 4 → p ≠ 138 → p ≠ 154 → su σ2 138 r (σ2 138 r + 1) p = σ p := fun p k k4 k8 k54 => by
    rw [su_k k8, h2.1 p k, he p k54, su_k k4, h1.1 p k]
  have h33 : ∀ i, K33 i → su σ2 138 r (σ2 138 r + 1) 133 i = σ 133 i := fun i hi => by
    rw [su_k (by decide), h2.2 i hi, he 133 (by decide), su_k (by decide), h1.2 i hi]
  have g4 : su σ2 138 r (σ2 138 r + 1) 4 = su σ1 4 r (σ1 4 r + 1) 4 := by rw [su_k (by decide), h2.1 4 (by unfold KeepR; omega), he 4 (by decide)]
  obtain ⟨a, ⟨u, e, b⟩, c, d, f, g⟩ := h
  refine ⟨⟨rn_of a (fun p hp => hK p (by unfold KeepR; omega) (by omega) (by omega) (by omega)), ⟨u, e, ru_of b (fun p hp => hK p (by unfold KeepR; omega) (by omega) (by omega) (by omega)) (h33 6 (by unfold K33; omega))⟩, rs_of c (fun p hp => hK p (by unfold KeepR; omega) (by omega) (by omega) (by omega)), fun i hi => ?_, rt_of f (hK 5 (by unfold KeepR; omega) (by omega) (by omega) (by omega)) (hK 6 (by unfold KeepR; omega) (by omega) (by omega) (by omega)) (hK 149 (by unfold KeepR; omega) (by omega) (by omega) (by omega)) (h33 21 (by unfold K33; omega)) (h33 28 (by unfold K33; omega)) (h33 29 (by unfold K33; omega)), rw_of g (hK 23 (by unfold KeepR; omega) (by omega) (by omega) (by omega)) (hK 24 (by unfold KeepR; omega) (by omega) (by omega) (by omega)) (hK 153 (by unfold KeepR; omega) (by omega) (by omega) (by omega)) (h33 34 (by unfold K33; omega))⟩, ?_⟩
  · rw [g4, su_at, su_at, h4, h138]
    by_cases hir : i = r
    · subst hir; rw [if_pos rfl, if_pos rfl, d i hi]
    · rw [if_neg hir, if_neg hir, d i hi]
  · rw [su_k (by decide), h2.1 154 (by unfold KeepR; omega)]
end ACT
