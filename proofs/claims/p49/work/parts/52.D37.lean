/-! the class's parser -/
section CPA
variable {σ τ ρ : Sto} {B : Nat → Int32} {L p q : Nat} {m m' : Vc} {v lo hi c : Int32}
def CP (B : Nat → Int32) (L p : Nat) (σ : Sto) : Prop := TC B L σ ∧ σ 5 6 = nI p ∧ p ≤ L ∧ σ 5 2 = 0 ∧ σ 5 3 = -1
def CS (B : Nat → Int32) (L p : Nat) (τ : Sto) : Prop := TC B L τ ∧ TKC B L p τ ∧ p ≤ L ∧ τ 5 2 = 0 ∧ τ 5 3 = -1
def Fc (σ τ : Sto) : Prop := ∀ q, q ≠ 5 → τ q = σ q
def CE (c : Int32) (q : Nat) (τ : Sto) : Prop := τ 5 2 = c ∧ τ 5 3 = nI q
theorem fc_trans (h : Fc σ τ) (h' : Fc τ ρ) : Fc σ ρ := fun q hq => by rw [h' q hq, h q hq]
theorem fc_refl : Fc σ σ := fun _ _ => rfl
theorem bx_fc (h : BX σ 34 m) (hf : Fc σ τ) : BX τ 34 m := bx_frame h (fun p h1 h2 => hf p (by omega))
theorem cs_next (h : CP B L p σ) : ∃ τ, fX4_nextToken 5 σ = some τ ∧ CS B L p τ ∧ Fc σ τ := by
  obtain ⟨hT, h6, hp, h2, h3⟩ := h
  obtain ⟨τ, e, a, b⟩ := c_next hT h6 hp
  exact ⟨τ, e, ⟨tc_5 hT b, a, hp, by rw [b.2 2 (by decide)]; exact h2, by rw [b.2 3 (by decide)]; exact h3⟩, b.1⟩
theorem cp_of (h : CS B L p τ) : CP B L (tkE B L p) τ := ⟨h.1, h.2.1.2.2.1, (tkE_p h.2.2.1).2, h.2.2.2⟩
theorem cp_7 (h : CP B L p σ) : CP B L p (su σ 5 7 v) := ⟨tc_5 h.1 (f5_su (by decide)), by rw [su_i (by decide)]; exact h.2.1, h.2.2.1, by rw [su_i (by decide)]; exact h.2.2.2.1, by rw [su_i (by decide)]; exact h.2.2.2.2⟩
theorem c_wrong {s : Nat} (h5 : σ 5 5 = nI s) : ∃ τ, fX4_isWrong 5 c σ = (false, τ) ∧ CE c s τ ∧ Fc σ τ := by
  unfold fX4_isWrong
  rw [klet_eq, klet_eq, su_i (show 5 ≠ 2 by decide), h5]
  exact ⟨_, rfl, ⟨by rw [su_i (by decide), su_eq], su_eq⟩, fun q hq => by rw [su_k hq, su_k hq]⟩
theorem c_wd_t {t : Nat} (h : CP B L p σ) (e : gWd B L t p = .inl q) : ∃ τ, fX4_needWord 5 t σ = some (true, τ) ∧ CP B L q τ ∧ Fc σ τ := by
  obtain ⟨τ, e1, a, b⟩ := cs_next h
  obtain ⟨w, eq⟩ := gWd_f e
  subst eq
  refine ⟨τ, ?_, cp_of a, b⟩
  unfold fX4_needWord
  rw [e1, Option.bind_some, c_isWord a.1 a.2.2.1 a.2.1, Option.bind_some, dB_t w, if_pos rfl]
theorem c_wd_f {t : Nat} (h : CP B L p σ) (e : gWd B L t p = .inr (c, q)) : ∃ τ, fX4_needWord 5 t σ = some (false, τ) ∧ CE c q τ ∧ Fc σ τ := by
  obtain ⟨τ, e1, a, b⟩ := cs_next h
  unfold gWd at e
  by_cases w : WDt B L t p
  · rw [dB_t w, if_pos rfl] at e; cases e
  · rw [dB_f w, if_neg Bool.false_ne_true] at e
    cases e
    obtain ⟨ρ, e2, k1, k2⟩ := c_wrong (c := 1) a.2.1.2.1
    refine ⟨ρ, ?_, k1, fc_trans b k2⟩
    unfold fX4_needWord
    rw [e1, Option.bind_some, c_isWord a.1 a.2.2.1 a.2.1, Option.bind_some, dB_f w, if_neg Bool.false_ne_true, e2, Option.bind_some, if_neg Bool.false_ne_true]
theorem c_tk_t {t : Int32} (h : CP B L p σ) (e : gTk B L t p = .inl q) : ∃ τ, fX4_needToken 5 t σ = some (true, τ) ∧ CP B L q τ ∧ Fc σ τ ∧ (t = 2 → τ 5 7 = tkV B L p) ∧ CS B L p τ := by
  obtain ⟨τ, e1, a, b⟩ := cs_next h
  obtain ⟨w, eq⟩ := gTk_f e
  subst eq
  refine ⟨τ, ?_, cp_of a, b, fun ht => a.2.1.2.2.2 (w.trans ht), a⟩
  unfold fX4_needToken
  rw [e1, Option.bind_some, a.2.1.1, if_pos w]
theorem c_tk_f {t : Int32} (h : CP B L p σ) (e : gTk B L t p = .inr (c, q)) : ∃ τ, fX4_needToken 5 t σ = some (false, τ) ∧ CE c q τ ∧ Fc σ τ := by
  obtain ⟨τ, e1, a, b⟩ := cs_next h
  unfold gTk at e
  by_cases w : tkT B L p = t
  · rw [if_pos w] at e; cases e
  · rw [if_neg w] at e
    cases e
    obtain ⟨ρ, e2, k1, k2⟩ := c_wrong (c := 1) a.2.1.2.1
    refine ⟨ρ, ?_, k1, fc_trans b k2⟩
    unfold fX4_needToken
    rw [e1, Option.bind_some, a.2.1.1, if_neg w, e2, Option.bind_some, if_neg Bool.false_ne_true]
theorem c_nu_t (h : CP B L p σ) (e : gNu B L lo hi p = .inl (v, q)) : ∃ τ, fX4_needNumber 5 lo hi σ = some (true, τ) ∧ CP B L q τ ∧ τ 5 7 = v ∧ Fc σ τ := by
  obtain ⟨τ, e1, a, b⟩ := cs_next h
  obtain ⟨w, hi', ev, eq⟩ := gNu_f e
  have h7 := a.2.1.2.2.2 w
  have hr := isIn_iff.1 hi'
  subst eq
  refine ⟨τ, ?_, cp_of a, by rw [h7, ev], b⟩
  unfold fX4_needNumber
  rw [e1, Option.bind_some, a.2.1.1, if_pos w, h7, ← ev, if_neg (by have := hr.1; grind), if_pos hr.2]
theorem c_nu_f (h : CP B L p σ) (e : gNu B L lo hi p = .inr (c, q)) : ∃ τ, fX4_needNumber 5 lo hi σ = some (false, τ) ∧ CE c q τ ∧ Fc σ τ := by
  obtain ⟨τ, e1, a, b⟩ := cs_next h
  unfold gNu at e
  by_cases w : tkT B L p = 2
  · rw [if_pos w] at e
    have h7 := a.2.1.2.2.2 w
    by_cases r : fX7_isIn (tkV B L p) lo hi = true
    · rw [if_pos r] at e; cases e
    · rw [if_neg r] at e
      cases e
      obtain ⟨ρ, e2, k1, k2⟩ := c_wrong (c := 2) a.2.1.2.1
      refine ⟨ρ, ?_, k1, fc_trans b k2⟩
      have hL : fX4_needNumber_L34 5 lo hi τ = some (false, ρ) := by
        unfold fX4_needNumber_L34
        rw [e2, Option.bind_some, if_neg Bool.false_ne_true]
      unfold fX4_needNumber
      rw [e1, Option.bind_some, a.2.1.1, if_pos w, h7]
      by_cases c1 : tkV B L p < lo
      · rw [if_pos c1, hL]
      · rw [if_neg c1, if_neg (fun c2 => r (isIn_iff.2 ⟨by grind, c2⟩)), hL]
  · rw [if_neg w] at e
    cases e
    obtain ⟨ρ, e2, k1, k2⟩ := c_wrong (c := 1) a.2.1.2.1
    refine ⟨ρ, ?_, k1, fc_trans b k2⟩
    unfold fX4_needNumber
    rw [e1, Option.bind_some, a.2.1.1, if_neg w, e2, Option.bind_some]
theorem c_pl_26t (a : CS B L p τ) {s : Int32} (w : tkT B L p = 2) (r : tkV B L p ≤ 6) : ∃ ρ, fX4_needPlace_L26 5 s τ = some (true, ρ) ∧ CP B L (tkE B L p) ρ ∧ ρ 5 7 = (if s = 0 then tkV B L p else -(tkV B L p)) ∧ Fc τ ρ := by
  have h7 := a.2.1.2.2.2 w
  unfold fX4_needPlace_L26
  rw [a.2.1.1, if_pos w, h7, if_pos r]
  by_cases hs : s = 0
  · rw [if_pos hs, klet_eq, if_pos hs]
    exact ⟨_, rfl, cp_7 (cp_of a), su_eq, fun q hq => su_k hq⟩
  · rw [if_neg hs, klet_eq, if_neg hs]
    exact ⟨_, rfl, cp_7 (cp_of a), su_eq, fun q hq => su_k hq⟩
theorem c_pl_26f (a : CS B L p τ) {s : Int32} (w : ¬ (tkT B L p = 2 ∧ tkV B L p ≤ 6)) : ∃ ρ, fX4_needPlace_L26 5 s τ = some (false, ρ) ∧ CE (if tkT B L p = 2 then 2 else 1) (tkS B L p) ρ ∧ Fc τ ρ := by
  unfold fX4_needPlace_L26
  rw [a.2.1.1]
  by_cases h2 : tkT B L p = 2
  · have h7 := a.2.1.2.2.2 h2
    obtain ⟨ρ, e2, k1, k2⟩ := c_wrong (c := 2) a.2.1.2.1
    rw [if_pos h2, h7, if_neg (fun c => w ⟨h2, c⟩), e2, Option.bind_some, if_pos h2]
    exact ⟨ρ, rfl, k1, k2⟩
  · obtain ⟨ρ, e2, k1, k2⟩ := c_wrong (c := 1) a.2.1.2.1
    rw [if_neg h2, e2, Option.bind_some, if_neg h2]
    exact ⟨ρ, rfl, k1, k2⟩
theorem c_pl_q (h : CP B L p σ) : ∃ s τ, fX4_needPlace 5 σ = fX4_needPlace_L26 5 s τ ∧ CS B L (gQ B L p) τ ∧ Fc σ τ ∧ (s = 0 ↔ ¬ tkT B L p = 3) := by
  obtain ⟨τ, e1, a, b⟩ := cs_next h
  unfold fX4_needPlace fX4_needPlace_L17
  rw [e1, Option.bind_some, a.2.1.1]
  by_cases h3 : tkT B L p = 3
  · obtain ⟨κ, e2, a2, b2⟩ := cs_next (cp_of a)
    rw [if_pos h3, if_neg (by decide), e2, Option.bind_some]
    refine ⟨1, κ, rfl, ?_, fc_trans b b2, ⟨fun c => absurd c (by decide), fun c => absurd h3 c⟩⟩
    unfold gQ
    rw [if_pos h3]
    exact a2
  · rw [if_neg h3, if_pos rfl]
    refine ⟨0, τ, rfl, ?_, b, ⟨fun _ => h3, fun _ => rfl⟩⟩
    unfold gQ
    rw [if_neg h3]
    exact a
theorem c_pl_t (h : CP B L p σ) (e : gPl B L p = .inl (v, q)) : ∃ τ, fX4_needPlace 5 σ = some (true, τ) ∧ CP B L q τ ∧ τ 5 7 = v ∧ Fc σ τ := by
  obtain ⟨s, τ, e1, a, b, hs⟩ := c_pl_q h
  obtain ⟨w, r, ev, eq⟩ := gPl_f e
  obtain ⟨ρ, e2, k1, k2, k3⟩ := c_pl_26t a (s := s) w r
  subst eq
  refine ⟨ρ, by rw [e1, e2], k1, ?_, fc_trans b k3⟩
  rw [k2, ev]
  by_cases h3 : tkT B L p = 3
  · rw [if_pos h3, if_neg (fun c => hs.1 c h3)]
  · rw [if_neg h3, if_pos (hs.2 h3)]
theorem gPl_r (e : gPl B L p = .inr (c, q)) : ¬ (tkT B L (gQ B L p) = 2 ∧ tkV B L (gQ B L p) ≤ 6) ∧ c = (if tkT B L (gQ B L p) = 2 then 2 else 1) ∧ q = tkS B L (gQ B L p) := by
  unfold gPl at e
  by_cases w : tkT B L (gQ B L p) = 2
  · rw [if_pos w] at e
    by_cases r : tkV B L (gQ B L p) ≤ 6
    · rw [if_pos r] at e; cases e
    · rw [if_neg r] at e; cases e
      exact ⟨fun c => r c.2, by rw [if_pos w], rfl⟩
  · rw [if_neg w] at e; cases e
    exact ⟨fun c => w c.1, by rw [if_neg w], rfl⟩
theorem c_pl_f (h : CP B L p σ) (e : gPl B L p = .inr (c, q)) : ∃ τ, fX4_needPlace 5 σ = some (false, τ) ∧ CE c q τ ∧ Fc σ τ := by
  obtain ⟨s, τ, e1, a, b, hs⟩ := c_pl_q h
  obtain ⟨w, ec, eq⟩ := gPl_r e
  obtain ⟨ρ, e2, k1, k2⟩ := c_pl_26f a (s := s) w
  subst ec eq
  exact ⟨ρ, by rw [e1, e2], k1, fc_trans b k2⟩
theorem c_kind (a : CS B L p τ) : fX4_kindByWord 5 τ = some (gKd B L p) := by
  have w := fun t => c_isWord a.1 a.2.2.1 a.2.1 (t := t)
  unfold fX4_kindByWord gKd
  rw [w 2, w 3, w 4, w 5, Option.bind_some, Option.bind_some, Option.bind_some, Option.bind_some]
  split
  · rfl
  · split
    · rfl
    · split
      · rfl
      · split <;> rfl
/-- what a piece of the class's parser leaves -/
def FP (τ ρ : Sto) : Prop := ∀ q, q ≠ 5 → (q < 34 ∨ 42 < q) → ρ q = τ q
theorem fp_fc (h : Fc τ ρ) : FP τ ρ := fun q h1 _ => h q h1
theorem fp_fb (h : FB 34 τ ρ) : FP τ ρ := fun q _ h2 => h q (by omega)
theorem fp_trans {π : Sto} (h : FP τ ρ) (h' : FP ρ π) : FP τ π := fun q h1 h2 => by rw [h' q h1 h2, h q h1 h2]
theorem cp_fb (h : CP B L p σ) (hf : FB 34 σ τ) : CP B L p τ := by
  have h5 : τ 5 = σ 5 := hf 5 (by omega)
  have h6 : τ 6 = σ 6 := hf 6 (by omega)
  exact ⟨⟨h.1.1, by rw [h5]; exact h.1.2.1, fun i hi => by rw [h6]; exact h.1.2.2 i hi⟩, by rw [h5]; exact h.2.1, h.2.2.1, by rw [h5]; exact h.2.2.2.1, by rw [h5]; exact h.2.2.2.2⟩
def COK (B : Nat → Int32) (L : Nat) (r : PR (Vc × Nat)) (b : Bool) (ρ : Sto) : Prop := (∀ m' q, r = .inl (m', q) → b = true ∧ CP B L q ρ ∧ BX ρ 34 m') ∧ ∀ c q, r = .inr (c, q) → b = false ∧ CE c q ρ
theorem cok_t {r : PR (Vc × Nat)} (e : r = .inl (m', q)) (h1 : CP B L q ρ) (h2 : BX ρ 34 m') : COK B L r true ρ := by
  subst e
  exact ⟨fun m1 q1 c => by cases c; exact ⟨rfl, h1, h2⟩, fun c1 q1 c => by cases c⟩
theorem cok_f {r : PR (Vc × Nat)} (e : r = .inr (c, q)) (h1 : CE c q ρ) : COK B L r false ρ := by
  subst e
  exact ⟨fun m1 q1 c => (by cases c), fun c1 q1 c => (by cases c; exact ⟨rfl, h1⟩)⟩
theorem c_chip (a : CS B L p τ) (bx : BX τ 34 m) (ok : OKm m) {kd : Int32} : ∃ b ρ, fX4_readChip 5 34 kd τ = some (b, ρ) ∧ FP τ ρ ∧ COK B L (gCh B L kd m p) b ρ := by
  have hn := came_le ok
  unfold fX4_readChip
  rw [bx8 bx, came_eq ok]
  by_cases h30 : mN m = 30
  · obtain ⟨ρ, e2, k1, k2⟩ := c_wrong (c := 4) a.2.1.2.1
    rw [if_neg (by rw [h30]; decide), e2, Option.bind_some]
    exact ⟨false, ρ, rfl, fp_fc k2, cok_f (by unfold gCh; rw [if_pos h30]) k1⟩
  · rw [if_pos (show nI (mN m) < 30 from (dI_lt (b := 30) (by omega) (by omega)).2 (by omega))]
    unfold gCh
    rw [if_neg h30]
    rcases e1 : gNu B L 1 9 (tkE B L p) with ⟨v1, p1⟩ | ⟨c, q⟩
    · obtain ⟨τ1, f1, a1, n1, g1⟩ := c_nu_t (cp_of a) e1
      rw [f1, Option.bind_some, if_pos rfl, pb_l]
      rcases e2 : gNu B L 1 9 p1 with ⟨v2, p2⟩ | ⟨c, q⟩
      · obtain ⟨τ2, f2, a2, n2, g2⟩ := c_nu_t a1 e2
        rw [f2, Option.bind_some, if_pos rfl, pb_l]
        rcases e3 : gPl B L p2 with ⟨v3, p3⟩ | ⟨c, q⟩
        · obtain ⟨τ3, f3, a3, n3, g3⟩ := c_pl_t a2 e3
          rw [f3, Option.bind_some, if_pos rfl, pb_l]
          rcases e4 : gPl B L p3 with ⟨v4, p4⟩ | ⟨c, q⟩
          · obtain ⟨τ4, f4, a4, n4, g4⟩ := c_pl_t a3 e4
            rw [f4, Option.bind_some, if_pos rfl, pb_l]
            have hF := fc_trans (fc_trans (fc_trans g1 g2) g3) g4
            have bx4 := bx_fc bx hF
            have s5 : τ4 5 5 = nI (tkS B L (gQ B L p3)) := by
              obtain ⟨s, κ, x1, x2, x3, x4⟩ := c_pl_q a3
              obtain ⟨w, r, ev, eq⟩ := gPl_f e4
              obtain ⟨μ, y1, y2, y3, y4⟩ := c_pl_26t x2 (s := s) w r
              rw [x1, y1] at f4
              cases f4
              unfold fX4_needPlace_L26 at y1
              rw [x2.2.1.1, if_pos w, x2.2.1.2.2.2 w, if_pos r, klet_eq, klet_eq] at y1
              by_cases hs : s = 0
              · rw [if_pos hs] at y1
                cases y1
                rw [su_i (by decide)]; exact x2.2.1.2.1
              · rw [if_neg hs] at y1
                cases y1
                rw [su_i (by decide)]; exact x2.2.1.2.1
            have n3' : ((true, τ3) : Bool × Sto).2 5 7 = v3 := n3
            have n4' : ((true, τ4) : Bool × Sto).2 5 7 = v4 := n4
            have n1' : ((true, τ1) : Bool × Sto).2 5 7 = v1 := n1
            have n2' : ((true, τ2) : Bool × Sto).2 5 7 = v2 := n2
            rw [n1', n2', n3', n4', c_boxCell bx4.1 ok.2.1, Option.bind_some]
            show ∃ b ρ, _ ∧ FP τ ρ ∧ COK B L (if gBox (m 0) (m 1) v3 v4 = true then (if mBd m v3 v4 = -1 then (.inl (mAdd m kd v1 v2 v3 v4, p4) : PR (Vc × Nat)) else .inr (3, tkS B L (gQ B L p3))) else .inr (3, tkS B L (gQ B L p3))) b ρ
            cases hb : gBox (m 0) (m 1) v3 v4 with
            | false =>
              obtain ⟨ρ, x1, k1, k2⟩ := c_wrong (c := 3) s5
              rw [if_neg Bool.false_ne_true, if_pos rfl, x1, Option.bind_some, if_neg Bool.false_ne_true]
              exact ⟨false, ρ, rfl, fp_fc (fc_trans hF k2), cok_f rfl k1⟩
            | true =>
              have hR := near_R ok.2.1 (box_near hb)
              rw [if_pos rfl, if_neg (cell_ne1 hR), c_chipOn bx4 hR, Option.bind_some, if_pos rfl]
              by_cases hf : mBd m v3 v4 = -1
              · obtain ⟨ρ, x1, k1, k2⟩ := c_bring ok bx4 (kd := kd) (col := v1) (w := v2) (by omega) hb
                rw [if_pos hf, x1, Option.bind_some, if_pos hf]
                exact ⟨true, ρ, rfl, fp_trans (fp_fc hF) (fp_fb k2), cok_t rfl (cp_fb a4 k2) k1⟩
              · obtain ⟨ρ, x1, k1, k2⟩ := c_wrong (c := 3) s5
                rw [if_neg hf, x1, Option.bind_some, if_neg hf]
                exact ⟨false, ρ, rfl, fp_fc (fc_trans hF k2), cok_f rfl k1⟩
          · obtain ⟨ρ, f4, k1, k2⟩ := c_pl_f a3 e4
            rw [f4, Option.bind_some, if_neg Bool.false_ne_true, pb_r]
            exact ⟨false, ρ, rfl, fp_fc (fc_trans (fc_trans (fc_trans g1 g2) g3) k2), cok_f rfl k1⟩
        · obtain ⟨ρ, f3, k1, k2⟩ := c_pl_f a2 e3
          rw [f3, Option.bind_some, if_neg Bool.false_ne_true, pb_r]
          exact ⟨false, ρ, rfl, fp_fc (fc_trans (fc_trans g1 g2) k2), cok_f rfl k1⟩
      · obtain ⟨ρ, f2, k1, k2⟩ := c_nu_f a1 e2
        rw [f2, Option.bind_some, if_neg Bool.false_ne_true, pb_r]
        exact ⟨false, ρ, rfl, fp_fc (fc_trans g1 k2), cok_f rfl k1⟩
    · obtain ⟨ρ, f1, k1, k2⟩ := c_nu_f (cp_of a) e1
      rw [f1, Option.bind_some, if_neg Bool.false_ne_true, pb_r]
      exact ⟨false, ρ, rfl, fp_fc k2, cok_f rfl k1⟩
theorem isIn_nI {n : Nat} (hn : n < 1000) (h : fX7_isIn v 0 (nI n - 1) = true) : ∃ k, k < n ∧ v = nI k := by
  rcases idx_cases hn v with ⟨k, k1, k2, _⟩ | ⟨_, k2⟩
  · exact ⟨k, k1, k2⟩
  · exact absurd (h.symm.trans k2) (by decide)
theorem c_st (a : CS B L p τ) (bx : BX τ 34 m) (ok : OKm m) : ∃ b ρ, fX4_readStatement 5 34 τ = some (b, ρ) ∧ FP τ ρ ∧ COK B L (gSt B L m p) b ρ := by
  have w := fun t => c_isWord a.1 a.2.2.1 a.2.1 (t := t)
  have hd := @dirs_le (m 0)
  have hg := @many_le (m 0)
  unfold fX4_readStatement gSt
  rw [c_kind a, Option.bind_some]
  by_cases hk : gKd B L p = -1
  · rw [if_pos hk, if_pos hk, w 6, Option.bind_some]
    by_cases h6 : dB (WDt B L 6 p) = true
    · rw [if_pos h6, if_pos h6]
      unfold fX4_readDown
      rw [c_dirs bx.1]
      rcases e1 : gNu B L 0 (nI (gDirs (m 0)) - 1) (tkE B L p) with ⟨v1, p1⟩ | ⟨c, q⟩
      · obtain ⟨τ1, f1, a1, n1, g1⟩ := c_nu_t (cp_of a) e1
        have n1' : ((true, τ1) : Bool × Sto).2 5 7 = v1 := n1
        rw [f1, Option.bind_some, if_pos rfl, klet_eq, n1', Option.bind_some, pb_l]
        have k2 : FB 34 τ1 (su τ1 34 1 v1) := fun q hq => su_k (by omega)
        exact ⟨true, _, rfl, fp_trans (fp_fc g1) (fp_fb k2), cok_t rfl (cp_fb a1 k2) (bx_down (bx_fc bx g1))⟩
      · obtain ⟨ρ, f1, k1, k2⟩ := c_nu_f (cp_of a) e1
        rw [f1, Option.bind_some, if_neg Bool.false_ne_true, Option.bind_some, pb_r]
        exact ⟨false, ρ, rfl, fp_fc k2, cok_f rfl k1⟩
    · rw [if_neg h6, if_neg h6, w 7, Option.bind_some]
      by_cases h7 : dB (WDt B L 7 p) = true
      · rw [if_pos h7, if_pos h7]
        unfold fX4_readKeep
        rcases e1 : gNu B L 1 100 (tkE B L p) with ⟨v1, p1⟩ | ⟨c, q⟩
        · obtain ⟨τ1, f1, a1, n1, g1⟩ := c_nu_t (cp_of a) e1
          have n1' : ((true, τ1) : Bool × Sto).2 5 7 = v1 := n1
          rw [f1, Option.bind_some, if_pos rfl, klet_eq, n1', Option.bind_some, pb_l]
          have k2 : FB 34 τ1 (su τ1 34 2 v1) := fun q hq => su_k (by omega)
          exact ⟨true, _, rfl, fp_trans (fp_fc g1) (fp_fb k2), cok_t rfl (cp_fb a1 k2) (bx_keep (bx_fc bx g1))⟩
        · obtain ⟨ρ, f1, k1, k2⟩ := c_nu_f (cp_of a) e1
          rw [f1, Option.bind_some, if_neg Bool.false_ne_true, Option.bind_some, pb_r]
          exact ⟨false, ρ, rfl, fp_fc k2, cok_f rfl k1⟩
      · rw [if_neg h7, if_neg h7, w 8, Option.bind_some]
        by_cases h8 : dB (WDt B L 8 p) = true
        · rw [if_pos h8, if_pos h8]
          unfold fX4_readCover
          rw [c_many bx.1]
          rcases e1 : gNu B L 0 (nI (gMany (m 0)) - 1) (tkE B L p) with ⟨v1, p1⟩ | ⟨c, q⟩
          · obtain ⟨τ1, f1, a1, n1, g1⟩ := c_nu_t (cp_of a) e1
            obtain ⟨_, b1, _, c1⟩ := gNu_f e1
            obtain ⟨j, hj, ej⟩ := isIn_nI (by omega) b1
            subst ej
            have bx1 := bx_fc bx g1
            have n1' : ((true, τ1) : Bool × Sto).2 5 7 = nI j := n1
            rw [f1, Option.bind_some, if_pos rfl, n1', c_isCovered ok bx1 (by omega), pb_l]
            show ∃ b ρ, _ ∧ FP τ ρ ∧ COK B L (if (mV m).testBit (nI j).toNatClampNeg = true then (.inr (3, tkS B L (tkE B L p)) : PR (Vc × Nat)) else .inl (mCov m (nI j).toNatClampNeg, p1)) b ρ
            rw [nI_n (show j < 2147483648 by omega)]
            have s5 : τ1 5 5 = nI (tkS B L (tkE B L p)) := by
              obtain ⟨κ, x1, x2, x3⟩ := cs_next (cp_of a)
              obtain ⟨y1, y2, y3, _⟩ := gNu_f e1
              have hr := isIn_iff.1 y2
              unfold fX4_needNumber at f1
              rw [x1, Option.bind_some, x2.2.1.1, if_pos y1, x2.2.1.2.2.2 y1, ← y3, if_neg (by have := hr.1; grind), if_pos hr.2] at f1
              cases f1
              exact x2.2.1.2.1
            by_cases ht : (mV m).testBit j = true
            · obtain ⟨ρ, y1, k1, k2⟩ := c_wrong (c := 3) s5
              rw [if_pos ht, y1, Option.bind_some, Option.bind_some, if_pos ht]
              exact ⟨false, ρ, rfl, fp_fc (fc_trans g1 k2), cok_f rfl k1⟩
            · obtain ⟨y1, y2⟩ := c_setCov ok bx1 (j := j) (bb := true) (by omega) (by rw [Bool.not_eq_true] at ht; rw [ht]; decide)
              have y1' : fX5_setCovered 34 (nI j) 1 τ1 = su τ1 34 4 (nI (mV m ^^^ 2 ^ j)) := y1
              rw [if_neg ht, y1', Option.bind_some, Option.bind_some, if_neg ht]
              have k2 : FB 34 τ1 (su τ1 34 4 (nI (mV m ^^^ 2 ^ j))) := fun q hq => su_k (by omega)
              exact ⟨true, _, rfl, fp_trans (fp_fc g1) (fp_fb k2), cok_t rfl (cp_fb a1 k2) y2⟩
          · obtain ⟨ρ, f1, k1, k2⟩ := c_nu_f (cp_of a) e1
            rw [f1, Option.bind_some, if_neg Bool.false_ne_true, Option.bind_some, pb_r]
            exact ⟨false, ρ, rfl, fp_fc k2, cok_f rfl k1⟩
        · obtain ⟨ρ, e2, k1, k2⟩ := c_wrong (c := 1) a.2.1.2.1
          rw [if_neg h8, if_neg h8, e2, Option.bind_some]
          exact ⟨false, ρ, rfl, fp_fc k2, cok_f rfl k1⟩
  · rw [if_neg hk, if_neg hk]
    obtain ⟨b, ρ, e, h1, h2⟩ := c_chip a bx ok (kd := gKd B L p)
    rw [e, Option.bind_some]
    exact ⟨b, ρ, rfl, h1, h2⟩
def CLK (r : PR Vc) (b : Bool) (ρ : Sto) : Prop := (∀ m', r = .inl m' → b = true ∧ BX ρ 34 m' ∧ OKm m' ∧ Zr m' ∧ ρ 5 2 = 0 ∧ ρ 5 3 = -1) ∧ ∀ c q, r = .inr (c, q) → b = false ∧ CE c q ρ
theorem clk_f {r : PR Vc} (e : r = .inr (c, q)) (h1 : CE c q ρ) : CLK r false ρ := by
  subst e
  exact ⟨fun m1 c => (by cases c), fun c1 q1 c => (by cases c; exact ⟨rfl, h1⟩)⟩
theorem c_loop (hB : BY B L) (n : Nat) : ∀ (v fu p : Nat) (m : Vc) (σ : Sto), L + 1 ≤ p + n → v ≤ p → n < fu → CP B L p σ → BX σ 34 m → OKm m → Zr m → ∃ b ρ, fX4_read_L27 5 34 fu (nI v) σ = some (b, ρ) ∧ FP σ ρ ∧ CLK (gLp B L n m p) b ρ := by
  induction n with
  | zero =>
    intro v fu p m σ h1 h2 h3 h4
    have := h4.2.2.1
    omega
  | succ n ih =>
    intro v fu p m σ h1 h2 h3 h4 bx ok hz
    have hp := h4.2.2.1
    have hL := h4.1.1
    match fu, h3 with
    | fu + 1, h3 =>
      obtain ⟨τ, e1, a, b⟩ := cs_next h4
      have bx1 := bx_fc bx b
      rw [fX4_read_L27.eq_2, h4.1.2.1, if_neg (by rw [dI_lt (by omega) (by omega)]; omega), e1, Option.bind_some, a.2.1.1, gLp.eq_2]
      by_cases h0 : tkT B L p = 0
      · rw [if_pos h0, if_pos h0]
        exact ⟨true, τ, rfl, fp_fc b, ⟨fun m1 c => by cases c; exact ⟨rfl, bx1, ok, hz, a.2.2.2⟩, fun c1 q1 c => by cases c⟩⟩
      · rw [if_neg h0, if_neg h0]
        obtain ⟨bb, ρ, e2, f2, k2⟩ := c_st a bx1 ok
        rw [e2, Option.bind_some]
        unfold gSS
        rcases e3 : gSt B L m p with ⟨m1, q1⟩ | ⟨c, q⟩
        · obtain ⟨eb, cp1, bx2⟩ := k2.1 m1 q1 e3
          subst eb
          rw [if_pos rfl, pb_l]
          show ∃ b ρ, _ ∧ _ ∧ CLK (pb (pb (gTk B L 4 q1) fun q => .inl (m1, q)) fun r => gLp B L n r.1 r.2) b ρ
          rcases e4 : gTk B L 4 q1 with q2 | ⟨c, q⟩
          · obtain ⟨κ, f4, cp2, g4, _, _⟩ := c_tk_t cp1 e4
            have hS := gSS_ok (m' := m1) (q := q2) hB ok hz hp (by unfold gSS; rw [e3, pb_l]; show pb (gTk B L 4 q1) _ = _; rw [e4, pb_l])
            rw [f4, Option.bind_some, if_pos rfl, pb_l, pb_l, nI_add1]
            obtain ⟨b3, π, e5, f5, k5⟩ := ih (v + 1) fu q2 m1 κ (by omega) (by omega) (by omega) cp2 (bx_fc bx2 g4) hS.1 hS.2.1
            exact ⟨b3, π, e5, fp_trans (fp_trans (fp_trans (fp_fc b) f2) (fp_fc g4)) f5, k5⟩
          · obtain ⟨κ, f4, k4, g4⟩ := c_tk_f cp1 e4
            rw [f4, Option.bind_some, if_neg Bool.false_ne_true, pb_r, pb_r]
            exact ⟨false, κ, rfl, fp_trans (fp_trans (fp_fc b) f2) (fp_fc g4), clk_f rfl k4⟩
        · obtain ⟨eb, ce⟩ := k2.2 c q e3
          subst eb
          rw [if_neg Bool.false_ne_true, pb_r, pb_r]
          exact ⟨false, ρ, rfl, fp_trans (fp_fc b) f2, clk_f rfl ce⟩
theorem angle_eq (a : Int32) : fX1_isAngle a = fX7_isAngle a := by
  unfold fX1_isAngle fX7_isAngle
  repeat' split
  all_goals first | rfl | simp_all
theorem angle_ok {a : Int32} (h : fX7_isAngle a = true) : gAng a := by
  unfold fX7_isAngle at h
  unfold gAng
  by_cases h1 : a = 180
  · exact .inl h1
  · rw [if_neg h1] at h
    by_cases h2 : a = 90
    · exact .inr (.inl h2)
    · rw [if_neg h2] at h
      by_cases h3 : a = 45
      · exact .inr (.inr (.inl h3))
      · rw [if_neg h3] at h
        by_cases h4 : a = 60
        · exact .inr (.inr (.inr (.inl h4)))
        · rw [if_neg h4] at h
          by_cases h5 : a = 30
          · exact .inr (.inr (.inr (.inr h5)))
          · rw [if_neg h5] at h; cases h
theorem c_read (hB : BY B L) (hT : TC B L σ) : ∃ b ρ, fX4_read 5 34 σ = some (b, ρ) ∧ FP σ ρ ∧ CLK (gAll B L) b ρ := by
  have hL := hT.1
  unfold fX4_read
  rw [klet_eq, klet_eq, klet_eq]
  have h0 : CP B L 0 (su (su (su σ 5 2 0) 5 3 (-1)) 5 6 0) := ⟨⟨hL, by rw [su_i (by decide), su_i (by decide), su_i (by decide)]; exact hT.2.1, fun i hi => by rw [su_k (by decide), su_k (by decide), su_k (by decide)]; exact hT.2.2 i hi⟩, su_eq, by omega, by rw [su_i (by decide), su_i (by decide), su_eq], by rw [su_i (by decide), su_eq]⟩
  have f0 : Fc σ (su (su (su σ 5 2 0) 5 3 (-1)) 5 6 0) := fun q hq => by rw [su_k hq, su_k hq, su_k hq]
  generalize su (su (su σ 5 2 0) 5 3 (-1)) 5 6 0 = σ3 at h0 f0
  unfold fX4_readHead gAll
  rcases e1 : gWd B L 0 0 with p1 | ⟨c, q⟩
  · obtain ⟨τ1, f1, a1, g1⟩ := c_wd_t h0 e1
    rw [f1, Option.bind_some, if_pos rfl, pb_l]
    by_cases h2 : tkT B L p1 = 2
    · obtain ⟨τ2, f2, a2, g2, n2, s2⟩ := c_tk_t a1 (t := 2) (q := tkE B L p1) (by unfold gTk; rw [if_pos h2])
      have n2' : ((true, τ2) : Bool × Sto).2 5 7 = tkV B L p1 := n2 rfl
      rw [f2, Option.bind_some, if_pos rfl, n2', angle_eq, if_pos h2]
      by_cases h3 : fX7_isAngle (tkV B L p1) = true
      · rw [if_pos h3, if_pos h3]
        rcases e3 : gWd B L 1 (tkE B L p1) with p3 | ⟨c, q⟩
        · obtain ⟨τ3, f3, a3, g3⟩ := c_wd_t a2 e3
          rw [f3, Option.bind_some, if_pos rfl, pb_l]
          rcases e4 : gNu B L 1 6 p3 with ⟨v4, p4⟩ | ⟨c, q⟩
          · obtain ⟨τ4, f4, a4, n4, g4⟩ := c_nu_t a3 e4
            obtain ⟨_, b4, _, _⟩ := gNu_f e4
            have hr : rOK v4 := isIn_iff.1 b4
            have n4' : ((true, τ4) : Bool × Sto).2 5 7 = v4 := n4
            obtain ⟨τ5, f5, bx5, g5⟩ := c_begin (σ := τ4) (b := 34) (angle_ok h3) hr
            rw [f4, Option.bind_some, if_pos rfl, n4', f5, Option.bind_some, pb_l]
            show ∃ b ρ, _ ∧ _ ∧ CLK (pb (gTk B L 4 p4) fun p3 => gLp B L (L + 1) (mNew (tkV B L p1) v4) p3) b ρ
            have a5 := cp_fb a4 g5
            have hF := fp_trans (fp_fc (fc_trans (fc_trans (fc_trans (fc_trans f0 g1) g2) g3) g4)) (fp_fb g5)
            rcases e6 : gTk B L 4 p4 with p6 | ⟨c, q⟩
            · obtain ⟨τ6, f6, a6, g6, _, _⟩ := c_tk_t a5 e6
              rw [f6, Option.bind_some, Option.bind_some, if_pos rfl, pb_l]
              obtain ⟨b7, ρ, e7, f7, k7⟩ := c_loop hB (L + 1) 0 kFU p6 (mNew (tkV B L p1) v4) τ6 (by omega) (by omega) (by unfold kFU; omega) a6 (bx_fc bx5 g6) (ok_new (angle_ok h3) hr) zr_new
              exact ⟨b7, ρ, e7, fp_trans (fp_trans hF (fp_fc g6)) f7, k7⟩
            · obtain ⟨ρ, f6, k6, g6⟩ := c_tk_f a5 e6
              rw [f6, Option.bind_some, Option.bind_some, if_neg Bool.false_ne_true, pb_r]
              exact ⟨false, ρ, rfl, fp_trans hF (fp_fc g6), clk_f rfl k6⟩
          · obtain ⟨ρ, f4, k1, k2⟩ := c_nu_f a3 e4
            rw [f4, Option.bind_some, if_neg Bool.false_ne_true, Option.bind_some, if_neg Bool.false_ne_true, pb_r]
            exact ⟨false, ρ, rfl, fp_fc (fc_trans (fc_trans (fc_trans (fc_trans f0 g1) g2) g3) k2), clk_f rfl k1⟩
        · obtain ⟨ρ, f3, k1, k2⟩ := c_wd_f a2 e3
          rw [f3, Option.bind_some, if_neg Bool.false_ne_true, Option.bind_some, if_neg Bool.false_ne_true, pb_r]
          exact ⟨false, ρ, rfl, fp_fc (fc_trans (fc_trans (fc_trans f0 g1) g2) k2), clk_f rfl k1⟩
      · obtain ⟨ρ, y1, k1, k2⟩ := c_wrong (c := 2) s2.2.1.2.1
        rw [if_neg h3, if_neg h3, y1, Option.bind_some, Option.bind_some, if_neg Bool.false_ne_true]
        exact ⟨false, ρ, rfl, fp_fc (fc_trans (fc_trans (fc_trans f0 g1) g2) k2), clk_f rfl k1⟩
    · obtain ⟨ρ, f2, k1, k2⟩ := c_tk_f a1 (t := 2) (c := 1) (q := tkS B L p1) (by unfold gTk; rw [if_neg h2])
      rw [f2, Option.bind_some, if_neg Bool.false_ne_true, Option.bind_some, if_neg Bool.false_ne_true, if_neg h2]
      exact ⟨false, ρ, rfl, fp_fc (fc_trans (fc_trans f0 g1) k2), clk_f rfl k1⟩
  · obtain ⟨ρ, f1, k1, k2⟩ := c_wd_f h0 e1
    rw [f1, Option.bind_some, if_neg Bool.false_ne_true, Option.bind_some, if_neg Bool.false_ne_true, pb_r]
    exact ⟨false, ρ, rfl, fp_fc (fc_trans f0 k2), clk_f rfl k1⟩
end CPA
