/-! the own maps of a picture that is wholly seen; the maps as a set -/
def ownOK (a : Int32) (k i : Nat) : Bool := !(gNear a 6 (mx i) (my i)) || decide ((gSee a 0 (gMap a k (mx i, my i))).map (fun s => s.2) = (gSee a 0 (mx i, my i)).map (fun s => s.2))
def ownL (a : Int32) : List Nat := if a = 180 then [4] else if a = 90 then [2, 4, 6] else if a = 45 then [1, 2, 3, 4, 5, 6, 7] else if a = 60 then [2, 4, 6, 8, 10] else [1, 2, 3, 4, 5, 6, 7, 8, 9, 10, 11]
theorem ownOK_fin : ∀ i, i < 169 → ((ownL 180).all (fun k => ownOK 180 k i) && ((ownL 90).all (fun k => ownOK 90 k i) && ((ownL 45).all (fun k => ownOK 45 k i) && ((ownL 60).all (fun k => ownOK 60 k i) && (ownL 30).all (fun k => ownOK 30 k i))))) = true := by decide +kernel
theorem ownOK_at {a : Int32} (ha : gAng a) {k i : Nat} (hk : k ∈ ownL a) (hi : i < 169) : ownOK a k i = true := by
  have h := ownOK_fin i hi
  simp only [Bool.and_eq_true] at h
  obtain ⟨h1, h2, h3, h4, h5⟩ := h
  rcases ha with rfl | rfl | rfl | rfl | rfl
  · exact List.all_eq_true.mp h1 k hk
  · exact List.all_eq_true.mp h2 k hk
  · exact List.all_eq_true.mp h3 k hk
  · exact List.all_eq_true.mp h4 k hk
  · exact List.all_eq_true.mp h5 k hk
theorem own_see {a r : Int32} (ha : gAng a) (hr : rOK r) {k : Nat} (hk : k ∈ ownL a) {x y : Int32} (hp : gNear a r x y = true) : (gSee a 0 (gMap a k (x, y))).map (fun s => s.2) = (gSee a 0 (x, y)).map (fun s => s.2) := by
  have hS := near_S hr hp
  have h := ownOK_at ha hk (mk_lt hS)
  unfold ownOK at h
  rw [mx_mk hS, my_mk hS, near6 hr hp] at h
  simpa using h
theorem colC_map {m : Vc} {o p : Option (Nat × Int32 × Int32)} (h : o.map (fun s => s.2) = p.map (fun s => s.2)) : mColC m o = mColC m p := by
  cases o with
  | none => cases p with
    | none => rfl
    | some q => cases h
  | some s => cases p with
    | none => cases h
    | some q =>
      have e : s.2 = q.2 := Option.some.inj h
      unfold mColC
      simp only [e]
theorem brg_own {m : Vc} (ok : OKm m) (h0 : mV m = 0) {k : Nat} (hk : k ∈ ownL (m 0)) : BRG m m k := by
  intro x y hn
  have hn2 := near_map ok.1 ok.2.1 (k := k) (p := (x, y)) hn
  unfold mCol
  rw [see_of hn, see_of hn2, h0]
  exact (colC_map (own_see ok.1 ok.2.1 hk hn)).symm
def gS (b : Nat → Bool) (n : Nat) : Int32 := fld (fun i v => v ||| (if b i = true then 1 <<< (nI i &&& 31) else 0)) 0 n
theorem gS_fin8 : ∀ b0 b1 b2 b3 b4 b5 b6 b7 : Bool, ((!b0 || decide (¬ (gS (fun i => ([b0, b1, b2, b3, b4, b5, b6, b7] : List Bool).getD i false) 8 &&& 1) = 0)) && ((!(b0 && b4) || decide (17 &&& (gS (fun i => ([b0, b1, b2, b3, b4, b5, b6, b7] : List Bool).getD i false) 8 ^^^ (-1)) = 0)) && ((!(b0 && b2 && b4 && b6) || decide (85 &&& (gS (fun i => ([b0, b1, b2, b3, b4, b5, b6, b7] : List Bool).getD i false) 8 ^^^ (-1)) = 0)) && ((!(b0 && b1 && b2 && b3 && b4 && b5 && b6 && b7) || decide (255 &&& (gS (fun i => ([b0, b1, b2, b3, b4, b5, b6, b7] : List Bool).getD i false) 8 ^^^ (-1)) = 0)))))) = true := by decide +kernel
theorem gS_fin12 : ∀ b0 b1 b2 b3 b4 b5 b6 b7 b8 b9 b10 b11 : Bool, ((!b0 || decide (¬ (gS (fun i => ([b0, b1, b2, b3, b4, b5, b6, b7, b8, b9, b10, b11] : List Bool).getD i false) 12 &&& 1) = 0)) && ((!(b0 && b2 && b4 && b6 && b8 && b10) || decide (1365 &&& (gS (fun i => ([b0, b1, b2, b3, b4, b5, b6, b7, b8, b9, b10, b11] : List Bool).getD i false) 12 ^^^ (-1)) = 0)) && ((!(b0 && b1 && b2 && b3 && b4 && b5 && b6 && b7 && b8 && b9 && b10 && b11) || decide (4095 &&& (gS (fun i => ([b0, b1, b2, b3, b4, b5, b6, b7, b8, b9, b10, b11] : List Bool).getD i false) 12 ^^^ (-1)) = 0))))) = true := by decide +kernel
theorem gS_e8 (b : Nat → Bool) : gS b 8 = gS (fun i => ([b 0, b 1, b 2, b 3, b 4, b 5, b 6, b 7] : List Bool).getD i false) 8 := rfl
theorem gS_e12 (b : Nat → Bool) : gS b 12 = gS (fun i => ([b 0, b 1, b 2, b 3, b 4, b 5, b 6, b 7, b 8, b 9, b 10, b 11] : List Bool).getD i false) 12 := rfl
theorem sym_gS (m : Vc) (n : Nat) : gSym m n = gS (fun i => dB (BRG m m i)) n := rfl
/-- to stay is a map of each picture; the own maps are, if no mirror is covered -/
theorem sym_ok {m : Vc} (ok : OKm m) : ¬ (gSym m (2 * gHalf (m 0)) &&& 1) = 0 ∧ (mV m = 0 → gOwn (m 0) &&& (gSym m (2 * gHalf (m 0)) ^^^ (-1)) = 0) := by
  have hh := @half_le (m 0)
  have h0 : dB (BRG m m 0) = true := dB_t (brg_0 m (by omega))
  have hb : mV m = 0 → ∀ k, k ∈ ownL (m 0) → dB (BRG m m k) = true := fun h k hk => dB_t (brg_own ok h hk)
  rw [sym_gS]
  generalize hB : (fun i => dB (BRG m m i)) = B
  have hB' : ∀ i, dB (BRG m m i) = B i := fun i => by rw [← hB]
  simp only [hB'] at h0 hb
  rcases ok.1 with ha | ha | ha | ha | ha
  · rw [ha] at hb ⊢
    rw [show 2 * gHalf 180 = 8 by decide, gS_e8]
    have hf := gS_fin8 (B 0) (B 1) (B 2) (B 3) (B 4) (B 5) (B 6) (B 7)
    simp only [Bool.and_eq_true] at hf
    refine ⟨?_, fun h => ?_⟩
    · have h1 := hf.1
      rw [h0] at h1 ⊢
      simpa using h1
    · have h1 := hf.2.1
      rw [h0, hb h 4 (by decide)] at h1 ⊢
      rw [show gOwn 180 = 17 by decide]
      simpa using h1
  · rw [ha] at hb ⊢
    rw [show 2 * gHalf 90 = 8 by decide, gS_e8]
    have hf := gS_fin8 (B 0) (B 1) (B 2) (B 3) (B 4) (B 5) (B 6) (B 7)
    simp only [Bool.and_eq_true] at hf
    refine ⟨?_, fun h => ?_⟩
    · have h1 := hf.1
      rw [h0] at h1 ⊢
      simpa using h1
    · have h1 := hf.2.2.1
      rw [h0, hb h 2 (by decide), hb h 4 (by decide), hb h 6 (by decide)] at h1 ⊢
      rw [show gOwn 90 = 85 by decide]
      simpa using h1
  · rw [ha] at hb ⊢
    rw [show 2 * gHalf 45 = 8 by decide, gS_e8]
    have hf := gS_fin8 (B 0) (B 1) (B 2) (B 3) (B 4) (B 5) (B 6) (B 7)
    simp only [Bool.and_eq_true] at hf
    refine ⟨?_, fun h => ?_⟩
    · have h1 := hf.1
      rw [h0] at h1 ⊢
      simpa using h1
    · have h1 := hf.2.2.2
      rw [h0, hb h 1 (by decide), hb h 2 (by decide), hb h 3 (by decide), hb h 4 (by decide), hb h 5 (by decide), hb h 6 (by decide), hb h 7 (by decide)] at h1 ⊢
      rw [show gOwn 45 = 255 by decide]
      simpa using h1
  · rw [ha] at hb ⊢
    rw [show 2 * gHalf 60 = 12 by decide, gS_e12]
    have hf := gS_fin12 (B 0) (B 1) (B 2) (B 3) (B 4) (B 5) (B 6) (B 7) (B 8) (B 9) (B 10) (B 11)
    simp only [Bool.and_eq_true] at hf
    refine ⟨?_, fun h => ?_⟩
    · have h1 := hf.1
      rw [h0] at h1 ⊢
      simpa using h1
    · have h1 := hf.2.1
      rw [h0, hb h 2 (by decide), hb h 4 (by decide), hb h 6 (by decide), hb h 8 (by decide), hb h 10 (by decide)] at h1 ⊢
      rw [show gOwn 60 = 1365 by decide]
      simpa using h1
  · rw [ha] at hb ⊢
    rw [show 2 * gHalf 30 = 12 by decide, gS_e12]
    have hf := gS_fin12 (B 0) (B 1) (B 2) (B 3) (B 4) (B 5) (B 6) (B 7) (B 8) (B 9) (B 10) (B 11)
    simp only [Bool.and_eq_true] at hf
    refine ⟨?_, fun h => ?_⟩
    · have h1 := hf.1
      rw [h0] at h1 ⊢
      simpa using h1
    · have h1 := hf.2.2
      rw [h0, hb h 1 (by decide), hb h 2 (by decide), hb h 3 (by decide), hb h 4 (by decide), hb h 5 (by decide), hb h 6 (by decide), hb h 7 (by decide), hb h 8 (by decide), hb h 9 (by decide), hb h 10 (by decide), hb h 11 (by decide)] at h1 ⊢
      rw [show gOwn 30 = 4095 by decide]
      simpa using h1
section HM
variable {σ τ ρ : Sto} {m : Vc} {ps : List Vc}
theorem own_1 {a : Int32} (ha : gAng a) : ¬ (gOwn a &&& 1) = 0 := by
  rcases ha with rfl | rfl | rfl | rfl | rfl <;> decide
theorem k_maps43 (h : INV m ps σ) : ∃ τ, fL_hasMaps_L43 σ = some (true, τ) ∧ INV m ps τ ∧ AX σ τ := by
  obtain ⟨τ, e1, hI, ⟨h3, hb⟩, hA⟩ := k_save h
  obtain ⟨ρ, e2, f2⟩ := k_matches hI h3 hb
  refine ⟨ρ, ?_, inv_cx hI f2, ax_trans hA (ax_cx f2)⟩
  unfold fL_hasMaps_L43
  rw [e1, Option.bind_some, if_pos rfl, e2, Option.bind_some, if_pos rfl, if_pos rfl]
theorem k_hasMaps (h : INV m ps σ) : ∃ τ, fL_hasMaps σ = some (true, τ) ∧ INV m ps τ ∧ AX σ τ := by
  have ok := h.1.1
  obtain ⟨τ, e1, f1⟩ := k_symmetries h.1
  have hI := inv_cx h f1
  obtain ⟨ρ, e2, hI2, hA⟩ := k_maps43 hI
  refine ⟨ρ, ?_, hI2, ax_trans (ax_cx f1) hA⟩
  unfold fL_hasMaps
  rw [e1, Option.bind_some]
  dsimp only
  rw [if_neg (sym_ok ok).1, k_ownMaps hI.1, if_neg (own_1 ok.1), k_count_10 hI.1, Option.bind_some, if_pos rfl]
  dsimp only
  by_cases h6 : m 6 = 0
  · rw [if_pos h6, if_pos ((sym_ok ok).2 (by unfold mV; rw [h6]; rfl)), e2]
  · rw [if_neg h6, e2]
end HM
